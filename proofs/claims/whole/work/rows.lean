section
-- ===== PART A: goes FIRST, ahead of the names: the tables' words, and 'selects' of the private methods out of them =====
/-- a private method of a class that the tables say can be made, by its rows of tables_1 -/
def lw_okq (q : MethodName × Nat) : Prop := (q.1.cls ≠ "java/lang/invoke/MethodHandle" ∧ q.1.cls ≠ "java/lang/invoke/VarHandle") ∧ Cond.instantiable q.1.cls q.2 ∈ tables_1 ∧ Cond.privateMethod q.1 ∈ tables_1 ∧ Cond.instanceMethod q.1 ∈ tables_1
theorem lw_p0 : lw_okq (⟨"BoxedProofs", "makeFormula", "(III)I"⟩, 9) := ⟨⟨by decide +kernel, by decide +kernel⟩, List.mem_of_getElem? (i := 16) (by decide +kernel), List.mem_of_getElem? (i := 231) (by decide +kernel), List.mem_of_getElem? (i := 232) (by decide +kernel)⟩
theorem lw_p1 : lw_okq (⟨"BoxedProofs$Formulas", "find", "(III)I"⟩, 4) := ⟨⟨by decide +kernel, by decide +kernel⟩, List.mem_of_getElem? (i := 30) (by decide +kernel), List.mem_of_getElem? (i := 239) (by decide +kernel), List.mem_of_getElem? (i := 240) (by decide +kernel)⟩
theorem lw_p2 : lw_okq (⟨"BoxedProofs$History", "at", "(I)LBoxedProofs$State;"⟩, 3) := ⟨⟨by decide +kernel, by decide +kernel⟩, List.mem_of_getElem? (i := 130) (by decide +kernel), List.mem_of_getElem? (i := 251) (by decide +kernel), List.mem_of_getElem? (i := 252) (by decide +kernel)⟩
theorem lw_p3 : lw_okq (⟨"BoxedProofs$Formulas", "firstCode", "(I)I"⟩, 4) := ⟨⟨by decide +kernel, by decide +kernel⟩, List.mem_of_getElem? (i := 30) (by decide +kernel), List.mem_of_getElem? (i := 330) (by decide +kernel), List.mem_of_getElem? (i := 331) (by decide +kernel)⟩
theorem lw_p4 : lw_okq (⟨"BoxedProofs$Formulas", "truthOf", "(IILBoxedProofs$Row;)I"⟩, 4) := ⟨⟨by decide +kernel, by decide +kernel⟩, List.mem_of_getElem? (i := 30) (by decide +kernel), List.mem_of_getElem? (i := 345) (by decide +kernel), List.mem_of_getElem? (i := 346) (by decide +kernel)⟩
theorem lw_p5 : lw_okq (⟨"BoxedProofs", "write", "(IIIII)I"⟩, 9) := ⟨⟨by decide +kernel, by decide +kernel⟩, List.mem_of_getElem? (i := 16) (by decide +kernel), List.mem_of_getElem? (i := 361) (by decide +kernel), List.mem_of_getElem? (i := 362) (by decide +kernel)⟩
theorem lw_p6 : lw_okq (⟨"BoxedProofs$Proof", "isNoneOrOpen", "(I)Z"⟩, 12) := ⟨⟨by decide +kernel, by decide +kernel⟩, List.mem_of_getElem? (i := 67) (by decide +kernel), List.mem_of_getElem? (i := 420) (by decide +kernel), List.mem_of_getElem? (i := 421) (by decide +kernel)⟩
theorem lw_p7 : lw_okq (⟨"BoxedProofs", "writeMade", "(IIIIII)I"⟩, 9) := ⟨⟨by decide +kernel, by decide +kernel⟩, List.mem_of_getElem? (i := 16) (by decide +kernel), List.mem_of_getElem? (i := 428) (by decide +kernel), List.mem_of_getElem? (i := 429) (by decide +kernel)⟩
theorem lw_p8 : lw_okq (⟨"BoxedProofs$Proof", "directNeeds", "(I)J"⟩, 12) := ⟨⟨by decide +kernel, by decide +kernel⟩, List.mem_of_getElem? (i := 67) (by decide +kernel), List.mem_of_getElem? (i := 486) (by decide +kernel), List.mem_of_getElem? (i := 487) (by decide +kernel)⟩
theorem lw_p9 : lw_okq (⟨"BoxedProofs$Proof", "countLineReferences", "(I)I"⟩, 12) := ⟨⟨by decide +kernel, by decide +kernel⟩, List.mem_of_getElem? (i := 67) (by decide +kernel), List.mem_of_getElem? (i := 490) (by decide +kernel), List.mem_of_getElem? (i := 491) (by decide +kernel)⟩
theorem lw_p10 : lw_okq (⟨"BoxedProofs$Proof", "assumptionsFrom", "(I)J"⟩, 12) := ⟨⟨by decide +kernel, by decide +kernel⟩, List.mem_of_getElem? (i := 67) (by decide +kernel), List.mem_of_getElem? (i := 527) (by decide +kernel), List.mem_of_getElem? (i := 528) (by decide +kernel)⟩
theorem lw_p11 : lw_okq (⟨"BoxedProofs", "lowestFailure", "(II)I"⟩, 9) := ⟨⟨by decide +kernel, by decide +kernel⟩, List.mem_of_getElem? (i := 16) (by decide +kernel), List.mem_of_getElem? (i := 552) (by decide +kernel), List.mem_of_getElem? (i := 553) (by decide +kernel)⟩
theorem lw_p12 : lw_okq (⟨"BoxedProofs$Proof", "bypassIn", "(LBoxedProofs$Row;I)I"⟩, 12) := ⟨⟨by decide +kernel, by decide +kernel⟩, List.mem_of_getElem? (i := 67) (by decide +kernel), List.mem_of_getElem? (i := 581) (by decide +kernel), List.mem_of_getElem? (i := 582) (by decide +kernel)⟩
theorem lw_p13 : lw_okq (⟨"BoxedProofs$Proof", "keepBoxes", "(J)J"⟩, 12) := ⟨⟨by decide +kernel, by decide +kernel⟩, List.mem_of_getElem? (i := 67) (by decide +kernel), List.mem_of_getElem? (i := 593) (by decide +kernel), List.mem_of_getElem? (i := 594) (by decide +kernel)⟩
theorem lw_p14 : lw_okq (⟨"BoxedProofs$Proof", "moveLine", "(IIJJ)V"⟩, 12) := ⟨⟨by decide +kernel, by decide +kernel⟩, List.mem_of_getElem? (i := 67) (by decide +kernel), List.mem_of_getElem? (i := 606) (by decide +kernel), List.mem_of_getElem? (i := 607) (by decide +kernel)⟩
theorem lw_p15 : lw_okq (⟨"BoxedProofs$Proof", "findEnds", "()V"⟩, 12) := ⟨⟨by decide +kernel, by decide +kernel⟩, List.mem_of_getElem? (i := 67) (by decide +kernel), List.mem_of_getElem? (i := 610) (by decide +kernel), List.mem_of_getElem? (i := 611) (by decide +kernel)⟩
def lw_privs_1 : List (MethodName × Nat) := [(⟨"BoxedProofs", "makeFormula", "(III)I"⟩, 9), (⟨"BoxedProofs$Formulas", "find", "(III)I"⟩, 4), (⟨"BoxedProofs$History", "at", "(I)LBoxedProofs$State;"⟩, 3), (⟨"BoxedProofs$Formulas", "firstCode", "(I)I"⟩, 4), (⟨"BoxedProofs$Formulas", "truthOf", "(IILBoxedProofs$Row;)I"⟩, 4), (⟨"BoxedProofs", "write", "(IIIII)I"⟩, 9), (⟨"BoxedProofs$Proof", "isNoneOrOpen", "(I)Z"⟩, 12), (⟨"BoxedProofs", "writeMade", "(IIIIII)I"⟩, 9), (⟨"BoxedProofs$Proof", "directNeeds", "(I)J"⟩, 12), (⟨"BoxedProofs$Proof", "countLineReferences", "(I)I"⟩, 12), (⟨"BoxedProofs$Proof", "assumptionsFrom", "(I)J"⟩, 12), (⟨"BoxedProofs", "lowestFailure", "(II)I"⟩, 9), (⟨"BoxedProofs$Proof", "bypassIn", "(LBoxedProofs$Row;I)I"⟩, 12), (⟨"BoxedProofs$Proof", "keepBoxes", "(J)J"⟩, 12), (⟨"BoxedProofs$Proof", "moveLine", "(IIJJ)V"⟩, 12), (⟨"BoxedProofs$Proof", "findEnds", "()V"⟩, 12)]
theorem lw_r1 : ∀ q ∈ lw_privs_1, lw_okq q := List.forall_mem_cons.mpr ⟨lw_p0, List.forall_mem_cons.mpr ⟨lw_p1, List.forall_mem_cons.mpr ⟨lw_p2, List.forall_mem_cons.mpr ⟨lw_p3, List.forall_mem_cons.mpr ⟨lw_p4, List.forall_mem_cons.mpr ⟨lw_p5, List.forall_mem_cons.mpr ⟨lw_p6, List.forall_mem_cons.mpr ⟨lw_p7, List.forall_mem_cons.mpr ⟨lw_p8, List.forall_mem_cons.mpr ⟨lw_p9, List.forall_mem_cons.mpr ⟨lw_p10, List.forall_mem_cons.mpr ⟨lw_p11, List.forall_mem_cons.mpr ⟨lw_p12, List.forall_mem_cons.mpr ⟨lw_p13, List.forall_mem_cons.mpr ⟨lw_p14, List.forall_mem_cons.mpr ⟨lw_p15, fun _ h => absurd h List.not_mem_nil⟩⟩⟩⟩⟩⟩⟩⟩⟩⟩⟩⟩⟩⟩⟩⟩
theorem lw_p16 : lw_okq (⟨"BoxedProofs$Buffer", "continuesPart", "(I)Z"⟩, 5) := ⟨⟨by decide +kernel, by decide +kernel⟩, List.mem_of_getElem? (i := 150) (by decide +kernel), List.mem_of_getElem? (i := 636) (by decide +kernel), List.mem_of_getElem? (i := 637) (by decide +kernel)⟩
theorem lw_p17 : lw_okq (⟨"BoxedProofs$Buffer", "beginsPart", "(I)Z"⟩, 5) := ⟨⟨by decide +kernel, by decide +kernel⟩, List.mem_of_getElem? (i := 150) (by decide +kernel), List.mem_of_getElem? (i := 643) (by decide +kernel), List.mem_of_getElem? (i := 644) (by decide +kernel)⟩
theorem lw_p18 : lw_okq (⟨"BoxedProofs$Builder", "push", "(I)V"⟩, 3) := ⟨⟨by decide +kernel, by decide +kernel⟩, List.mem_of_getElem? (i := 177) (by decide +kernel), List.mem_of_getElem? (i := 657) (by decide +kernel), List.mem_of_getElem? (i := 658) (by decide +kernel)⟩
theorem lw_p19 : lw_okq (⟨"BoxedProofs$Builder", "makeAtEnd", "(IILBoxedProofs$Formulas;)I"⟩, 3) := ⟨⟨by decide +kernel, by decide +kernel⟩, List.mem_of_getElem? (i := 177) (by decide +kernel), List.mem_of_getElem? (i := 663) (by decide +kernel), List.mem_of_getElem? (i := 664) (by decide +kernel)⟩
theorem lw_p20 : lw_okq (⟨"BoxedProofs$Builder", "negate", "(ILBoxedProofs$Formulas;)I"⟩, 3) := ⟨⟨by decide +kernel, by decide +kernel⟩, List.mem_of_getElem? (i := 177) (by decide +kernel), List.mem_of_getElem? (i := 668) (by decide +kernel), List.mem_of_getElem? (i := 669) (by decide +kernel)⟩
theorem lw_p21 : lw_okq (⟨"BoxedProofsModel", "record", "()V"⟩, 18) := ⟨⟨by decide +kernel, by decide +kernel⟩, List.mem_of_getElem? (i := 689) (by decide +kernel), List.mem_of_getElem? (i := 764) (by decide +kernel), List.mem_of_getElem? (i := 765) (by decide +kernel)⟩
theorem lw_p22 : lw_okq (⟨"BoxedProofsModel", "makeOne", "(III)I"⟩, 18) := ⟨⟨by decide +kernel, by decide +kernel⟩, List.mem_of_getElem? (i := 689) (by decide +kernel), List.mem_of_getElem? (i := 775) (by decide +kernel), List.mem_of_getElem? (i := 776) (by decide +kernel)⟩
theorem lw_p23 : lw_okq (⟨"BoxedProofsModel", "hasRoom", "(III)Z"⟩, 18) := ⟨⟨by decide +kernel, by decide +kernel⟩, List.mem_of_getElem? (i := 689) (by decide +kernel), List.mem_of_getElem? (i := 779) (by decide +kernel), List.mem_of_getElem? (i := 780) (by decide +kernel)⟩
theorem lw_p24 : lw_okq (⟨"BoxedProofsModel", "find", "(III)I"⟩, 18) := ⟨⟨by decide +kernel, by decide +kernel⟩, List.mem_of_getElem? (i := 689) (by decide +kernel), List.mem_of_getElem? (i := 783) (by decide +kernel), List.mem_of_getElem? (i := 784) (by decide +kernel)⟩
theorem lw_p25 : lw_okq (⟨"BoxedProofsModel", "kind", "(I)I"⟩, 18) := ⟨⟨by decide +kernel, by decide +kernel⟩, List.mem_of_getElem? (i := 689) (by decide +kernel), List.mem_of_getElem? (i := 787) (by decide +kernel), List.mem_of_getElem? (i := 788) (by decide +kernel)⟩
theorem lw_p26 : lw_okq (⟨"BoxedProofsModel", "left", "(I)I"⟩, 18) := ⟨⟨by decide +kernel, by decide +kernel⟩, List.mem_of_getElem? (i := 689) (by decide +kernel), List.mem_of_getElem? (i := 791) (by decide +kernel), List.mem_of_getElem? (i := 792) (by decide +kernel)⟩
theorem lw_p27 : lw_okq (⟨"BoxedProofsModel", "right", "(I)I"⟩, 18) := ⟨⟨by decide +kernel, by decide +kernel⟩, List.mem_of_getElem? (i := 689) (by decide +kernel), List.mem_of_getElem? (i := 795) (by decide +kernel), List.mem_of_getElem? (i := 796) (by decide +kernel)⟩
theorem lw_p28 : lw_okq (⟨"BoxedProofsModel", "make", "(III)I"⟩, 18) := ⟨⟨by decide +kernel, by decide +kernel⟩, List.mem_of_getElem? (i := 689) (by decide +kernel), List.mem_of_getElem? (i := 799) (by decide +kernel), List.mem_of_getElem? (i := 800) (by decide +kernel)⟩
theorem lw_p29 : lw_okq (⟨"BoxedProofsModel", "isFormula", "(I)Z"⟩, 18) := ⟨⟨by decide +kernel, by decide +kernel⟩, List.mem_of_getElem? (i := 689) (by decide +kernel), List.mem_of_getElem? (i := 811) (by decide +kernel), List.mem_of_getElem? (i := 812) (by decide +kernel)⟩
theorem lw_p30 : lw_okq (⟨"BoxedProofsModel", "measure", "()V"⟩, 18) := ⟨⟨by decide +kernel, by decide +kernel⟩, List.mem_of_getElem? (i := 689) (by decide +kernel), List.mem_of_getElem? (i := 831) (by decide +kernel), List.mem_of_getElem? (i := 832) (by decide +kernel)⟩
theorem lw_p31 : lw_okq (⟨"BoxedProofsModel", "evaluate", "(I)V"⟩, 18) := ⟨⟨by decide +kernel, by decide +kernel⟩, List.mem_of_getElem? (i := 689) (by decide +kernel), List.mem_of_getElem? (i := 844) (by decide +kernel), List.mem_of_getElem? (i := 845) (by decide +kernel)⟩
def lw_privs_2 : List (MethodName × Nat) := [(⟨"BoxedProofs$Buffer", "continuesPart", "(I)Z"⟩, 5), (⟨"BoxedProofs$Buffer", "beginsPart", "(I)Z"⟩, 5), (⟨"BoxedProofs$Builder", "push", "(I)V"⟩, 3), (⟨"BoxedProofs$Builder", "makeAtEnd", "(IILBoxedProofs$Formulas;)I"⟩, 3), (⟨"BoxedProofs$Builder", "negate", "(ILBoxedProofs$Formulas;)I"⟩, 3), (⟨"BoxedProofsModel", "record", "()V"⟩, 18), (⟨"BoxedProofsModel", "makeOne", "(III)I"⟩, 18), (⟨"BoxedProofsModel", "hasRoom", "(III)Z"⟩, 18), (⟨"BoxedProofsModel", "find", "(III)I"⟩, 18), (⟨"BoxedProofsModel", "kind", "(I)I"⟩, 18), (⟨"BoxedProofsModel", "left", "(I)I"⟩, 18), (⟨"BoxedProofsModel", "right", "(I)I"⟩, 18), (⟨"BoxedProofsModel", "make", "(III)I"⟩, 18), (⟨"BoxedProofsModel", "isFormula", "(I)Z"⟩, 18), (⟨"BoxedProofsModel", "measure", "()V"⟩, 18), (⟨"BoxedProofsModel", "evaluate", "(I)V"⟩, 18)]
theorem lw_r2 : ∀ q ∈ lw_privs_2, lw_okq q := List.forall_mem_cons.mpr ⟨lw_p16, List.forall_mem_cons.mpr ⟨lw_p17, List.forall_mem_cons.mpr ⟨lw_p18, List.forall_mem_cons.mpr ⟨lw_p19, List.forall_mem_cons.mpr ⟨lw_p20, List.forall_mem_cons.mpr ⟨lw_p21, List.forall_mem_cons.mpr ⟨lw_p22, List.forall_mem_cons.mpr ⟨lw_p23, List.forall_mem_cons.mpr ⟨lw_p24, List.forall_mem_cons.mpr ⟨lw_p25, List.forall_mem_cons.mpr ⟨lw_p26, List.forall_mem_cons.mpr ⟨lw_p27, List.forall_mem_cons.mpr ⟨lw_p28, List.forall_mem_cons.mpr ⟨lw_p29, List.forall_mem_cons.mpr ⟨lw_p30, List.forall_mem_cons.mpr ⟨lw_p31, fun _ h => absurd h List.not_mem_nil⟩⟩⟩⟩⟩⟩⟩⟩⟩⟩⟩⟩⟩⟩⟩⟩
theorem lw_p32 : lw_okq (⟨"BoxedProofsModel", "latest", "()I"⟩, 18) := ⟨⟨by decide +kernel, by decide +kernel⟩, List.mem_of_getElem? (i := 689) (by decide +kernel), List.mem_of_getElem? (i := 852) (by decide +kernel), List.mem_of_getElem? (i := 853) (by decide +kernel)⟩
theorem lw_p33 : lw_okq (⟨"BoxedProofsModel", "ends", "(I)I"⟩, 18) := ⟨⟨by decide +kernel, by decide +kernel⟩, List.mem_of_getElem? (i := 689) (by decide +kernel), List.mem_of_getElem? (i := 856) (by decide +kernel), List.mem_of_getElem? (i := 857) (by decide +kernel)⟩
theorem lw_p34 : lw_okq (⟨"BoxedProofsModel", "writeOld", "(IIIII)I"⟩, 18) := ⟨⟨by decide +kernel, by decide +kernel⟩, List.mem_of_getElem? (i := 689) (by decide +kernel), List.mem_of_getElem? (i := 860) (by decide +kernel), List.mem_of_getElem? (i := 861) (by decide +kernel)⟩
theorem lw_p35 : lw_okq (⟨"BoxedProofsModel", "isFull", "()Z"⟩, 18) := ⟨⟨by decide +kernel, by decide +kernel⟩, List.mem_of_getElem? (i := 689) (by decide +kernel), List.mem_of_getElem? (i := 864) (by decide +kernel), List.mem_of_getElem? (i := 865) (by decide +kernel)⟩
theorem lw_p36 : lw_okq (⟨"BoxedProofsModel", "write", "(IIIII)I"⟩, 18) := ⟨⟨by decide +kernel, by decide +kernel⟩, List.mem_of_getElem? (i := 689) (by decide +kernel), List.mem_of_getElem? (i := 868) (by decide +kernel), List.mem_of_getElem? (i := 869) (by decide +kernel)⟩
theorem lw_p37 : lw_okq (⟨"BoxedProofsModel", "openBoxes", "()I"⟩, 18) := ⟨⟨by decide +kernel, by decide +kernel⟩, List.mem_of_getElem? (i := 689) (by decide +kernel), List.mem_of_getElem? (i := 876) (by decide +kernel), List.mem_of_getElem? (i := 877) (by decide +kernel)⟩
theorem lw_p38 : lw_okq (⟨"BoxedProofsModel", "boxOf", "(I)I"⟩, 18) := ⟨⟨by decide +kernel, by decide +kernel⟩, List.mem_of_getElem? (i := 689) (by decide +kernel), List.mem_of_getElem? (i := 884) (by decide +kernel), List.mem_of_getElem? (i := 885) (by decide +kernel)⟩
theorem lw_p39 : lw_okq (⟨"BoxedProofsModel", "isLine", "(I)Z"⟩, 18) := ⟨⟨by decide +kernel, by decide +kernel⟩, List.mem_of_getElem? (i := 689) (by decide +kernel), List.mem_of_getElem? (i := 892) (by decide +kernel), List.mem_of_getElem? (i := 893) (by decide +kernel)⟩
theorem lw_p40 : lw_okq (⟨"BoxedProofsModel", "isAvailable", "(I)Z"⟩, 18) := ⟨⟨by decide +kernel, by decide +kernel⟩, List.mem_of_getElem? (i := 689) (by decide +kernel), List.mem_of_getElem? (i := 896) (by decide +kernel), List.mem_of_getElem? (i := 897) (by decide +kernel)⟩
theorem lw_p41 : lw_okq (⟨"BoxedProofsModel", "isShut", "(I)Z"⟩, 18) := ⟨⟨by decide +kernel, by decide +kernel⟩, List.mem_of_getElem? (i := 689) (by decide +kernel), List.mem_of_getElem? (i := 900) (by decide +kernel), List.mem_of_getElem? (i := 901) (by decide +kernel)⟩
theorem lw_p42 : lw_okq (⟨"BoxedProofsModel", "parent", "(I)I"⟩, 18) := ⟨⟨by decide +kernel, by decide +kernel⟩, List.mem_of_getElem? (i := 689) (by decide +kernel), List.mem_of_getElem? (i := 904) (by decide +kernel), List.mem_of_getElem? (i := 905) (by decide +kernel)⟩
theorem lw_p43 : lw_okq (⟨"BoxedProofsModel", "formulaOf", "(I)I"⟩, 18) := ⟨⟨by decide +kernel, by decide +kernel⟩, List.mem_of_getElem? (i := 689) (by decide +kernel), List.mem_of_getElem? (i := 908) (by decide +kernel), List.mem_of_getElem? (i := 909) (by decide +kernel)⟩
theorem lw_p44 : lw_okq (⟨"BoxedProofsModel", "writeNew", "(IIIIII)I"⟩, 18) := ⟨⟨by decide +kernel, by decide +kernel⟩, List.mem_of_getElem? (i := 689) (by decide +kernel), List.mem_of_getElem? (i := 916) (by decide +kernel), List.mem_of_getElem? (i := 917) (by decide +kernel)⟩
theorem lw_p45 : lw_okq (⟨"BoxedProofsModel", "isBox", "(I)Z"⟩, 18) := ⟨⟨by decide +kernel, by decide +kernel⟩, List.mem_of_getElem? (i := 689) (by decide +kernel), List.mem_of_getElem? (i := 932) (by decide +kernel), List.mem_of_getElem? (i := 933) (by decide +kernel)⟩
theorem lw_p46 : lw_okq (⟨"BoxedProofsModel", "isBoxAvailable", "(I)Z"⟩, 18) := ⟨⟨by decide +kernel, by decide +kernel⟩, List.mem_of_getElem? (i := 689) (by decide +kernel), List.mem_of_getElem? (i := 936) (by decide +kernel), List.mem_of_getElem? (i := 937) (by decide +kernel)⟩
theorem lw_p47 : lw_okq (⟨"BoxedProofsModel", "opens", "(I)I"⟩, 18) := ⟨⟨by decide +kernel, by decide +kernel⟩, List.mem_of_getElem? (i := 689) (by decide +kernel), List.mem_of_getElem? (i := 940) (by decide +kernel), List.mem_of_getElem? (i := 941) (by decide +kernel)⟩
def lw_privs_3 : List (MethodName × Nat) := [(⟨"BoxedProofsModel", "latest", "()I"⟩, 18), (⟨"BoxedProofsModel", "ends", "(I)I"⟩, 18), (⟨"BoxedProofsModel", "writeOld", "(IIIII)I"⟩, 18), (⟨"BoxedProofsModel", "isFull", "()Z"⟩, 18), (⟨"BoxedProofsModel", "write", "(IIIII)I"⟩, 18), (⟨"BoxedProofsModel", "openBoxes", "()I"⟩, 18), (⟨"BoxedProofsModel", "boxOf", "(I)I"⟩, 18), (⟨"BoxedProofsModel", "isLine", "(I)Z"⟩, 18), (⟨"BoxedProofsModel", "isAvailable", "(I)Z"⟩, 18), (⟨"BoxedProofsModel", "isShut", "(I)Z"⟩, 18), (⟨"BoxedProofsModel", "parent", "(I)I"⟩, 18), (⟨"BoxedProofsModel", "formulaOf", "(I)I"⟩, 18), (⟨"BoxedProofsModel", "writeNew", "(IIIIII)I"⟩, 18), (⟨"BoxedProofsModel", "isBox", "(I)Z"⟩, 18), (⟨"BoxedProofsModel", "isBoxAvailable", "(I)Z"⟩, 18), (⟨"BoxedProofsModel", "opens", "(I)I"⟩, 18)]
theorem lw_r3 : ∀ q ∈ lw_privs_3, lw_okq q := List.forall_mem_cons.mpr ⟨lw_p32, List.forall_mem_cons.mpr ⟨lw_p33, List.forall_mem_cons.mpr ⟨lw_p34, List.forall_mem_cons.mpr ⟨lw_p35, List.forall_mem_cons.mpr ⟨lw_p36, List.forall_mem_cons.mpr ⟨lw_p37, List.forall_mem_cons.mpr ⟨lw_p38, List.forall_mem_cons.mpr ⟨lw_p39, List.forall_mem_cons.mpr ⟨lw_p40, List.forall_mem_cons.mpr ⟨lw_p41, List.forall_mem_cons.mpr ⟨lw_p42, List.forall_mem_cons.mpr ⟨lw_p43, List.forall_mem_cons.mpr ⟨lw_p44, List.forall_mem_cons.mpr ⟨lw_p45, List.forall_mem_cons.mpr ⟨lw_p46, List.forall_mem_cons.mpr ⟨lw_p47, fun _ h => absurd h List.not_mem_nil⟩⟩⟩⟩⟩⟩⟩⟩⟩⟩⟩⟩⟩⟩⟩⟩
theorem lw_p48 : lw_okq (⟨"BoxedProofsModel", "ruleOf", "(I)I"⟩, 18) := ⟨⟨by decide +kernel, by decide +kernel⟩, List.mem_of_getElem? (i := 689) (by decide +kernel), List.mem_of_getElem? (i := 956) (by decide +kernel), List.mem_of_getElem? (i := 957) (by decide +kernel)⟩
theorem lw_p49 : lw_okq (⟨"BoxedProofsModel", "depthOf", "(I)I"⟩, 18) := ⟨⟨by decide +kernel, by decide +kernel⟩, List.mem_of_getElem? (i := 689) (by decide +kernel), List.mem_of_getElem? (i := 960) (by decide +kernel), List.mem_of_getElem? (i := 961) (by decide +kernel)⟩
theorem lw_p50 : lw_okq (⟨"BoxedProofsModel", "neededBy", "(I)I"⟩, 18) := ⟨⟨by decide +kernel, by decide +kernel⟩, List.mem_of_getElem? (i := 689) (by decide +kernel), List.mem_of_getElem? (i := 964) (by decide +kernel), List.mem_of_getElem? (i := 965) (by decide +kernel)⟩
theorem lw_p51 : lw_okq (⟨"BoxedProofsModel", "direct", "(I)J"⟩, 18) := ⟨⟨by decide +kernel, by decide +kernel⟩, List.mem_of_getElem? (i := 689) (by decide +kernel), List.mem_of_getElem? (i := 968) (by decide +kernel), List.mem_of_getElem? (i := 969) (by decide +kernel)⟩
theorem lw_p52 : lw_okq (⟨"BoxedProofsModel", "refOf", "(II)I"⟩, 18) := ⟨⟨by decide +kernel, by decide +kernel⟩, List.mem_of_getElem? (i := 689) (by decide +kernel), List.mem_of_getElem? (i := 972) (by decide +kernel), List.mem_of_getElem? (i := 973) (by decide +kernel)⟩
theorem lw_p53 : lw_okq (⟨"BoxedProofsModel", "isToBox", "(II)Z"⟩, 18) := ⟨⟨by decide +kernel, by decide +kernel⟩, List.mem_of_getElem? (i := 689) (by decide +kernel), List.mem_of_getElem? (i := 976) (by decide +kernel), List.mem_of_getElem? (i := 977) (by decide +kernel)⟩
theorem lw_p54 : lw_okq (⟨"BoxedProofsModel", "needed", "(I)J"⟩, 18) := ⟨⟨by decide +kernel, by decide +kernel⟩, List.mem_of_getElem? (i := 689) (by decide +kernel), List.mem_of_getElem? (i := 1000) (by decide +kernel), List.mem_of_getElem? (i := 1001) (by decide +kernel)⟩
theorem lw_p55 : lw_okq (⟨"BoxedProofsModel", "assumed", "(I)J"⟩, 18) := ⟨⟨by decide +kernel, by decide +kernel⟩, List.mem_of_getElem? (i := 689) (by decide +kernel), List.mem_of_getElem? (i := 1004) (by decide +kernel), List.mem_of_getElem? (i := 1005) (by decide +kernel)⟩
theorem lw_p56 : lw_okq (⟨"BoxedProofsModel", "bypassOf", "(I)I"⟩, 18) := ⟨⟨by decide +kernel, by decide +kernel⟩, List.mem_of_getElem? (i := 689) (by decide +kernel), List.mem_of_getElem? (i := 1013) (by decide +kernel), List.mem_of_getElem? (i := 1014) (by decide +kernel)⟩
theorem lw_p57 : lw_okq (⟨"BoxedProofsModel", "premises", "()J"⟩, 18) := ⟨⟨by decide +kernel, by decide +kernel⟩, List.mem_of_getElem? (i := 689) (by decide +kernel), List.mem_of_getElem? (i := 1025) (by decide +kernel), List.mem_of_getElem? (i := 1026) (by decide +kernel)⟩
theorem lw_p58 : lw_okq (⟨"BoxedProofsModel", "fails", "(JI)I"⟩, 18) := ⟨⟨by decide +kernel, by decide +kernel⟩, List.mem_of_getElem? (i := 689) (by decide +kernel), List.mem_of_getElem? (i := 1029) (by decide +kernel), List.mem_of_getElem? (i := 1030) (by decide +kernel)⟩
theorem lw_p59 : lw_okq (⟨"BoxedProofsModel", "areTrue", "(J)Z"⟩, 18) := ⟨⟨by decide +kernel, by decide +kernel⟩, List.mem_of_getElem? (i := 689) (by decide +kernel), List.mem_of_getElem? (i := 1033) (by decide +kernel), List.mem_of_getElem? (i := 1034) (by decide +kernel)⟩
theorem lw_p60 : lw_okq (⟨"BoxedProofsModel", "lastIn", "(IJ)I"⟩, 18) := ⟨⟨by decide +kernel, by decide +kernel⟩, List.mem_of_getElem? (i := 689) (by decide +kernel), List.mem_of_getElem? (i := 1049) (by decide +kernel), List.mem_of_getElem? (i := 1050) (by decide +kernel)⟩
theorem lw_p61 : lw_okq (⟨"BoxedProofsModel", "liesIn", "(II)Z"⟩, 18) := ⟨⟨by decide +kernel, by decide +kernel⟩, List.mem_of_getElem? (i := 689) (by decide +kernel), List.mem_of_getElem? (i := 1053) (by decide +kernel), List.mem_of_getElem? (i := 1054) (by decide +kernel)⟩
theorem lw_p62 : lw_okq (⟨"BoxedProofsModel", "moveLines", "(J)V"⟩, 18) := ⟨⟨by decide +kernel, by decide +kernel⟩, List.mem_of_getElem? (i := 689) (by decide +kernel), List.mem_of_getElem? (i := 1057) (by decide +kernel), List.mem_of_getElem? (i := 1058) (by decide +kernel)⟩
theorem lw_p63 : lw_okq (⟨"BoxedProofsModel", "renamed", "(II)I"⟩, 18) := ⟨⟨by decide +kernel, by decide +kernel⟩, List.mem_of_getElem? (i := 689) (by decide +kernel), List.mem_of_getElem? (i := 1061) (by decide +kernel), List.mem_of_getElem? (i := 1062) (by decide +kernel)⟩
def lw_privs_4 : List (MethodName × Nat) := [(⟨"BoxedProofsModel", "ruleOf", "(I)I"⟩, 18), (⟨"BoxedProofsModel", "depthOf", "(I)I"⟩, 18), (⟨"BoxedProofsModel", "neededBy", "(I)I"⟩, 18), (⟨"BoxedProofsModel", "direct", "(I)J"⟩, 18), (⟨"BoxedProofsModel", "refOf", "(II)I"⟩, 18), (⟨"BoxedProofsModel", "isToBox", "(II)Z"⟩, 18), (⟨"BoxedProofsModel", "needed", "(I)J"⟩, 18), (⟨"BoxedProofsModel", "assumed", "(I)J"⟩, 18), (⟨"BoxedProofsModel", "bypassOf", "(I)I"⟩, 18), (⟨"BoxedProofsModel", "premises", "()J"⟩, 18), (⟨"BoxedProofsModel", "fails", "(JI)I"⟩, 18), (⟨"BoxedProofsModel", "areTrue", "(J)Z"⟩, 18), (⟨"BoxedProofsModel", "lastIn", "(IJ)I"⟩, 18), (⟨"BoxedProofsModel", "liesIn", "(II)Z"⟩, 18), (⟨"BoxedProofsModel", "moveLines", "(J)V"⟩, 18), (⟨"BoxedProofsModel", "renamed", "(II)I"⟩, 18)]
theorem lw_r4 : ∀ q ∈ lw_privs_4, lw_okq q := List.forall_mem_cons.mpr ⟨lw_p48, List.forall_mem_cons.mpr ⟨lw_p49, List.forall_mem_cons.mpr ⟨lw_p50, List.forall_mem_cons.mpr ⟨lw_p51, List.forall_mem_cons.mpr ⟨lw_p52, List.forall_mem_cons.mpr ⟨lw_p53, List.forall_mem_cons.mpr ⟨lw_p54, List.forall_mem_cons.mpr ⟨lw_p55, List.forall_mem_cons.mpr ⟨lw_p56, List.forall_mem_cons.mpr ⟨lw_p57, List.forall_mem_cons.mpr ⟨lw_p58, List.forall_mem_cons.mpr ⟨lw_p59, List.forall_mem_cons.mpr ⟨lw_p60, List.forall_mem_cons.mpr ⟨lw_p61, List.forall_mem_cons.mpr ⟨lw_p62, List.forall_mem_cons.mpr ⟨lw_p63, fun _ h => absurd h List.not_mem_nil⟩⟩⟩⟩⟩⟩⟩⟩⟩⟩⟩⟩⟩⟩⟩⟩
theorem lw_p64 : lw_okq (⟨"BoxedProofsModel", "moveBoxes", "()V"⟩, 18) := ⟨⟨by decide +kernel, by decide +kernel⟩, List.mem_of_getElem? (i := 689) (by decide +kernel), List.mem_of_getElem? (i := 1065) (by decide +kernel), List.mem_of_getElem? (i := 1066) (by decide +kernel)⟩
theorem lw_p65 : lw_okq (⟨"BoxedProofsModel", "readBuffer", "(Z)I"⟩, 18) := ⟨⟨by decide +kernel, by decide +kernel⟩, List.mem_of_getElem? (i := 689) (by decide +kernel), List.mem_of_getElem? (i := 1081) (by decide +kernel), List.mem_of_getElem? (i := 1082) (by decide +kernel)⟩
theorem lw_p66 : lw_okq (⟨"BoxedProofsModel", "readOne", "(ZI)Z"⟩, 18) := ⟨⟨by decide +kernel, by decide +kernel⟩, List.mem_of_getElem? (i := 689) (by decide +kernel), List.mem_of_getElem? (i := 1085) (by decide +kernel), List.mem_of_getElem? (i := 1086) (by decide +kernel)⟩
theorem lw_p67 : lw_okq (⟨"BoxedProofsModel", "makes", "(ZIII)I"⟩, 18) := ⟨⟨by decide +kernel, by decide +kernel⟩, List.mem_of_getElem? (i := 689) (by decide +kernel), List.mem_of_getElem? (i := 1089) (by decide +kernel), List.mem_of_getElem? (i := 1090) (by decide +kernel)⟩
theorem lw_p68 : lw_okq (⟨"BoxedProofsModel", "isWhole", "(ZI)V"⟩, 18) := ⟨⟨by decide +kernel, by decide +kernel⟩, List.mem_of_getElem? (i := 689) (by decide +kernel), List.mem_of_getElem? (i := 1093) (by decide +kernel), List.mem_of_getElem? (i := 1094) (by decide +kernel)⟩
def lw_privs_5 : List (MethodName × Nat) := [(⟨"BoxedProofsModel", "moveBoxes", "()V"⟩, 18), (⟨"BoxedProofsModel", "readBuffer", "(Z)I"⟩, 18), (⟨"BoxedProofsModel", "readOne", "(ZI)Z"⟩, 18), (⟨"BoxedProofsModel", "makes", "(ZIII)I"⟩, 18), (⟨"BoxedProofsModel", "isWhole", "(ZI)V"⟩, 18)]
theorem lw_r5 : ∀ q ∈ lw_privs_5, lw_okq q := List.forall_mem_cons.mpr ⟨lw_p64, List.forall_mem_cons.mpr ⟨lw_p65, List.forall_mem_cons.mpr ⟨lw_p66, List.forall_mem_cons.mpr ⟨lw_p67, List.forall_mem_cons.mpr ⟨lw_p68, fun _ h => absurd h List.not_mem_nil⟩⟩⟩⟩⟩
def lw_privs : List (MethodName × Nat) := lw_privs_1 ++ (lw_privs_2 ++ (lw_privs_3 ++ (lw_privs_4 ++ (lw_privs_5))))
def lw_tbl : List Cond := k2_sels lw_privs ++ tables_1
theorem lw_privs_ok : ∀ q ∈ lw_privs, lw_okq q := by
  show ∀ q ∈ lw_privs_1 ++ (lw_privs_2 ++ (lw_privs_3 ++ (lw_privs_4 ++ (lw_privs_5)))), lw_okq q
  exact List.forall_mem_append.mpr ⟨lw_r1, List.forall_mem_append.mpr ⟨lw_r2, List.forall_mem_append.mpr ⟨lw_r3, List.forall_mem_append.mpr ⟨lw_r4, lw_r5⟩⟩⟩⟩
-- ===== end of PART A; then your names; then what follows =====
end
section
/-! ===== BEGIN words of one list among another's, by their places ===== -/
theorem goodIn_r {big : List Cond} (ws : List Cond) (ps : List Nat) (hp : ws = ps.filterMap (fun i => big[i]?)) (h : ws.all goodWord = true) : GoodIn big ws := by
  intro w hw
  have h1 := List.all_eq_true.mp h w hw
  rw [hp] at hw
  obtain ⟨i, -, hi⟩ := List.mem_filterMap.mp hw
  have hm : w ∈ big := by first | exact List.mem_of_getElem? hi | exact List.getElem?_mem hi
  exact ⟨hm, good_of_word h1⟩
theorem goodIn_app {big a b : List Cond} (ha : GoodIn big a) (hb : GoodIn big b) : GoodIn big (a ++ b) := fun w h => (List.mem_append.mp h).elim (ha w) (hb w)
theorem goodIn_ca {big a b : List Cond} {c : Cond} (ha : GoodIn big (c :: a)) (hb : GoodIn big b) : GoodIn big (c :: (a ++ b)) := fun w h => (List.mem_cons.mp h).elim (fun e => ha w (List.mem_cons.mpr (Or.inl e))) (fun h => (List.mem_append.mp h).elim (fun h => ha w (List.mem_cons.mpr (Or.inr h))) (hb w))
theorem goodIn_sub {big ws : List Cond} (hm : ∀ w ∈ ws, w ∈ big) (h : ws.all goodWord = true) : GoodIn big ws := fun w hw => ⟨hm w hw, good_of_word (List.all_eq_true.mp h w hw)⟩
/-! ===== END ===== -/

/-! ===== BEGIN printed: names, fields, word lists, decode rows ===== -/
def RX0 : String := "BoxedProofs$Buffer"
def TX0 : u_T := fun k => match k with
  | 0 => ("BoxedProofs$Buffer", "count", "I", false)
  | 1 => ("BoxedProofs$Buffer", "codes", "LBoxedProofs$Row;", true)
  | 2 => ("BoxedProofs$Buffer", "opened", "I", false)
  | 3 => ("BoxedProofs$Buffer", "signed", "I", false)
  | _ => ("BoxedProofs$Buffer", "isPartRead", "Z", false)
def tyX0 : Nat → FieldType := fun k => match k with
  | 0 => .int
  | 1 => .object "BoxedProofs$Row"
  | 2 => .int
  | 3 => .int
  | _ => .boolean
abbrev wsX00 : List Cond := u_ws RX0 TX0 5
theorem nmX0 : ∀ a, a < 5 → ∀ b, b < 5 → a ≠ b → (TX0 a).2.1 ≠ (TX0 b).2.1 := by decide +kernel
theorem tyX0_ok : ∀ k, k < 5 → parseFieldDescriptor (TX0 k).2.2.1 = some (tyX0 k) := by decide +kernel
abbrev cX0_init : ByteArray := prog_2_method_1_code
def yX0_init : MethodName := ⟨RX0, "<init>", "()V"⟩
abbrev cX0_add : ByteArray := prog_2_method_2_code
def yX0_add : MethodName := ⟨RX0, "add", "(I)V"⟩
abbrev cX0_firstError : ByteArray := prog_2_method_3_code
def yX0_firstError : MethodName := ⟨RX0, "firstError", "()I"⟩
abbrev cX0_beginsPart : ByteArray := prog_2_method_4_code
def yX0_beginsPart : MethodName := ⟨RX0, "beginsPart", "(I)Z"⟩
abbrev cX0_continuesPart : ByteArray := prog_2_method_5_code
def yX0_continuesPart : MethodName := ⟨RX0, "continuesPart", "(I)Z"⟩
def RX1 : String := "BoxedProofs$Builder"
def TX1 : u_T := fun k => match k with
  | 0 => ("BoxedProofs$Builder", "height", "I", false)
  | 1 => ("BoxedProofs$Builder", "waiting", "LBoxedProofs$Row;", true)
  | _ => ("BoxedProofs$Builder", "waitingLefts", "LBoxedProofs$Row;", true)
def tyX1 : Nat → FieldType := fun k => match k with
  | 0 => .int
  | 1 => .object "BoxedProofs$Row"
  | _ => .object "BoxedProofs$Row"
abbrev wsX10 : List Cond := u_ws RX1 TX1 3
theorem nmX1 : ∀ a, a < 3 → ∀ b, b < 3 → a ≠ b → (TX1 a).2.1 ≠ (TX1 b).2.1 := by decide +kernel
theorem tyX1_ok : ∀ k, k < 3 → parseFieldDescriptor (TX1 k).2.2.1 = some (tyX1 k) := by decide +kernel
abbrev cX1_init : ByteArray := prog_3_method_1_code
def yX1_init : MethodName := ⟨RX1, "<init>", "()V"⟩
abbrev cX1_build : ByteArray := prog_3_method_2_code
def yX1_build : MethodName := ⟨RX1, "build", "(LBoxedProofs$Buffer;LBoxedProofs$Formulas;)I"⟩
abbrev cX1_push : ByteArray := prog_3_method_3_code
def yX1_push : MethodName := ⟨RX1, "push", "(I)V"⟩
abbrev cX1_makeAtEnd : ByteArray := prog_3_method_4_code
def yX1_makeAtEnd : MethodName := ⟨RX1, "makeAtEnd", "(IILBoxedProofs$Formulas;)I"⟩
abbrev cX1_negate : ByteArray := prog_3_method_5_code
def yX1_negate : MethodName := ⟨RX1, "negate", "(ILBoxedProofs$Formulas;)I"⟩
def RX2 : String := "BoxedProofs$Formulas"
def TX2 : u_T := fun k => match k with
  | 0 => ("BoxedProofs$Formulas", "count", "I", false)
  | 1 => ("BoxedProofs$Formulas", "kinds", "LBoxedProofs$Row;", true)
  | 2 => ("BoxedProofs$Formulas", "lefts", "LBoxedProofs$Row;", true)
  | _ => ("BoxedProofs$Formulas", "rights", "LBoxedProofs$Row;", true)
def tyX2 : Nat → FieldType := fun k => match k with
  | 0 => .int
  | 1 => .object "BoxedProofs$Row"
  | 2 => .object "BoxedProofs$Row"
  | _ => .object "BoxedProofs$Row"
abbrev wsX20 : List Cond := u_ws RX2 TX2 4
theorem nmX2 : ∀ a, a < 4 → ∀ b, b < 4 → a ≠ b → (TX2 a).2.1 ≠ (TX2 b).2.1 := by decide +kernel
theorem tyX2_ok : ∀ k, k < 4 → parseFieldDescriptor (TX2 k).2.2.1 = some (tyX2 k) := by decide +kernel
abbrev cX2_init : ByteArray := prog_4_method_1_code
def yX2_init : MethodName := ⟨RX2, "<init>", "()V"⟩
abbrev cX2_copyFrom : ByteArray := prog_4_method_2_code
def yX2_copyFrom : MethodName := ⟨RX2, "copyFrom", "(LBoxedProofs$Formulas;)V"⟩
abbrev cX2_has : ByteArray := prog_4_method_3_code
def yX2_has : MethodName := ⟨RX2, "has", "(I)Z"⟩
abbrev cX2_isOfKind : ByteArray := prog_4_method_4_code
def yX2_isOfKind : MethodName := ⟨RX2, "isOfKind", "(II)Z"⟩
abbrev cX2_isPartOfDisjunction : ByteArray := prog_4_method_5_code
def yX2_isPartOfDisjunction : MethodName := ⟨RX2, "isPartOfDisjunction", "(II)Z"⟩
abbrev cX2_takenOut : ByteArray := prog_4_method_6_code
def yX2_takenOut : MethodName := ⟨RX2, "takenOut", "(II)I"⟩
abbrev cX2_find : ByteArray := prog_4_method_7_code
def yX2_find : MethodName := ⟨RX2, "find", "(III)I"⟩
abbrev cX2_hasRoomFor : ByteArray := prog_4_method_8_code
def yX2_hasRoomFor : MethodName := ⟨RX2, "hasRoomFor", "(III)Z"⟩
abbrev cX2_make : ByteArray := prog_4_method_9_code
def yX2_make : MethodName := ⟨RX2, "make", "(III)I"⟩
abbrev cX2_measure : ByteArray := prog_4_method_10_code
def yX2_measure : MethodName := ⟨RX2, "measure", "(LBoxedProofs$Row;)V"⟩
abbrev cX2_codeAt : ByteArray := prog_4_method_11_code
def yX2_codeAt : MethodName := ⟨RX2, "codeAt", "(IILBoxedProofs$Row;)I"⟩
abbrev cX2_firstCode : ByteArray := prog_4_method_12_code
def yX2_firstCode : MethodName := ⟨RX2, "firstCode", "(I)I"⟩
abbrev cX2_evaluate : ByteArray := prog_4_method_13_code
def yX2_evaluate : MethodName := ⟨RX2, "evaluate", "(ILBoxedProofs$Row;)V"⟩
abbrev cX2_truthOf : ByteArray := prog_4_method_14_code
def yX2_truthOf : MethodName := ⟨RX2, "truthOf", "(IILBoxedProofs$Row;)I"⟩
abbrev cX2_truthOfAtom : ByteArray := prog_4_method_15_code
def yX2_truthOfAtom : MethodName := ⟨RX2, "truthOfAtom", "(II)I"⟩
def RX3 : String := "BoxedProofs$History"
def TX3 : u_T := fun k => match k with
  | 0 => ("BoxedProofs$History", "count", "I", false)
  | 1 => ("BoxedProofs$History", "next", "I", false)
  | _ => ("BoxedProofs$History", "ring", "[LBoxedProofs$State;", true)
def tyX3 : Nat → FieldType := fun k => match k with
  | 0 => .int
  | 1 => .int
  | _ => .array (.object "BoxedProofs$State")
abbrev wsX30 : List Cond := u_ws RX3 TX3 3
theorem nmX3 : ∀ a, a < 3 → ∀ b, b < 3 → a ≠ b → (TX3 a).2.1 ≠ (TX3 b).2.1 := by decide +kernel
theorem tyX3_ok : ∀ k, k < 3 → parseFieldDescriptor (TX3 k).2.2.1 = some (tyX3 k) := by decide +kernel
abbrev cX3_init : ByteArray := prog_5_method_1_code
def yX3_init : MethodName := ⟨RX3, "<init>", "()V"⟩
abbrev cX3_at : ByteArray := prog_5_method_2_code
def yX3_at : MethodName := ⟨RX3, "at", "(I)LBoxedProofs$State;"⟩
abbrev cX3_record : ByteArray := prog_5_method_3_code
def yX3_record : MethodName := ⟨RX3, "record", "(LBoxedProofs$State;)V"⟩
abbrev cX3_takeBack : ByteArray := prog_5_method_4_code
def yX3_takeBack : MethodName := ⟨RX3, "takeBack", "(LBoxedProofs$State;)V"⟩
def RX4 : String := "BoxedProofs$Proof"
def TX4 : u_T := fun k => match k with
  | 0 => ("BoxedProofs$Proof", "lineCount", "I", false)
  | 1 => ("BoxedProofs$Proof", "boxCount", "I", false)
  | 2 => ("BoxedProofs$Proof", "innermost", "I", false)
  | 3 => ("BoxedProofs$Proof", "lineFormulas", "LBoxedProofs$Row;", true)
  | 4 => ("BoxedProofs$Proof", "rules", "LBoxedProofs$Row;", true)
  | 5 => ("BoxedProofs$Proof", "homes", "LBoxedProofs$Row;", true)
  | 6 => ("BoxedProofs$Proof", "firsts", "LBoxedProofs$Row;", true)
  | 7 => ("BoxedProofs$Proof", "seconds", "LBoxedProofs$Row;", true)
  | 8 => ("BoxedProofs$Proof", "thirds", "LBoxedProofs$Row;", true)
  | 9 => ("BoxedProofs$Proof", "starts", "LBoxedProofs$Row;", true)
  | 10 => ("BoxedProofs$Proof", "ends", "LBoxedProofs$Row;", true)
  | _ => ("BoxedProofs$Proof", "parents", "LBoxedProofs$Row;", true)
def tyX4 : Nat → FieldType := fun k => match k with
  | 0 => .int
  | 1 => .int
  | 2 => .int
  | 3 => .object "BoxedProofs$Row"
  | 4 => .object "BoxedProofs$Row"
  | 5 => .object "BoxedProofs$Row"
  | 6 => .object "BoxedProofs$Row"
  | 7 => .object "BoxedProofs$Row"
  | 8 => .object "BoxedProofs$Row"
  | 9 => .object "BoxedProofs$Row"
  | 10 => .object "BoxedProofs$Row"
  | _ => .object "BoxedProofs$Row"
abbrev wsX40 : List Cond := u_ws RX4 TX4 12
theorem nmX4 : ∀ a, a < 12 → ∀ b, b < 12 → a ≠ b → (TX4 a).2.1 ≠ (TX4 b).2.1 := by decide +kernel
theorem tyX4_ok : ∀ k, k < 12 → parseFieldDescriptor (TX4 k).2.2.1 = some (tyX4 k) := by decide +kernel
abbrev cX4_init : ByteArray := prog_6_method_1_code
def yX4_init : MethodName := ⟨RX4, "<init>", "()V"⟩
abbrev cX4_copyFrom : ByteArray := prog_6_method_2_code
def yX4_copyFrom : MethodName := ⟨RX4, "copyFrom", "(LBoxedProofs$Proof;)V"⟩
abbrev cX4_hasLine : ByteArray := prog_6_method_3_code
def yX4_hasLine : MethodName := ⟨RX4, "hasLine", "(I)Z"⟩
abbrev cX4_hasBox : ByteArray := prog_6_method_4_code
def yX4_hasBox : MethodName := ⟨RX4, "hasBox", "(I)Z"⟩
abbrev cX4_isFull : ByteArray := prog_6_method_5_code
def yX4_isFull : MethodName := ⟨RX4, "isFull", "()Z"⟩
abbrev cX4_addLine : ByteArray := prog_6_method_6_code
def yX4_addLine : MethodName := ⟨RX4, "addLine", "(IIIII)I"⟩
abbrev cX4_openBox : ByteArray := prog_6_method_7_code
def yX4_openBox : MethodName := ⟨RX4, "openBox", "(I)I"⟩
abbrev cX4_canCloseBox : ByteArray := prog_6_method_8_code
def yX4_canCloseBox : MethodName := ⟨RX4, "canCloseBox", "()Z"⟩
abbrev cX4_closeBox : ByteArray := prog_6_method_9_code
def yX4_closeBox : MethodName := ⟨RX4, "closeBox", "()I"⟩
abbrev cX4_isNoneOrOpen : ByteArray := prog_6_method_10_code
def yX4_isNoneOrOpen : MethodName := ⟨RX4, "isNoneOrOpen", "(I)Z"⟩
abbrev cX4_isLineAvailable : ByteArray := prog_6_method_11_code
def yX4_isLineAvailable : MethodName := ⟨RX4, "isLineAvailable", "(I)Z"⟩
abbrev cX4_isBoxAvailable : ByteArray := prog_6_method_12_code
def yX4_isBoxAvailable : MethodName := ⟨RX4, "isBoxAvailable", "(I)Z"⟩
abbrev cX4_assumptionOf : ByteArray := prog_6_method_13_code
def yX4_assumptionOf : MethodName := ⟨RX4, "assumptionOf", "(I)I"⟩
abbrev cX4_conclusionOf : ByteArray := prog_6_method_14_code
def yX4_conclusionOf : MethodName := ⟨RX4, "conclusionOf", "(I)I"⟩
abbrev cX4_nesting : ByteArray := prog_6_method_15_code
def yX4_nesting : MethodName := ⟨RX4, "nesting", "(I)I"⟩
abbrev cX4_referenceAt : ByteArray := prog_6_method_16_code
def yX4_referenceAt : MethodName := ⟨RX4, "referenceAt", "(II)I"⟩
abbrev cX4_countLineReferences : ByteArray := prog_6_method_17_code
def yX4_countLineReferences : MethodName := ⟨RX4, "countLineReferences", "(I)I"⟩
abbrev cX4_bit : ByteArray := prog_6_method_18_code
def yX4_bit : MethodName := ⟨RX4, "bit", "(I)J"⟩
abbrev cX4_contains : ByteArray := prog_6_method_19_code
def yX4_contains : MethodName := ⟨RX4, "contains", "(JI)Z"⟩
abbrev cX4_directNeeds : ByteArray := prog_6_method_20_code
def yX4_directNeeds : MethodName := ⟨RX4, "directNeeds", "(I)J"⟩
abbrev cX4_countUsers : ByteArray := prog_6_method_21_code
def yX4_countUsers : MethodName := ⟨RX4, "countUsers", "(I)I"⟩
abbrev cX4_assumptionsFrom : ByteArray := prog_6_method_22_code
def yX4_assumptionsFrom : MethodName := ⟨RX4, "assumptionsFrom", "(I)J"⟩
abbrev cX4_allNeeds : ByteArray := prog_6_method_23_code
def yX4_allNeeds : MethodName := ⟨RX4, "allNeeds", "(I)J"⟩
abbrev cX4_bypassOf : ByteArray := prog_6_method_24_code
def yX4_bypassOf : MethodName := ⟨RX4, "bypassOf", "(I)I"⟩
abbrev cX4_countDetours : ByteArray := prog_6_method_25_code
def yX4_countDetours : MethodName := ⟨RX4, "countDetours", "()I"⟩
abbrev cX4_bypassDetours : ByteArray := prog_6_method_26_code
def yX4_bypassDetours : MethodName := ⟨RX4, "bypassDetours", "()I"⟩
abbrev cX4_bypassIn : ByteArray := prog_6_method_27_code
def yX4_bypassIn : MethodName := ⟨RX4, "bypassIn", "(LBoxedProofs$Row;I)I"⟩
abbrev cX4_allowedValuations : ByteArray := prog_6_method_28_code
def yX4_allowedValuations : MethodName := ⟨RX4, "allowedValuations", "(ILBoxedProofs$Row;)I"⟩
abbrev cX4_keepOnly : ByteArray := prog_6_method_29_code
def yX4_keepOnly : MethodName := ⟨RX4, "keepOnly", "(J)I"⟩
abbrev cX4_renumbered : ByteArray := prog_6_method_30_code
def yX4_renumbered : MethodName := ⟨RX4, "renumbered", "(IJ)I"⟩
abbrev cX4_moveLine : ByteArray := prog_6_method_31_code
def yX4_moveLine : MethodName := ⟨RX4, "moveLine", "(IIJJ)V"⟩
abbrev cX4_keepBoxes : ByteArray := prog_6_method_32_code
def yX4_keepBoxes : MethodName := ⟨RX4, "keepBoxes", "(J)J"⟩
abbrev cX4_findEnds : ByteArray := prog_6_method_33_code
def yX4_findEnds : MethodName := ⟨RX4, "findEnds", "()V"⟩
def RX5 : String := "BoxedProofs$Row"
def TX5 : u_T := fun k => match k with
  | _ => ("BoxedProofs$Row", "cells", "[I", true)
def tyX5 : Nat → FieldType := fun k => match k with
  | _ => .array .int
abbrev wsX50 : List Cond := u_ws RX5 TX5 1
theorem nmX5 : ∀ a, a < 1 → ∀ b, b < 1 → a ≠ b → (TX5 a).2.1 ≠ (TX5 b).2.1 := by decide +kernel
theorem tyX5_ok : ∀ k, k < 1 → parseFieldDescriptor (TX5 k).2.2.1 = some (tyX5 k) := by decide +kernel
abbrev cX5_init : ByteArray := prog_7_method_1_code
def yX5_init : MethodName := ⟨RX5, "<init>", "(I)V"⟩
abbrev cX5_get : ByteArray := prog_7_method_2_code
def yX5_get : MethodName := ⟨RX5, "get", "(I)I"⟩
abbrev cX5_set : ByteArray := prog_7_method_3_code
def yX5_set : MethodName := ⟨RX5, "set", "(II)V"⟩
abbrev cX5_copyFrom : ByteArray := prog_7_method_4_code
def yX5_copyFrom : MethodName := ⟨RX5, "copyFrom", "(LBoxedProofs$Row;)V"⟩
def RX6 : String := "BoxedProofs$Signs"
def TX6 : u_T := fun k => match k with
  | _ => ("", "", "", false)
def tyX6 : Nat → FieldType := fun k => match k with
  | _ => .int
abbrev wsX60 : List Cond := u_ws RX6 TX6 0
theorem nmX6 : ∀ a, a < 0 → ∀ b, b < 0 → a ≠ b → (TX6 a).2.1 ≠ (TX6 b).2.1 := by decide +kernel
theorem tyX6_ok : ∀ k, k < 0 → parseFieldDescriptor (TX6 k).2.2.1 = some (tyX6 k) := by decide +kernel
abbrev cX6_ofKind : ByteArray := prog_8_method_2_code
def yX6_ofKind : MethodName := ⟨RX6, "ofKind", "(I)I"⟩
abbrev cX6_kindOf : ByteArray := prog_8_method_3_code
def yX6_kindOf : MethodName := ⟨RX6, "kindOf", "(I)I"⟩
def RX7 : String := "BoxedProofs$State"
def TX7 : u_T := fun k => match k with
  | 0 => ("BoxedProofs$State", "formulas", "LBoxedProofs$Formulas;", true)
  | _ => ("BoxedProofs$State", "proof", "LBoxedProofs$Proof;", true)
def tyX7 : Nat → FieldType := fun k => match k with
  | 0 => .object "BoxedProofs$Formulas"
  | _ => .object "BoxedProofs$Proof"
abbrev wsX70 : List Cond := u_ws RX7 TX7 2
theorem nmX7 : ∀ a, a < 2 → ∀ b, b < 2 → a ≠ b → (TX7 a).2.1 ≠ (TX7 b).2.1 := by decide +kernel
theorem tyX7_ok : ∀ k, k < 2 → parseFieldDescriptor (TX7 k).2.2.1 = some (tyX7 k) := by decide +kernel
abbrev cX7_init : ByteArray := prog_9_method_1_code
def yX7_init : MethodName := ⟨RX7, "<init>", "()V"⟩
abbrev cX7_copyFrom : ByteArray := prog_9_method_2_code
def yX7_copyFrom : MethodName := ⟨RX7, "copyFrom", "(LBoxedProofs$State;)V"⟩
def RX8 : String := "BoxedProofs"
def TX8 : u_T := fun k => match k with
  | 0 => ("BoxedProofs", "now", "LBoxedProofs$State;", true)
  | 1 => ("BoxedProofs", "kept", "LBoxedProofs$State;", true)
  | 2 => ("BoxedProofs", "history", "LBoxedProofs$History;", true)
  | 3 => ("BoxedProofs", "buffer", "LBoxedProofs$Buffer;", true)
  | 4 => ("BoxedProofs", "builder", "LBoxedProofs$Builder;", true)
  | 5 => ("BoxedProofs", "draft", "LBoxedProofs$Formulas;", true)
  | 6 => ("BoxedProofs", "lengths", "LBoxedProofs$Row;", true)
  | 7 => ("BoxedProofs", "truths", "LBoxedProofs$Row;", true)
  | _ => ("BoxedProofs", "isKept", "Z", false)
def tyX8 : Nat → FieldType := fun k => match k with
  | 0 => .object "BoxedProofs$State"
  | 1 => .object "BoxedProofs$State"
  | 2 => .object "BoxedProofs$History"
  | 3 => .object "BoxedProofs$Buffer"
  | 4 => .object "BoxedProofs$Builder"
  | 5 => .object "BoxedProofs$Formulas"
  | 6 => .object "BoxedProofs$Row"
  | 7 => .object "BoxedProofs$Row"
  | _ => .boolean
abbrev wsX80 : List Cond := u_ws RX8 TX8 9
theorem nmX8 : ∀ a, a < 9 → ∀ b, b < 9 → a ≠ b → (TX8 a).2.1 ≠ (TX8 b).2.1 := by decide +kernel
theorem tyX8_ok : ∀ k, k < 9 → parseFieldDescriptor (TX8 k).2.2.1 = some (tyX8 k) := by decide +kernel
abbrev cX8_init : ByteArray := prog_1_method_1_code
def yX8_init : MethodName := ⟨RX8, "<init>", "()V"⟩
abbrev cX8_atom : ByteArray := prog_1_method_2_code
def yX8_atom : MethodName := ⟨RX8, "atom", "(I)I"⟩
abbrev cX8_falsum : ByteArray := prog_1_method_3_code
def yX8_falsum : MethodName := ⟨RX8, "falsum", "()I"⟩
abbrev cX8_not : ByteArray := prog_1_method_4_code
def yX8_not : MethodName := ⟨RX8, "not", "(I)I"⟩
abbrev cX8_pair : ByteArray := prog_1_method_5_code
def yX8_pair : MethodName := ⟨RX8, "pair", "(III)I"⟩
abbrev cX8_makeFormula : ByteArray := prog_1_method_6_code
def yX8_makeFormula : MethodName := ⟨RX8, "makeFormula", "(III)I"⟩
abbrev cX8_formulas : ByteArray := prog_1_method_7_code
def yX8_formulas : MethodName := ⟨RX8, "formulas", "()I"⟩
abbrev cX8_part : ByteArray := prog_1_method_8_code
def yX8_part : MethodName := ⟨RX8, "part", "(II)I"⟩
abbrev cX8_length : ByteArray := prog_1_method_9_code
def yX8_length : MethodName := ⟨RX8, "length", "(I)I"⟩
abbrev cX8_character : ByteArray := prog_1_method_10_code
def yX8_character : MethodName := ⟨RX8, "character", "(II)I"⟩
abbrev cX8_isTrue : ByteArray := prog_1_method_11_code
def yX8_isTrue : MethodName := ⟨RX8, "isTrue", "(II)I"⟩
abbrev cX8_premise : ByteArray := prog_1_method_12_code
def yX8_premise : MethodName := ⟨RX8, "premise", "(I)I"⟩
abbrev cX8_open : ByteArray := prog_1_method_13_code
def yX8_open : MethodName := ⟨RX8, "open", "(I)I"⟩
abbrev cX8_close : ByteArray := prog_1_method_14_code
def yX8_close : MethodName := ⟨RX8, "close", "()I"⟩
abbrev cX8_repeat : ByteArray := prog_1_method_15_code
def yX8_repeat : MethodName := ⟨RX8, "repeat", "(I)I"⟩
abbrev cX8_fromTwo : ByteArray := prog_1_method_16_code
def yX8_fromTwo : MethodName := ⟨RX8, "fromTwo", "(III)I"⟩
abbrev cX8_fromOne : ByteArray := prog_1_method_17_code
def yX8_fromOne : MethodName := ⟨RX8, "fromOne", "(II)I"⟩
abbrev cX8_toFormula : ByteArray := prog_1_method_18_code
def yX8_toFormula : MethodName := ⟨RX8, "toFormula", "(III)I"⟩
abbrev cX8_fromBox : ByteArray := prog_1_method_19_code
def yX8_fromBox : MethodName := ⟨RX8, "fromBox", "(II)I"⟩
abbrev cX8_cases : ByteArray := prog_1_method_20_code
def yX8_cases : MethodName := ⟨RX8, "cases", "(III)I"⟩
abbrev cX8_write : ByteArray := prog_1_method_21_code
def yX8_write : MethodName := ⟨RX8, "write", "(IIIII)I"⟩
abbrev cX8_writeMade : ByteArray := prog_1_method_22_code
def yX8_writeMade : MethodName := ⟨RX8, "writeMade", "(IIIIII)I"⟩
abbrev cX8_lines : ByteArray := prog_1_method_23_code
def yX8_lines : MethodName := ⟨RX8, "lines", "()I"⟩
abbrev cX8_line : ByteArray := prog_1_method_24_code
def yX8_line : MethodName := ⟨RX8, "line", "(II)I"⟩
abbrev cX8_reference : ByteArray := prog_1_method_25_code
def yX8_reference : MethodName := ⟨RX8, "reference", "(II)I"⟩
abbrev cX8_boxes : ByteArray := prog_1_method_26_code
def yX8_boxes : MethodName := ⟨RX8, "boxes", "()I"⟩
abbrev cX8_box : ByteArray := prog_1_method_27_code
def yX8_box : MethodName := ⟨RX8, "box", "(II)I"⟩
abbrev cX8_depth : ByteArray := prog_1_method_28_code
def yX8_depth : MethodName := ⟨RX8, "depth", "()I"⟩
abbrev cX8_needs : ByteArray := prog_1_method_29_code
def yX8_needs : MethodName := ⟨RX8, "needs", "(I)J"⟩
abbrev cX8_bypass : ByteArray := prog_1_method_30_code
def yX8_bypass : MethodName := ⟨RX8, "bypass", "(I)I"⟩
abbrev cX8_detours : ByteArray := prog_1_method_31_code
def yX8_detours : MethodName := ⟨RX8, "detours", "()I"⟩
abbrev cX8_failure : ByteArray := prog_1_method_32_code
def yX8_failure : MethodName := ⟨RX8, "failure", "(I)I"⟩
abbrev cX8_counterexample : ByteArray := prog_1_method_33_code
def yX8_counterexample : MethodName := ⟨RX8, "counterexample", "(I)I"⟩
abbrev cX8_lowestFailure : ByteArray := prog_1_method_34_code
def yX8_lowestFailure : MethodName := ⟨RX8, "lowestFailure", "(II)I"⟩
abbrev cX8_lowestBit : ByteArray := prog_1_method_35_code
def yX8_lowestBit : MethodName := ⟨RX8, "lowestBit", "(I)I"⟩
abbrev cX8_shorten : ByteArray := prog_1_method_36_code
def yX8_shorten : MethodName := ⟨RX8, "shorten", "()I"⟩
abbrev cX8_trim : ByteArray := prog_1_method_37_code
def yX8_trim : MethodName := ⟨RX8, "trim", "(I)I"⟩
abbrev cX8_append : ByteArray := prog_1_method_38_code
def yX8_append : MethodName := ⟨RX8, "append", "(I)I"⟩
abbrev cX8_clearText : ByteArray := prog_1_method_39_code
def yX8_clearText : MethodName := ⟨RX8, "clearText", "()I"⟩
abbrev cX8_errorPosition : ByteArray := prog_1_method_40_code
def yX8_errorPosition : MethodName := ⟨RX8, "errorPosition", "()I"⟩
abbrev cX8_read : ByteArray := prog_1_method_41_code
def yX8_read : MethodName := ⟨RX8, "read", "()I"⟩
abbrev cX8_undo : ByteArray := prog_1_method_42_code
def yX8_undo : MethodName := ⟨RX8, "undo", "()I"⟩
abbrev cX8_save : ByteArray := prog_1_method_43_code
def yX8_save : MethodName := ⟨RX8, "save", "()I"⟩
abbrev cX8_restore : ByteArray := prog_1_method_44_code
def yX8_restore : MethodName := ⟨RX8, "restore", "()I"⟩
def RX9 : String := "BoxedProofsModel"
def TX9 : u_T := fun k => match k with
  | 0 => ("BoxedProofsModel", "z", "[I", true)
  | 1 => ("BoxedProofsModel", "past", "[I", true)
  | 2 => ("BoxedProofsModel", "pastMany", "I", false)
  | 3 => ("BoxedProofsModel", "kept", "[I", true)
  | 4 => ("BoxedProofsModel", "isKept", "Z", false)
  | 5 => ("BoxedProofsModel", "buffer", "[C", true)
  | 6 => ("BoxedProofsModel", "typed", "I", false)
  | 7 => ("BoxedProofsModel", "lengths", "[I", true)
  | 8 => ("BoxedProofsModel", "truth", "[Z", true)
  | 9 => ("BoxedProofsModel", "newLine", "[I", true)
  | 10 => ("BoxedProofsModel", "newBox", "[I", true)
  | 11 => ("BoxedProofsModel", "waits", "[I", true)
  | 12 => ("BoxedProofsModel", "ahead", "[I", true)
  | 13 => ("BoxedProofsModel", "signs", "[I", true)
  | 14 => ("BoxedProofsModel", "deep", "I", false)
  | 15 => ("BoxedProofsModel", "wantsFormula", "Z", false)
  | 16 => ("BoxedProofsModel", "value", "I", false)
  | _ => ("BoxedProofsModel", "isOver", "Z", false)
def tyX9 : Nat → FieldType := fun k => match k with
  | 0 => .array .int
  | 1 => .array .int
  | 2 => .int
  | 3 => .array .int
  | 4 => .boolean
  | 5 => .array .char
  | 6 => .int
  | 7 => .array .int
  | 8 => .array .boolean
  | 9 => .array .int
  | 10 => .array .int
  | 11 => .array .int
  | 12 => .array .int
  | 13 => .array .int
  | 14 => .int
  | 15 => .boolean
  | 16 => .int
  | _ => .boolean
abbrev wsX90 : List Cond := u_ws RX9 TX9 18
theorem nmX9 : ∀ a, a < 18 → ∀ b, b < 18 → a ≠ b → (TX9 a).2.1 ≠ (TX9 b).2.1 := by decide +kernel
theorem tyX9_ok : ∀ k, k < 18 → parseFieldDescriptor (TX9 k).2.2.1 = some (tyX9 k) := by decide +kernel
abbrev cX9_init : ByteArray := prog_11_method_1_code
def yX9_init : MethodName := ⟨RX9, "<init>", "()V"⟩
abbrev cX9_in : ByteArray := prog_11_method_2_code
def yX9_in : MethodName := ⟨RX9, "in", "(III)Z"⟩
abbrev cX9_record : ByteArray := prog_11_method_3_code
def yX9_record : MethodName := ⟨RX9, "record", "()V"⟩
abbrev cX9_undo : ByteArray := prog_11_method_4_code
def yX9_undo : MethodName := ⟨RX9, "undo", "()I"⟩
abbrev cX9_save : ByteArray := prog_11_method_5_code
def yX9_save : MethodName := ⟨RX9, "save", "()I"⟩
abbrev cX9_restore : ByteArray := prog_11_method_6_code
def yX9_restore : MethodName := ⟨RX9, "restore", "()I"⟩
abbrev cX9_isFormula : ByteArray := prog_11_method_7_code
def yX9_isFormula : MethodName := ⟨RX9, "isFormula", "(I)Z"⟩
abbrev cX9_kind : ByteArray := prog_11_method_8_code
def yX9_kind : MethodName := ⟨RX9, "kind", "(I)I"⟩
abbrev cX9_left : ByteArray := prog_11_method_9_code
def yX9_left : MethodName := ⟨RX9, "left", "(I)I"⟩
abbrev cX9_right : ByteArray := prog_11_method_10_code
def yX9_right : MethodName := ⟨RX9, "right", "(I)I"⟩
abbrev cX9_find : ByteArray := prog_11_method_11_code
def yX9_find : MethodName := ⟨RX9, "find", "(III)I"⟩
abbrev cX9_hasRoom : ByteArray := prog_11_method_12_code
def yX9_hasRoom : MethodName := ⟨RX9, "hasRoom", "(III)Z"⟩
abbrev cX9_make : ByteArray := prog_11_method_13_code
def yX9_make : MethodName := ⟨RX9, "make", "(III)I"⟩
abbrev cX9_makeOne : ByteArray := prog_11_method_14_code
def yX9_makeOne : MethodName := ⟨RX9, "makeOne", "(III)I"⟩
abbrev cX9_atom : ByteArray := prog_11_method_15_code
def yX9_atom : MethodName := ⟨RX9, "atom", "(I)I"⟩
abbrev cX9_falsum : ByteArray := prog_11_method_16_code
def yX9_falsum : MethodName := ⟨RX9, "falsum", "()I"⟩
abbrev cX9_not : ByteArray := prog_11_method_17_code
def yX9_not : MethodName := ⟨RX9, "not", "(I)I"⟩
abbrev cX9_pair : ByteArray := prog_11_method_18_code
def yX9_pair : MethodName := ⟨RX9, "pair", "(III)I"⟩
abbrev cX9_formulas : ByteArray := prog_11_method_19_code
def yX9_formulas : MethodName := ⟨RX9, "formulas", "()I"⟩
abbrev cX9_part : ByteArray := prog_11_method_20_code
def yX9_part : MethodName := ⟨RX9, "part", "(II)I"⟩
abbrev cX9_measure : ByteArray := prog_11_method_21_code
def yX9_measure : MethodName := ⟨RX9, "measure", "()V"⟩
abbrev cX9_length : ByteArray := prog_11_method_22_code
def yX9_length : MethodName := ⟨RX9, "length", "(I)I"⟩
abbrev cX9_character : ByteArray := prog_11_method_23_code
def yX9_character : MethodName := ⟨RX9, "character", "(II)I"⟩
abbrev cX9_evaluate : ByteArray := prog_11_method_24_code
def yX9_evaluate : MethodName := ⟨RX9, "evaluate", "(I)V"⟩
abbrev cX9_isTrue : ByteArray := prog_11_method_25_code
def yX9_isTrue : MethodName := ⟨RX9, "isTrue", "(II)I"⟩
abbrev cX9_isLine : ByteArray := prog_11_method_26_code
def yX9_isLine : MethodName := ⟨RX9, "isLine", "(I)Z"⟩
abbrev cX9_isBox : ByteArray := prog_11_method_27_code
def yX9_isBox : MethodName := ⟨RX9, "isBox", "(I)Z"⟩
abbrev cX9_formulaOf : ByteArray := prog_11_method_28_code
def yX9_formulaOf : MethodName := ⟨RX9, "formulaOf", "(I)I"⟩
abbrev cX9_ruleOf : ByteArray := prog_11_method_29_code
def yX9_ruleOf : MethodName := ⟨RX9, "ruleOf", "(I)I"⟩
abbrev cX9_refOf : ByteArray := prog_11_method_30_code
def yX9_refOf : MethodName := ⟨RX9, "refOf", "(II)I"⟩
abbrev cX9_boxOf : ByteArray := prog_11_method_31_code
def yX9_boxOf : MethodName := ⟨RX9, "boxOf", "(I)I"⟩
abbrev cX9_opens : ByteArray := prog_11_method_32_code
def yX9_opens : MethodName := ⟨RX9, "opens", "(I)I"⟩
abbrev cX9_ends : ByteArray := prog_11_method_33_code
def yX9_ends : MethodName := ⟨RX9, "ends", "(I)I"⟩
abbrev cX9_parent : ByteArray := prog_11_method_34_code
def yX9_parent : MethodName := ⟨RX9, "parent", "(I)I"⟩
abbrev cX9_latest : ByteArray := prog_11_method_35_code
def yX9_latest : MethodName := ⟨RX9, "latest", "()I"⟩
abbrev cX9_openBoxes : ByteArray := prog_11_method_36_code
def yX9_openBoxes : MethodName := ⟨RX9, "openBoxes", "()I"⟩
abbrev cX9_isShut : ByteArray := prog_11_method_37_code
def yX9_isShut : MethodName := ⟨RX9, "isShut", "(I)Z"⟩
abbrev cX9_isAvailable : ByteArray := prog_11_method_38_code
def yX9_isAvailable : MethodName := ⟨RX9, "isAvailable", "(I)Z"⟩
abbrev cX9_isBoxAvailable : ByteArray := prog_11_method_39_code
def yX9_isBoxAvailable : MethodName := ⟨RX9, "isBoxAvailable", "(I)Z"⟩
abbrev cX9_liesIn : ByteArray := prog_11_method_40_code
def yX9_liesIn : MethodName := ⟨RX9, "liesIn", "(II)Z"⟩
abbrev cX9_depthOf : ByteArray := prog_11_method_41_code
def yX9_depthOf : MethodName := ⟨RX9, "depthOf", "(I)I"⟩
abbrev cX9_write : ByteArray := prog_11_method_42_code
def yX9_write : MethodName := ⟨RX9, "write", "(IIIII)I"⟩
abbrev cX9_isFull : ByteArray := prog_11_method_43_code
def yX9_isFull : MethodName := ⟨RX9, "isFull", "()Z"⟩
abbrev cX9_writeOld : ByteArray := prog_11_method_44_code
def yX9_writeOld : MethodName := ⟨RX9, "writeOld", "(IIIII)I"⟩
abbrev cX9_writeNew : ByteArray := prog_11_method_45_code
def yX9_writeNew : MethodName := ⟨RX9, "writeNew", "(IIIIII)I"⟩
abbrev cX9_premise : ByteArray := prog_11_method_46_code
def yX9_premise : MethodName := ⟨RX9, "premise", "(I)I"⟩
abbrev cX9_open : ByteArray := prog_11_method_47_code
def yX9_open : MethodName := ⟨RX9, "open", "(I)I"⟩
abbrev cX9_close : ByteArray := prog_11_method_48_code
def yX9_close : MethodName := ⟨RX9, "close", "()I"⟩
abbrev cX9_repeat : ByteArray := prog_11_method_49_code
def yX9_repeat : MethodName := ⟨RX9, "repeat", "(I)I"⟩
abbrev cX9_fromTwo : ByteArray := prog_11_method_50_code
def yX9_fromTwo : MethodName := ⟨RX9, "fromTwo", "(III)I"⟩
abbrev cX9_fromOne : ByteArray := prog_11_method_51_code
def yX9_fromOne : MethodName := ⟨RX9, "fromOne", "(II)I"⟩
abbrev cX9_toFormula : ByteArray := prog_11_method_52_code
def yX9_toFormula : MethodName := ⟨RX9, "toFormula", "(III)I"⟩
abbrev cX9_fromBox : ByteArray := prog_11_method_53_code
def yX9_fromBox : MethodName := ⟨RX9, "fromBox", "(II)I"⟩
abbrev cX9_cases : ByteArray := prog_11_method_54_code
def yX9_cases : MethodName := ⟨RX9, "cases", "(III)I"⟩
abbrev cX9_lines : ByteArray := prog_11_method_55_code
def yX9_lines : MethodName := ⟨RX9, "lines", "()I"⟩
abbrev cX9_isToBox : ByteArray := prog_11_method_56_code
def yX9_isToBox : MethodName := ⟨RX9, "isToBox", "(II)Z"⟩
abbrev cX9_direct : ByteArray := prog_11_method_57_code
def yX9_direct : MethodName := ⟨RX9, "direct", "(I)J"⟩
abbrev cX9_neededBy : ByteArray := prog_11_method_58_code
def yX9_neededBy : MethodName := ⟨RX9, "neededBy", "(I)I"⟩
abbrev cX9_line : ByteArray := prog_11_method_59_code
def yX9_line : MethodName := ⟨RX9, "line", "(II)I"⟩
abbrev cX9_reference : ByteArray := prog_11_method_60_code
def yX9_reference : MethodName := ⟨RX9, "reference", "(II)I"⟩
abbrev cX9_boxes : ByteArray := prog_11_method_61_code
def yX9_boxes : MethodName := ⟨RX9, "boxes", "()I"⟩
abbrev cX9_box : ByteArray := prog_11_method_62_code
def yX9_box : MethodName := ⟨RX9, "box", "(II)I"⟩
abbrev cX9_depth : ByteArray := prog_11_method_63_code
def yX9_depth : MethodName := ⟨RX9, "depth", "()I"⟩
abbrev cX9_assumed : ByteArray := prog_11_method_64_code
def yX9_assumed : MethodName := ⟨RX9, "assumed", "(I)J"⟩
abbrev cX9_needed : ByteArray := prog_11_method_65_code
def yX9_needed : MethodName := ⟨RX9, "needed", "(I)J"⟩
abbrev cX9_needs : ByteArray := prog_11_method_66_code
def yX9_needs : MethodName := ⟨RX9, "needs", "(I)J"⟩
abbrev cX9_bypassOf : ByteArray := prog_11_method_67_code
def yX9_bypassOf : MethodName := ⟨RX9, "bypassOf", "(I)I"⟩
abbrev cX9_bypass : ByteArray := prog_11_method_68_code
def yX9_bypass : MethodName := ⟨RX9, "bypass", "(I)I"⟩
abbrev cX9_detours : ByteArray := prog_11_method_69_code
def yX9_detours : MethodName := ⟨RX9, "detours", "()I"⟩
abbrev cX9_areTrue : ByteArray := prog_11_method_70_code
def yX9_areTrue : MethodName := ⟨RX9, "areTrue", "(J)Z"⟩
abbrev cX9_premises : ByteArray := prog_11_method_71_code
def yX9_premises : MethodName := ⟨RX9, "premises", "()J"⟩
abbrev cX9_fails : ByteArray := prog_11_method_72_code
def yX9_fails : MethodName := ⟨RX9, "fails", "(JI)I"⟩
abbrev cX9_failure : ByteArray := prog_11_method_73_code
def yX9_failure : MethodName := ⟨RX9, "failure", "(I)I"⟩
abbrev cX9_counterexample : ByteArray := prog_11_method_74_code
def yX9_counterexample : MethodName := ⟨RX9, "counterexample", "(I)I"⟩
abbrev cX9_shorten : ByteArray := prog_11_method_75_code
def yX9_shorten : MethodName := ⟨RX9, "shorten", "()I"⟩
abbrev cX9_renamed : ByteArray := prog_11_method_76_code
def yX9_renamed : MethodName := ⟨RX9, "renamed", "(II)I"⟩
abbrev cX9_lastIn : ByteArray := prog_11_method_77_code
def yX9_lastIn : MethodName := ⟨RX9, "lastIn", "(IJ)I"⟩
abbrev cX9_trim : ByteArray := prog_11_method_78_code
def yX9_trim : MethodName := ⟨RX9, "trim", "(I)I"⟩
abbrev cX9_moveLines : ByteArray := prog_11_method_79_code
def yX9_moveLines : MethodName := ⟨RX9, "moveLines", "(J)V"⟩
abbrev cX9_moveBoxes : ByteArray := prog_11_method_80_code
def yX9_moveBoxes : MethodName := ⟨RX9, "moveBoxes", "()V"⟩
abbrev cX9_append : ByteArray := prog_11_method_81_code
def yX9_append : MethodName := ⟨RX9, "append", "(I)I"⟩
abbrev cX9_clearText : ByteArray := prog_11_method_82_code
def yX9_clearText : MethodName := ⟨RX9, "clearText", "()I"⟩
abbrev cX9_makes : ByteArray := prog_11_method_83_code
def yX9_makes : MethodName := ⟨RX9, "makes", "(ZIII)I"⟩
abbrev cX9_isWhole : ByteArray := prog_11_method_84_code
def yX9_isWhole : MethodName := ⟨RX9, "isWhole", "(ZI)V"⟩
abbrev cX9_signOf : ByteArray := prog_11_method_85_code
def yX9_signOf : MethodName := ⟨RX9, "signOf", "(I)I"⟩
abbrev cX9_readOne : ByteArray := prog_11_method_86_code
def yX9_readOne : MethodName := ⟨RX9, "readOne", "(ZI)Z"⟩
abbrev cX9_readBuffer : ByteArray := prog_11_method_87_code
def yX9_readBuffer : MethodName := ⟨RX9, "readBuffer", "(Z)I"⟩
abbrev cX9_errorPosition : ByteArray := prog_11_method_88_code
def yX9_errorPosition : MethodName := ⟨RX9, "errorPosition", "()I"⟩
abbrev cX9_read : ByteArray := prog_11_method_89_code
def yX9_read : MethodName := ⟨RX9, "read", "()I"⟩
def RJ6 : String := "java/lang/Integer"
def TJ6 : u_T := fun k => match k with
  | _ => ("", "", "", false)
def tyJ6 : Nat → FieldType := fun k => match k with
  | _ => .int
abbrev wsJ60 : List Cond := u_ws RJ6 TJ6 0
theorem nmJ6 : ∀ a, a < 0 → ∀ b, b < 0 → a ≠ b → (TJ6 a).2.1 ≠ (TJ6 b).2.1 := by decide +kernel
theorem tyJ6_ok : ∀ k, k < 0 → parseFieldDescriptor (TJ6 k).2.2.1 = some (tyJ6 k) := by decide +kernel
abbrev cJ6_bitCount_0f7a4 : ByteArray := prog_12_method_49_code
def yJ6_bitCount_0f7a4 : MethodName := ⟨RJ6, "bitCount", "(I)I"⟩
def RJ13 : String := "java/lang/Long"
def TJ13 : u_T := fun k => match k with
  | _ => ("", "", "", false)
def tyJ13 : Nat → FieldType := fun k => match k with
  | _ => .int
abbrev wsJ130 : List Cond := u_ws RJ13 TJ13 0
theorem nmJ13 : ∀ a, a < 0 → ∀ b, b < 0 → a ≠ b → (TJ13 a).2.1 ≠ (TJ13 b).2.1 := by decide +kernel
theorem tyJ13_ok : ∀ k, k < 0 → parseFieldDescriptor (TJ13 k).2.2.1 = some (tyJ13 k) := by decide +kernel
abbrev cJ13_bitCount_95d88 : ByteArray := prog_13_method_50_code
def yJ13_bitCount_95d88 : MethodName := ⟨RJ13, "bitCount", "(J)I"⟩
def RJ9 : String := "java/lang/Math"
def TJ9 : u_T := fun k => match k with
  | _ => ("", "", "", false)
def tyJ9 : Nat → FieldType := fun k => match k with
  | _ => .int
abbrev wsJ90 : List Cond := u_ws RJ9 TJ9 0
theorem nmJ9 : ∀ a, a < 0 → ∀ b, b < 0 → a ≠ b → (TJ9 a).2.1 ≠ (TJ9 b).2.1 := by decide +kernel
theorem tyJ9_ok : ∀ k, k < 0 → parseFieldDescriptor (TJ9 k).2.2.1 = some (tyJ9 k) := by decide +kernel
abbrev cJ9_max_7cf53 : ByteArray := prog_14_method_65_code
def yJ9_max_7cf53 : MethodName := ⟨RJ9, "max", "(II)I"⟩
abbrev cJ9_min_7cf53 : ByteArray := prog_14_method_69_code
def yJ9_min_7cf53 : MethodName := ⟨RJ9, "min", "(II)I"⟩
def RJ10 : String := "java/lang/System"
def TJ10 : u_T := fun k => match k with
  | _ => ("", "", "", false)
def tyJ10 : Nat → FieldType := fun k => match k with
  | _ => .int
abbrev wsJ100 : List Cond := u_ws RJ10 TJ10 0
theorem nmJ10 : ∀ a, a < 0 → ∀ b, b < 0 → a ≠ b → (TJ10 a).2.1 ≠ (TJ10 b).2.1 := by decide +kernel
theorem tyJ10_ok : ∀ k, k < 0 → parseFieldDescriptor (TJ10 k).2.2.1 = some (tyJ10 k) := by decide +kernel
def RL : String := "BoxedProofsLaw"
abbrev cL_law : ByteArray := code
def yL_law : MethodName := ⟨RL, "law", "([I)Z"⟩
abbrev vwCl : List vw_C := [(RX0, TX0, 5), (RX1, TX1, 3), (RX2, TX2, 4), (RX3, TX3, 3), (RX4, TX4, 12), (RX5, TX5, 1), (RX7, TX7, 2), (RX8, TX8, 9), (RX9, TX9, 18)]
end
section
/-! THE SMALL MACHINE: values, memory, shapes, one step as a condition. Cell ids are (kind, instance, column); references never change once the objects are made. -/
abbrev xI : Type := Nat × Nat × Nat
abbrev xV : Type := Int32 ⊕ Int64 ⊕ Option xI
abbrev xM : Type := xI → Nat → Int32
abbrev vI (x : Int32) : xV := Sum.inl x
abbrev vL (x : Int64) : xV := Sum.inr (Sum.inl x)
abbrev vR (q : xI) : xV := Sum.inr (Sum.inr (some q))
abbrev vN : xV := Sum.inr (Sum.inr none)
abbrev xP : Type := Option xV → xM → Prop
/-- a method: name, bytes, locals, what it returns, how many arguments (the receiver not counted) -/
abbrev xD : Type := MethodName × ByteArray × Nat × Option FieldType × Nat
/-- an instruction: place, instruction, length, numbers (a local, targets, a field), a constant -/
abbrev xT : Type := Nat × Instr × Nat × List Nat × xV
abbrev xC : Type := xD → List xV → xM → xP → Prop
abbrev xK : Type := List xT → List xV → List xV → xM → Prop
/-- of a class: fields (entry, class, place, kind), methods of objects (entry, class, method), static methods, constants, natives (entry, which) -/
abbrev xCE : Type := List (Nat × Nat × Nat × Nat) × List (Nat × Nat × xD) × List (Nat × Nat × xD) × List (Nat × xV) × List (Nat × Nat)
/-- a method's text: its class's number, the method, its instructions, its heads with their live locals, its class's tables -/
abbrev xE : Type := Nat × xD × List xT × List (Nat × List Bool) × xCE
def xst (μ : xM) (q : xI) (k : Nat) (v : Int32) : xM := fun p => if p = q then upd (μ q) k v else μ p
def xcp (μ : xM) (a b : xI) (sp dp n : Nat) : xM := fun p => if p = b then va_cpy (μ a) (μ b) sp dp n else μ p
def xlenc : Nat → Nat
  | 0 => 60 | 1 => 60 | 2 => 60
  | 3 => 48 | 4 => 48 | 5 => 48 | 6 => 48 | 7 => 48 | 8 => 48 | 9 => 48 | 10 => 48 | 11 => 48
  | 12 => 60 | 13 => 60 | 14 => 70 | 15 => 70 | 16 => 70
  | 20 => 615 | 21 => 3075 | 22 => 615 | 23 => 60 | 24 => 48 | 25 => 48 | 26 => 11 | 27 => 11 | 28 => 11
  | _ => 0
def xarr : xI → Option (Nat × Nat)
  | (1, _, c) => some (0, xlenc c)
  | (11, _, _) => some (2, 70)
  | (12, _, _) => some (1, 60)
  | _ => none
def xobj : xI → Option (Nat × List (Option xI))
  | (0, j, c) => some (5, [some (1, j, c)])
  | (2, j, _) => some (2, [none, some (0, j, 0), some (0, j, 1), some (0, j, 2)])
  | (3, j, _) => some (4, [none, none, none, some (0, j, 3), some (0, j, 4), some (0, j, 5), some (0, j, 6), some (0, j, 7), some (0, j, 8), some (0, j, 9), some (0, j, 10), some (0, j, 11)])
  | (4, j, _) => some (6, [some (2, j, 0), some (3, j, 0)])
  | (5, _, _) => some (3, [none, none, some (10, 0, 0)])
  | (6, _, _) => some (0, [none, some (0, 0, 14), none, none, none])
  | (7, _, _) => some (1, [none, some (0, 0, 15), some (0, 0, 16)])
  | (8, _, _) => some (7, [some (4, 0, 0), some (4, 1, 0), some (5, 0, 0), some (6, 0, 0), some (7, 0, 0), some (2, 7, 0), some (0, 0, 12), some (0, 0, 13), none])
  | (9, _, _) => some (8, [some (1, 0, 20), some (1, 0, 21), none, some (1, 0, 22), none, some (11, 0, 0), none, some (1, 0, 23), some (12, 0, 0), some (1, 0, 24), some (1, 0, 25), some (1, 0, 26), some (1, 0, 27), some (1, 0, 28), none, none, none, none])
  | _ => none
def xok (q : xI) : Bool :=
  if q.1 = 0 then (decide (q.2.2 < 3) && decide (q.2.1 < 8)) || (decide (3 ≤ q.2.2) && decide (q.2.2 < 12) && decide (q.2.1 < 7)) || (decide (12 ≤ q.2.2) && decide (q.2.2 < 17) && decide (q.2.1 = 0))
  else if q.1 = 1 then (decide (q.2.2 < 3) && decide (q.2.1 < 8)) || (decide (3 ≤ q.2.2) && decide (q.2.2 < 12) && decide (q.2.1 < 7)) || (decide (12 ≤ q.2.2) && decide (q.2.2 < 17) && decide (q.2.1 = 0)) || (decide (20 ≤ q.2.2) && decide (q.2.2 < 29) && decide (q.2.1 = 0))
  else if q.1 = 2 then decide (q.2.2 = 0) && decide (q.2.1 < 8)
  else if q.1 = 3 then decide (q.2.2 = 0) && decide (q.2.1 < 7)
  else if q.1 = 4 then decide (q.2.2 = 0) && decide (q.2.1 < 7)
  else decide (q.1 < 13) && decide (q.2.1 = 0) && decide (q.2.2 = 0)
def xids : List xI := ((List.range 13).flatMap fun k => (List.range 8).flatMap fun j => (List.range 29).map fun c => (k, j, c)).filter xok
/-- a machine's value -/
def xrv (ad : xI → Nat) : xV → Value
  | .inl x => .int x
  | .inr (.inl x) => .long x
  | .inr (.inr (some q)) => .ref (ad q)
  | .inr (.inr none) => .null
def xvok : xV → Prop
  | .inr (.inr (some q)) => xok q = true
  | _ => True
def xfs (ad : xI → Nat) (f : Nat → Int32) : Nat → List (Option xI) → List Value
  | _, [] => []
  | k, none :: l => .int (f k) :: xfs ad f (k + 1) l
  | k, some r :: l => .ref (ad r) :: xfs ad f (k + 1) l
def xcell (ad : xI → Nat) (cA : Nat → ClassId) (μ : xM) (q : xI) : va_E := match xobj q with
  | some (ci, fs) => .inr (ci, xfs ad (μ q) 0 fs)
  | none => match xarr q with
    | some (t, n) => .inl (cA t, n, .inl (μ q))
    | none => .inl (cA 3, 5, .inr (.inr (.inr (.inr fun i => some (ad (4, 2 + i, 0))))))
def xwld (ad : xI → Nat) (cA : Nat → ClassId) (μ : xM) : va_W := xids.map fun q => (ad q, xcell ad cA μ q)
def xtys (cA : Nat → ClassId) : List (ClassId × FieldType) := [(cA 0, .int), (cA 1, .boolean), (cA 2, .char), (cA 3, .object "BoxedProofs$State")]
def xA (ad : xI → Nat) : Nat → Prop := fun q => ∃ x : xI, xok x = true ∧ ad x = q
-- reading stack and locals
def xpI (st : List xV) (f : Int32 → List xV → Prop) : Prop := match st with
  | .inl x :: r => f x r
  | _ => False
def xpL (st : List xV) (f : Int64 → List xV → Prop) : Prop := match st with
  | .inr (.inl x) :: r => f x r
  | _ => False
def xpR (st : List xV) (f : xI → List xV → Prop) : Prop := match st with
  | .inr (.inr (some q)) :: r => f q r
  | _ => False
def xnth : List xV → Nat → xV
  | [], _ => vN
  | v :: _, 0 => v
  | _ :: l, i + 1 => xnth l i
def xgI (lv : List xV) (i : Nat) (f : Int32 → Prop) : Prop := match xnth lv i with
  | .inl x => f x
  | _ => False
def xgL (lv : List xV) (i : Nat) (f : Int64 → Prop) : Prop := match xnth lv i with
  | .inr (.inl x) => f x
  | _ => False
def xgR (lv : List xV) (i : Nat) (f : xI → Prop) : Prop := match xnth lv i with
  | .inr (.inr (some q)) => f q
  | _ => False
def xcI (c : xV) (f : Int32 → Prop) : Prop := match c with
  | .inl x => f x
  | _ => False
def xcL (c : xV) (f : Int64 → Prop) : Prop := match c with
  | .inr (.inl x) => f x
  | _ => False
def xax (q : xI) (t : Nat) (f : Nat → Prop) : Prop := match xarr q with
  | some (t', n) => (match Nat.beq t' t with | true => f n | false => False)
  | none => False
def xal (q : xI) (f : Nat → Prop) : Prop := match xarr q with
  | some (_, n) => f n
  | none => (match q with | (10, _, _) => f 5 | _ => False)
def xrg (q : xI) (f : Prop) : Prop := match q with
  | (10, _, _) => f
  | _ => False
def xro (q : xI) (t : Nat) (f : Prop) : Prop := match xobj q with
  | some (ci, _) => (match Nat.beq ci t with | true => f | false => False)
  | none => False
def xpQ (st : List xV) (f : Option xI → List xV → Prop) : Prop := match st with
  | .inr (.inr q) :: r => f q r
  | _ => False
def xnil (l : List xV) (f : Prop) : Prop := match l with
  | [] => f
  | _ => False
def xri (rt : Option FieldType) (x : Int32) (f : Prop) : Prop := match rt with
  | some .int => f
  | some .boolean => (x = 0 ∨ x = 1) ∧ f
  | _ => False
def xrl (rt : Option FieldType) (f : Prop) : Prop := match rt with
  | some .long => f
  | _ => False
def xra (rt : Option FieldType) (f : Prop) : Prop := match rt with
  | some (.object _) => f
  | _ => False
def xrn (rt : Option FieldType) (f : Prop) : Prop := match rt with
  | none => f
  | _ => False
def xpb (c : xV) (x : Int32) (f : Prop) : Prop := match c with
  | .inl _ => (x = 0 ∨ x = 1) ∧ f
  | _ => f
def xset : List xV → Nat → xV → List xV
  | [], _, _ => []
  | _ :: l, 0, v => v :: l
  | a :: l, i + 1, v => a :: xset l i v
def xclr (lv : List xV) : Nat → List xV
  | 0 => lv
  | i + 1 => match xnth lv i with
    | .inr (.inl _) => xset lv i vN
    | _ => lv
def xs1 (lv : List xV) (i : Nat) (v : xV) : List xV := xset (xclr lv i) i v
def xs2 (lv : List xV) (i : Nat) (v : xV) : List xV := xset (xset (xclr lv i) (i + 1) vN) i v
def xmask : List Bool → List xV → List xV
  | true :: b, v :: l => v :: xmask b l
  | false :: b, _ :: l => vN :: xmask b l
  | _, _ => []
def xlook : List (Nat × List Bool) → Nat → Option (List Bool)
  | [], _ => none
  | (a, b) :: l, n => match Nat.beq a n with
    | true => some b
    | false => xlook l n
def xt0 : List Nat → Nat
  | a :: _ => a
  | [] => 0
def xt1 : List Nat → Nat
  | _ :: a :: _ => a
  | _ => 0
def xcats : List xV → Nat
  | [] => 0
  | .inr (.inl _) :: l => 2 + xcats l
  | _ :: l => 1 + xcats l
def xargs : Nat → List xV → List xV → (List xV → List xV → Prop) → Prop
  | 0, st, acc, f => f acc st
  | n + 1, v :: r, acc, f => xargs n r (v :: acc) f
  | _ + 1, [], _, _ => False
def xfind (l : List (Nat × Nat × xD)) (i : Nat) (f : xD → Prop) : Prop := match l, i with
  | [], _ => False
  | (_, _, D) :: _, 0 => f D
  | _ :: l, i + 1 => xfind l i f
def xif8 (l : List xV) (f : Prop) : Prop := match Nat.ble (xcats l) 8 with
  | true => f
  | false => False
/-- behind a call: what it returned goes onto the stack -/
def xret (rt : Option FieldType) (rest : List xV) (k : List xV → xM → Prop) : xP := fun r μ' => match rt with
  | none => (match r with | none => k rest μ' | some _ => False)
  | some .long => (match r with | some (.inr (.inl x)) => k (vL x :: rest) μ' | _ => False)
  | some (.object _) => (match r with | some (.inr (.inr (some q))) => k (vR q :: rest) μ' | _ => False)
  | some _ => (match r with | some (.inl x) => k (vI x :: rest) μ' | _ => False)
def xtsw (x : Int32) : Int → List Nat → (Nat → Prop) → Prop → Prop
  | _, [], _, d => d
  | lo, t :: l, k, d => (x = Int32.ofInt lo → k t) ∧ (¬ x = Int32.ofInt lo → xtsw x (lo + 1) l k d)
def xlsw (x : Int32) : List (Int × Int) → List Nat → (Nat → Prop) → Prop → Prop
  | [], _, _, d => d
  | (a, _) :: l, t :: ts, k, d => (x = Int32.ofInt a → k t) ∧ (¬ x = Int32.ofInt a → xlsw x l ts k d)
  | _ :: _, [], _, _ => False
def xif (c : Prop) (a b : Prop) : Prop := (c → a) ∧ (¬ c → b)
def xfld (q : xI) (ci k : Nat) (fi : Prop) (fr : xI → Prop) : Prop := match xobj q with
  | some (ci', fs) => (match Nat.beq ci' ci with
    | true => (match fs[k]? with
      | some none => fi
      | some (some r) => fr r
      | none => False)
    | false => False)
  | none => False
def xstep (cl : xC) (E : xE) (Q : xP) (e : xT) (r : List xT) (lv st : List xV) (μ : xM) (k : xK) : Prop :=
  match e.2.1 with
  | .aload_n _ => xgR lv (xt0 e.2.2.2.1) fun q => k r lv (vR q :: st) μ
  | .aload _ => xgR lv (xt0 e.2.2.2.1) fun q => k r lv (vR q :: st) μ
  | .iload_n _ => xgI lv (xt0 e.2.2.2.1) fun x => k r lv (vI x :: st) μ
  | .iload _ => xgI lv (xt0 e.2.2.2.1) fun x => k r lv (vI x :: st) μ
  | .lload_n _ => xgL lv (xt0 e.2.2.2.1) fun x => k r lv (vL x :: st) μ
  | .lload _ => xgL lv (xt0 e.2.2.2.1) fun x => k r lv (vL x :: st) μ
  | .istore_n _ => xpI st fun x s' => k r (xs1 lv (xt0 e.2.2.2.1) (vI x)) s' μ
  | .istore _ => xpI st fun x s' => k r (xs1 lv (xt0 e.2.2.2.1) (vI x)) s' μ
  | .lstore_n _ => xpL st fun x s' => k r (xs2 lv (xt0 e.2.2.2.1) (vL x)) s' μ
  | .lstore _ => xpL st fun x s' => k r (xs2 lv (xt0 e.2.2.2.1) (vL x)) s' μ
  | .astore_n _ => xpR st fun q s' => k r (xs1 lv (xt0 e.2.2.2.1) (vR q)) s' μ
  | .astore _ => xpR st fun q s' => k r (xs1 lv (xt0 e.2.2.2.1) (vR q)) s' μ
  | .iconst _ => xcI e.2.2.2.2 fun x => k r lv (vI x :: st) μ
  | .bipush _ => xcI e.2.2.2.2 fun x => k r lv (vI x :: st) μ
  | .sipush _ => xcI e.2.2.2.2 fun x => k r lv (vI x :: st) μ
  | .ldc _ => xcI e.2.2.2.2 fun x => k r lv (vI x :: st) μ
  | .ldc_w _ => xcI e.2.2.2.2 fun x => k r lv (vI x :: st) μ
  | .lconst _ => xcL e.2.2.2.2 fun x => k r lv (vL x :: st) μ
  | .ldc2_w _ => xcL e.2.2.2.2 fun x => k r lv (vL x :: st) μ
  | .aconst_null => k r lv (vN :: st) μ
  | .iadd => xpI st fun y s' => xpI s' fun x s' => k r lv (vI (x + y) :: s') μ
  | .isub => xpI st fun y s' => xpI s' fun x s' => k r lv (vI (x - y) :: s') μ
  | .imul => xpI st fun y s' => xpI s' fun x s' => k r lv (vI (x * y) :: s') μ
  | .iand => xpI st fun y s' => xpI s' fun x s' => k r lv (vI (x &&& y) :: s') μ
  | .ior => xpI st fun y s' => xpI s' fun x s' => k r lv (vI (x ||| y) :: s') μ
  | .ixor => xpI st fun y s' => xpI s' fun x s' => k r lv (vI (x ^^^ y) :: s') μ
  | .idiv => xpI st fun y s' => xpI s' fun x s' => ¬ y = 0 ∧ k r lv (vI (x / y) :: s') μ
  | .irem => xpI st fun y s' => xpI s' fun x s' => ¬ y = 0 ∧ k r lv (vI (x - x / y * y) :: s') μ
  | .ineg => xpI st fun x s' => k r lv (vI (-x) :: s') μ
  | .ishl => xpI st fun y s' => xpI s' fun x s' => k r lv (vI (x <<< (y &&& 31)) :: s') μ
  | .ishr => xpI st fun y s' => xpI s' fun x s' => k r lv (vI (x >>> (y &&& 31)) :: s') μ
  | .iushr => xpI st fun y s' => xpI s' fun x s' => k r lv (vI ((x.toUInt32 >>> (y.toUInt32 &&& Int32.toUInt32 31)).toInt32) :: s') μ
  | .i2c => xpI st fun x s' => k r lv (vI ((x.toUInt32 % 65536).toInt32) :: s') μ
  | .i2l => xpI st fun x s' => k r lv (vL x.toInt64 :: s') μ
  | .l2i => xpL st fun x s' => k r lv (vI x.toInt32 :: s') μ
  | .ladd => xpL st fun y s' => xpL s' fun x s' => k r lv (vL (x + y) :: s') μ
  | .lsub => xpL st fun y s' => xpL s' fun x s' => k r lv (vL (x - y) :: s') μ
  | .land => xpL st fun y s' => xpL s' fun x s' => k r lv (vL (x &&& y) :: s') μ
  | .lor => xpL st fun y s' => xpL s' fun x s' => k r lv (vL (x ||| y) :: s') μ
  | .lshl => xpI st fun y s' => xpL s' fun x s' => k r lv (vL (x <<< (y.toInt64 &&& 63)) :: s') μ
  | .lshr => xpI st fun y s' => xpL s' fun x s' => k r lv (vL (x >>> (y.toInt64 &&& 63)) :: s') μ
  | .lushr => xpI st fun y s' => xpL s' fun x s' => k r lv (vL ((x.toUInt64 >>> (y.toInt64.toUInt64 &&& Int64.toUInt64 63)).toInt64) :: s') μ
  | .lcmp => xpL st fun y s' => xpL s' fun x s' => k r lv (vI (lg_cmp x y) :: s') μ
  | .iinc _ _ => xcI e.2.2.2.2 fun n => xgI lv (xt0 e.2.2.2.1) fun x => k r (xs1 lv (xt0 e.2.2.2.1) (vI (x + n))) st μ
  | .dup => (match st with | .inl x :: s' => k r lv (vI x :: vI x :: s') μ | .inr (.inr (some q)) :: s' => k r lv (vR q :: vR q :: s') μ | _ => False)
  | .dup2 => xpI st fun x s' => xpR s' fun q s' => k r lv (vI x :: vR q :: vI x :: vR q :: s') μ
  | .pop => xpI st fun _ s' => k r lv s' μ
  | .ifCond .eq _ => xpI st fun x s' => xif (x = 0) (k (E.2.2.1.drop (xt0 e.2.2.2.1)) lv s' μ) (k r lv s' μ)
  | .ifCond .ne _ => xpI st fun x s' => xif (x = 0) (k r lv s' μ) (k (E.2.2.1.drop (xt0 e.2.2.2.1)) lv s' μ)
  | .ifCond .lt _ => xpI st fun x s' => xif (x < 0) (k (E.2.2.1.drop (xt0 e.2.2.2.1)) lv s' μ) (k r lv s' μ)
  | .ifCond .ge _ => xpI st fun x s' => xif (0 ≤ x) (k (E.2.2.1.drop (xt0 e.2.2.2.1)) lv s' μ) (k r lv s' μ)
  | .ifCond .gt _ => xpI st fun x s' => xif (0 < x) (k (E.2.2.1.drop (xt0 e.2.2.2.1)) lv s' μ) (k r lv s' μ)
  | .ifCond .le _ => xpI st fun x s' => xif (x ≤ 0) (k (E.2.2.1.drop (xt0 e.2.2.2.1)) lv s' μ) (k r lv s' μ)
  | .if_icmp .eq _ => xpI st fun y s' => xpI s' fun x s' => xif (x = y) (k (E.2.2.1.drop (xt0 e.2.2.2.1)) lv s' μ) (k r lv s' μ)
  | .if_icmp .ne _ => xpI st fun y s' => xpI s' fun x s' => xif (x = y) (k r lv s' μ) (k (E.2.2.1.drop (xt0 e.2.2.2.1)) lv s' μ)
  | .if_icmp .lt _ => xpI st fun y s' => xpI s' fun x s' => xif (x < y) (k (E.2.2.1.drop (xt0 e.2.2.2.1)) lv s' μ) (k r lv s' μ)
  | .if_icmp .ge _ => xpI st fun y s' => xpI s' fun x s' => xif (y ≤ x) (k (E.2.2.1.drop (xt0 e.2.2.2.1)) lv s' μ) (k r lv s' μ)
  | .if_icmp .gt _ => xpI st fun y s' => xpI s' fun x s' => xif (y < x) (k (E.2.2.1.drop (xt0 e.2.2.2.1)) lv s' μ) (k r lv s' μ)
  | .if_icmp .le _ => xpI st fun y s' => xpI s' fun x s' => xif (x ≤ y) (k (E.2.2.1.drop (xt0 e.2.2.2.1)) lv s' μ) (k r lv s' μ)
  | .ifnull _ => xpR st fun _ s' => k r lv s' μ
  | .goto _ => k (E.2.2.1.drop (xt0 e.2.2.2.1)) lv st μ
  | .tableswitch _ lo _ _ => xpI st fun x s' => (match e.2.2.2.1 with | d :: l => xtsw x lo l (fun t => k (E.2.2.1.drop t) lv s' μ) (k (E.2.2.1.drop d) lv s' μ) | [] => False)
  | .lookupswitch _ ps => xpI st fun x s' => (match e.2.2.2.1 with | d :: l => xlsw x ps.toList l (fun t => k (E.2.2.1.drop t) lv s' μ) (k (E.2.2.1.drop d) lv s' μ) | [] => False)
  | .getfield _ => xpR st fun q s' => xfld q (xt0 e.2.2.2.1) (xt1 e.2.2.2.1) (k r lv (vI (μ q (xt1 e.2.2.2.1)) :: s') μ) (fun p => k r lv (vR p :: s') μ)
  | .putfield _ => xpI st fun x s' => xpR s' fun q s' => xfld q (xt0 e.2.2.2.1) (xt1 e.2.2.2.1) (xpb e.2.2.2.2 x (k r lv s' (xst μ q (xt1 e.2.2.2.1) x))) (fun _ => False)
  | .arraylength => xpR st fun q s' => xal q fun n => k r lv (vI (Int32.ofNat n) :: s') μ
  | .iaload => xpI st fun i s' => xpR s' fun q s' => xax q 0 fun n => vp_in i n ∧ k r lv (vI (μ q i.toNatClampNeg) :: s') μ
  | .baload => xpI st fun i s' => xpR s' fun q s' => xax q 1 fun n => vp_in i n ∧ k r lv (vI (μ q i.toNatClampNeg) :: s') μ
  | .caload => xpI st fun i s' => xpR s' fun q s' => xax q 2 fun n => vp_in i n ∧ k r lv (vI (μ q i.toNatClampNeg) :: s') μ
  | .iastore => xpI st fun x s' => xpI s' fun i s' => xpR s' fun q s' => xax q 0 fun n => vp_in i n ∧ k r lv s' (xst μ q i.toNatClampNeg x)
  | .bastore => xpI st fun x s' => xpI s' fun i s' => xpR s' fun q s' => xax q 1 fun n => vp_in i n ∧ k r lv s' (xst μ q i.toNatClampNeg (vp_nar .boolean x))
  | .castore => xpI st fun x s' => xpI s' fun i s' => xpR s' fun q s' => xax q 2 fun n => vp_in i n ∧ k r lv s' (xst μ q i.toNatClampNeg (vp_nar .char x))
  | .aaload => xpI st fun i s' => xpR s' fun q s' => xrg q (vp_in i 5 ∧ k r lv (vR (4, 2 + i.toNatClampNeg, 0) :: s') μ)
  | .invokevirtual _ => xfind E.2.2.2.2.2.1 (xt0 e.2.2.2.1) fun D => xargs D.2.2.2.2 st [] fun As s' => xpR s' fun q s' => xro q (xt1 e.2.2.2.1) (xif8 s' (cl D (vR q :: As) μ (xret D.2.2.2.1 s' fun s'' μ' => k r lv s'' μ')))
  | .invokestatic _ => (match xt1 e.2.2.2.1 with
    | 0 => xfind E.2.2.2.2.2.2.1 (xt0 e.2.2.2.1) fun D => xargs D.2.2.2.2 st [] fun As s' => xif8 s' (cl D As μ (xret D.2.2.2.1 s' fun s'' μ' => k r lv s'' μ'))
    | 1 => xpI st fun y s' => xpI s' fun x s' => xif8 s' (k r lv (vI (if y < x then y else x) :: s') μ)
    | _ => xpI st fun n s' => xpI s' fun dp s' => xpR s' fun b s' => xpI s' fun sp s' => xpR s' fun a s' => xax a 0 fun n0 => xax b 0 fun n1 => xnil s' (¬ sp < 0 ∧ ¬ dp < 0 ∧ ¬ n < 0 ∧ sp.toNatClampNeg + n.toNatClampNeg ≤ n0 ∧ dp.toNatClampNeg + n.toNatClampNeg ≤ n1 ∧ k r lv [] (xcp μ a b sp.toNatClampNeg dp.toNatClampNeg n.toNatClampNeg)))
  | .ireturn => xpI st fun x s' => xnil s' (xri E.2.1.2.2.2.1 x (Q (some (vI x)) μ))
  | .lreturn => xpL st fun x s' => xnil s' (xrl E.2.1.2.2.2.1 (Q (some (vL x)) μ))
  | .areturn => xpQ st fun q s' => xnil s' (xra E.2.1.2.2.2.1 (Q (some (.inr (.inr q))) μ))
  | .return_ => xnil st (xrn E.2.1.2.2.2.1 (Q none μ))
  | _ => False
end
section
/-! THE SMALL MACHINE'S WORLD in the heap; contracts (MW) and places (WS) as conditions over it -/
/-- the tables' words that a call takes along -/
def xgw : List Cond := lw_tbl.filter goodWord
theorem xgood {w : Cond} (h : w ∈ xgw) : (w.onTables && w.keeps) = true ∨ ∃ ty, w = .arrayClass ty := good_of_word (List.mem_filter.mp h).2
theorem xok_bd {q : xI} (h : xok q = true) : q.1 < 13 ∧ q.2.1 < 8 ∧ q.2.2 < 29 := by
  obtain ⟨k, j, c⟩ := q
  simp only [xok] at h ⊢
  repeat' split at h
  all_goals simp at h
  all_goals omega
theorem xids_mem {q : xI} (h : xok q = true) : q ∈ xids := by
  obtain ⟨h1, h2, h3⟩ := xok_bd h
  obtain ⟨k, j, c⟩ := q
  simp only [xids, List.mem_filter, List.mem_flatMap, List.mem_map, List.mem_range]
  exact ⟨⟨k, h1, j, h2, c, h3, rfl⟩, h⟩
theorem xids_ok {q : xI} (h : q ∈ xids) : xok q = true := by
  simp only [xids, List.mem_filter] at h
  exact h.2
set_option maxRecDepth 100000 in
theorem xids_nd : xids.Nodup := by decide +kernel
theorem xids_inj {i j : Nat} {q : xI} (h1 : xids[i]? = some q) (h2 : xids[j]? = some q) : i = j := by
  have hi := (List.getElem?_eq_some_iff.mp h1).1
  exact (List.getElem?_inj hi xids_nd).mp (h1.trans h2.symm)
theorem xwld_get {ad : xI → Nat} {cA : Nat → ClassId} {q : xI} (μ : xM) (h : xok q = true) : ∃ n : Nat, xids[n]? = some q ∧ (xwld ad cA μ)[n]? = some (ad q, xcell ad cA μ q) := by
  obtain ⟨n, hn⟩ := List.getElem?_of_mem (xids_mem h)
  exact ⟨n, hn, by rw [xwld, List.getElem?_map, hn]; rfl⟩
theorem xcell_cg {ad : xI → Nat} {cA : Nat → ClassId} {μ μ' : xM} {q : xI} (h : μ q = μ' q) : xcell ad cA μ q = xcell ad cA μ' q := by
  unfold xcell
  rw [h]
theorem xwld_set {ad : xI → Nat} {cA : Nat → ClassId} {μ μ' : xM} {n : Nat} {q : xI} (hn : xids[n]? = some q) (h : ∀ p, p ≠ q → μ p = μ' p) : (xwld ad cA μ).set n (ad q, xcell ad cA μ' q) = xwld ad cA μ' := by
  have hl := (List.getElem?_eq_some_iff.mp hn).1
  apply List.ext_getElem?
  intro i
  by_cases hi : i = n
  · subst hi
    rw [List.getElem?_set_self (by simpa [xwld] using hl), xwld, List.getElem?_map, hn]
    rfl
  · rw [List.getElem?_set_ne (Ne.symm hi), xwld, xwld, List.getElem?_map, List.getElem?_map]
    cases hp : xids[i]? with
    | none => rfl
    | some p =>
      have hne : p ≠ q := fun e => hi (xids_inj hp (by rw [e]; exact hn))
      simp only [Option.map_some, xcell_cg (h p hne)]
abbrev xG : Type := Launch × (xI → Nat) × va_G × (Nat → ClassId)
abbrev xZ : Type := Program × Env × State × MethodId × Array Value × List Frame × Method × Code
def xws (D : xD) : List Cond := Cond.code D.1 D.2.1 D.2.2.1 D.2.2.2.1 :: xgw
def xrm (d : Nat) : Room := { frames := d, cells := 0, slots := 0, locals := 40 * d }
def xGok (G : xG) : Prop := ∀ p q, xok p = true → xok q = true → G.2.1 p = G.2.1 q → p = q
def xB (G : xG) (μ : xM) (U : State) : Prop := va_P G.2.2.1 vwCl (xwld G.2.1 G.2.2.2 μ) U.heap ∧ va_K G.2.2.1 vwCl (xtys G.2.2.2) U
def xQc (G : xG) (Q : xP) : Array Value → State → Outcome → State → Prop := fun _ st oc t => (∃ (r : Option xV) (μ' : xM), Q r μ' ∧ oc = .returned (r.map (xrv G.2.1)) ∧ (∀ v, r = some v → xvok v) ∧ xB G μ' t) ∧ va_F (xA G.2.1) st t
/-- the contract of a method at a memory: it returns, Q of what it returns and of the memory then -/
def MW (G : xG) (d : Nat) (D : xD) (args : List xV) (μ : xM) (Q : xP) : Prop :=
  xGok G → (∀ v ∈ args, xvok v) → Met G.1 D.1 (xws D) (xrm d) (va_Pc (args.map (xrv G.2.1)) (xB G μ)) (xQc G Q) 0 0 (xA G.2.1)
def xLv (ad : xI → Nat) (ls : Array Slot) (n : Nat) (lv : List xV) : Prop := ls.size = n ∧ lv_wf ls ∧ ∀ i, xnth lv i ≠ vN → ls[i]? = some (.val (xrv ad (xnth lv i)))
def xoks : List xV → Prop
  | [] => True
  | v :: l => xvok v ∧ xoks l
def xlok (lv : List xV) : Prop := ∀ i, xvok (xnth lv i)
def xcn : Nat → String
  | 0 => RX0 | 1 => RX1 | 2 => RX2 | 3 => RX3 | 4 => RX4 | 5 => RX5 | 6 => RX6 | 7 => RX7 | 8 => RX8 | 9 => RX9 | 10 => RJ6 | _ => RJ13
def xCx (G : xG) (E : xE) (p : Program) (s : State) (m : MethodId) (args : Array Value) (meth : Method) (c : Code) : Prop :=
  p.tables.exec = Jvm.exec ∧ c.code = E.2.1.2.1 ∧ meth.sig.returnType = E.2.1.2.2.2.1 ∧ c.maxLocals = E.2.1.2.2.1 ∧ s.vm.findClass (xcn E.1) = some m.cls ∧ (∀ w ∈ xws E.2.1, w.before args s = true) ∧ va_K G.2.2.1 vwCl (xtys G.2.2.2) s ∧ meth.locks = false
/-- at a place of a method: it will return, with Q -/
def WS (G : xG) (E : xE) (d : Nat) (Z : xZ) (Q : xP) (pc : Nat) (lv st : List xV) (μ : xM) : Prop :=
  match Z with
  | (p, e, s, m, args, below, meth, c) => xGok G → xCx G E p s m args meth c → ∀ (H : Heap) (locs : List Loc) (ls : Array Slot), va_P G.2.2.1 vwCl (xwld G.2.1 G.2.2.2 μ) H → va_S (xA G.2.1) s.heap H locs → xLv G.2.1 ls E.2.1.2.2.1 lv → xlok lv → xoks st →
    W p G.1 e (xrm d) s m args below meth c H locs 0 0 (MQ below (xQc G Q) args s 0 0 (xA G.2.1)) (F0 m pc ls (st.map (xrv G.2.1)))
theorem xD_wld {G : xG} (hG : xGok G) (μ : xM) : va_D (xA G.2.1) (xwld G.2.1 G.2.2.2 μ) := by
  have key : ∀ (i : Nat) (p : Nat × va_E), (xwld G.2.1 G.2.2.2 μ)[i]? = some p → ∃ q, xids[i]? = some q ∧ G.2.1 q = p.1 := by
    intro i p hp
    rw [xwld, List.getElem?_map] at hp
    cases hq : xids[i]? with
    | none => rw [hq] at hp; cases hp
    | some q => rw [hq] at hp; cases hp; exact ⟨q, rfl, rfl⟩
  refine ⟨fun i j p q hp hq hpq => ?_, fun k q hq => ?_⟩
  · obtain ⟨a, ha, ea⟩ := key i p hp
    obtain ⟨b, hb, eb⟩ := key j q hq
    have hab := hG a b (xids_ok (List.mem_of_getElem? ha)) (xids_ok (List.mem_of_getElem? hb)) (by rw [ea, eb, hpq])
    subst hab
    exact xids_inj ha hb
  · obtain ⟨a, ha, ea⟩ := key k q hq
    exact ⟨a, xids_ok (List.mem_of_getElem? ha), ea⟩
-- locals
theorem xnth_set (l : List xV) (i j : Nat) (v : xV) : xnth (xset l i v) j = if j = i ∧ i < l.length then v else xnth l j := by
  induction l generalizing i j with
  | nil => cases i <;> simp [xset, xnth]
  | cons a l ih =>
    cases i with
    | zero => cases j <;> simp [xset, xnth]
    | succ i =>
      cases j with
      | zero => simp [xset, xnth]
      | succ j => simp [xset, xnth, ih]
theorem xlok_set {l : List xV} (h : xlok l) (i : Nat) {v : xV} (hv : xvok v) : xlok (xset l i v) := by
  intro j
  rw [xnth_set]
  split
  · exact hv
  · exact h j
theorem xclr_s (lv : List xV) (i : Nat) : xclr lv (i + 1) = match xnth lv i with
    | .inr (.inl _) => xset lv i vN
    | _ => lv := rfl
theorem xlok_clr {l : List xV} (h : xlok l) (i : Nat) : xlok (xclr l i) := by
  cases i with
  | zero => exact h
  | succ i =>
    rw [xclr_s]
    split
    · exact xlok_set h i (v := vN) trivial
    · exact h
theorem xnth_clr (l : List xV) (i j : Nat) : xnth (xclr l i) j = vN ∨ (xnth (xclr l i) j = xnth l j ∧ ∀ x, ¬ (j + 1 = i ∧ xnth l j = vL x)) := by
  cases i with
  | zero => exact Or.inr ⟨rfl, fun x h => by omega⟩
  | succ i =>
    rw [xclr_s]
    split
    · rename_i x hx
      rw [xnth_set]
      by_cases hj : j = i
      · subst hj
        split
        · exact Or.inl rfl
        · rename_i hn
          rw [show xnth l j = vN from by
            have : l.length ≤ j := by
              rcases Nat.lt_or_ge j l.length with q | q
              · exact absurd ⟨rfl, q⟩ hn
              · exact q
            clear hn hx
            induction l generalizing j with
            | nil => rfl
            | cons a l ih => cases j with
              | zero => simp at this
              | succ j => exact ih j (by simpa using this)] at hx
          cases hx
      · right
        rw [if_neg (fun h => hj h.1)]
        exact ⟨rfl, fun x h => hj (by omega)⟩
    · rename_i hx
      right
      refine ⟨rfl, fun x h => ?_⟩
      obtain ⟨h1, h2⟩ := h
      have : j = i := by omega
      subst this
      exact hx x h2
theorem xrv_cat2 {ad : xI → Nat} {v : xV} (h : (xrv ad v).category = 2) : ∃ x, v = vL x := by
  rcases v with x | x | _ | q
  · exact absurd h (by simp [xrv, Value.category])
  · exact ⟨x, rfl⟩
  · exact absurd h (by simp [xrv, Value.category])
  · exact absurd h (by simp [xrv, Value.category])
theorem xLv_s1 {ad : xI → Nat} {ls ls' : Array Slot} {n i : Nat} {lv : List xV} {v : xV} {V : Value} (h : xLv ad ls n lv) (hi : i < n) (hV : xrv ad v = V) (hc : V.category = 1) (hst : storeLocals ls i V = some ls') : xLv ad ls' n (xs1 lv i v) := by
  obtain ⟨h1, h2, h3⟩ := h
  have base : ∀ l : List (Nat × Value), (∀ q ∈ l, ls[q.1]? = some (.val q.2)) → lv_has ls' n ((i, V) :: l.filter (fun q => !(q.1 == i) && !(q.1 + 1 == i && q.2.category == 2))) := by
    intro l hl
    obtain ⟨ls2, e1, e2⟩ := lv_store1 (ls := ls) (nL := n) (l := l) ⟨h1, h2, hl⟩ hi hc
    rw [hst] at e1
    cases e1
    exact e2
  obtain ⟨b1, b2, b3⟩ := base [] (by simp)
  refine ⟨b1, b2, fun j hj => ?_⟩
  unfold xs1 at hj ⊢
  rw [xnth_set] at hj ⊢
  by_cases hji : j = i
  · subst hji
    by_cases hlt : j < (xclr lv j).length
    · rw [if_pos ⟨rfl, hlt⟩, hV]
      exact b3 (j, V) (by simp)
    · rw [if_neg (fun q => hlt q.2)] at hj
      exfalso
      apply hj
      generalize xclr lv j = l at hlt
      clear hj h3 hV hi hst base b3
      induction l generalizing j with
      | nil => rfl
      | cons a l ih => cases j with
        | zero => simp at hlt
        | succ j => exact ih j (by simpa using hlt)
  · rw [if_neg (fun q => hji q.1)] at hj ⊢
    rcases xnth_clr lv i j with e | ⟨e, hx⟩
    · exact absurd e hj
    · rw [e] at hj ⊢
      obtain ⟨-, -, c3⟩ := base [(j, xrv ad (xnth lv j))] (by simpa using h3 j hj)
      apply c3 (j, xrv ad (xnth lv j))
      simp only [List.mem_cons, List.mem_filter, List.not_mem_nil, or_false]
      right
      refine ⟨trivial, ?_⟩
      simp only [Bool.and_eq_true, Bool.not_eq_true', beq_eq_false_iff_ne, ne_eq, Bool.and_eq_false_iff]
      refine ⟨hji, ?_⟩
      by_cases h9 : j + 1 = i
      · right
        intro hcat
        obtain ⟨x, ex⟩ := xrv_cat2 hcat
        exact hx x ⟨h9, ex⟩
      · exact Or.inl h9
theorem xLv_s2 {ad : xI → Nat} {ls ls' : Array Slot} {n i : Nat} {lv : List xV} {v : xV} {V : Value} (h : xLv ad ls n lv) (hi : i + 1 < n) (hV : xrv ad v = V) (hc : V.category = 2) (hst : storeLocals ls i V = some ls') : xLv ad ls' n (xs2 lv i v) := by
  obtain ⟨h1, h2, h3⟩ := h
  have base : ∀ l : List (Nat × Value), (∀ q ∈ l, ls[q.1]? = some (.val q.2)) → lv_has ls' n ((i, V) :: l.filter (fun q => !(q.1 == i) && (!(q.1 == i + 1) && !(q.1 + 1 == i && q.2.category == 2)))) := by
    intro l hl
    obtain ⟨ls2, e1, e2⟩ := lv_store2 (ls := ls) (nL := n) (l := l) ⟨h1, h2, hl⟩ hi hc
    rw [hst] at e1
    cases e1
    exact e2
  obtain ⟨b1, b2, b3⟩ := base [] (by simp)
  have past : ∀ (l : List xV) (j : Nat), ¬ j < l.length → xnth l j = vN := by
    intro l
    induction l with
    | nil => intro j _; rfl
    | cons a l ih => intro j hj; cases j with
      | zero => simp at hj
      | succ j => exact ih j (by simpa using hj)
  refine ⟨b1, b2, fun j hj => ?_⟩
  unfold xs2 at hj ⊢
  rw [xnth_set] at hj ⊢
  by_cases hji : j = i
  · subst hji
    by_cases hlt : j < (xset (xclr lv j) (j + 1) vN).length
    · rw [if_pos ⟨rfl, hlt⟩, hV]
      exact b3 (j, V) (by simp)
    · rw [if_neg (fun q => hlt q.2)] at hj
      exact absurd (past _ j hlt) hj
  · rw [if_neg (fun q => hji q.1)] at hj ⊢
    rw [xnth_set] at hj ⊢
    by_cases hj1 : j = i + 1
    · subst hj1
      by_cases hlt : i + 1 < (xclr lv i).length
      · rw [if_pos ⟨rfl, hlt⟩] at hj
        exact absurd rfl hj
      · rw [if_neg (fun q => hlt q.2)] at hj
        exact absurd (past _ _ hlt) hj
    · rw [if_neg (fun q => hj1 q.1)] at hj ⊢
      rcases xnth_clr lv i j with e | ⟨e, hx⟩
      · exact absurd e hj
      · rw [e] at hj ⊢
        obtain ⟨-, -, c3⟩ := base [(j, xrv ad (xnth lv j))] (by simpa using h3 j hj)
        apply c3 (j, xrv ad (xnth lv j))
        simp only [List.mem_cons, List.mem_filter, List.not_mem_nil, or_false]
        right
        refine ⟨trivial, ?_⟩
        simp only [Bool.and_eq_true, Bool.not_eq_true', beq_eq_false_iff_ne, ne_eq, Bool.and_eq_false_iff]
        refine ⟨hji, hj1, ?_⟩
        by_cases h9 : j + 1 = i
        · right
          intro hcat
          obtain ⟨x, ex⟩ := xrv_cat2 hcat
          exact hx x ⟨h9, ex⟩
        · exact Or.inl h9
theorem xLv_mask {ad : xI → Nat} {ls : Array Slot} {n : Nat} {lv : List xV} (b : List Bool) (h : xLv ad ls n lv) : xLv ad ls n (xmask b lv) := by
  refine ⟨h.1, h.2.1, fun i hi => ?_⟩
  have key : ∀ (b : List Bool) (l : List xV) (i : Nat), xnth (xmask b l) i ≠ vN → xnth (xmask b l) i = xnth l i := by
    intro b
    induction b with
    | nil => intro l i h; exact absurd (by unfold xmask; rfl) h
    | cons a b ih =>
      intro l i h
      cases l with
      | nil => cases a <;> exact absurd rfl h
      | cons v l =>
        cases a with
        | true => cases i with
          | zero => rfl
          | succ i => exact ih l i h
        | false => cases i with
          | zero => exact absurd rfl h
          | succ i => exact ih l i h
  have e := key b lv i hi
  rw [e]
  exact h.2.2 i (fun z => hi (e.trans z))
theorem xlok_mask {lv : List xV} (b : List Bool) (h : xlok lv) : xlok (xmask b lv) := by
  intro i
  have key : ∀ (b : List Bool) (l : List xV) (i : Nat), xnth (xmask b l) i = vN ∨ xnth (xmask b l) i = xnth l i := by
    intro b
    induction b with
    | nil => intro l i; exact Or.inl (by unfold xmask; rfl)
    | cons a b ih =>
      intro l i
      cases l with
      | nil => cases a <;> exact Or.inl rfl
      | cons v l =>
        cases a with
        | true => cases i with
          | zero => exact Or.inr rfl
          | succ i => exact ih l i
        | false => cases i with
          | zero => exact Or.inl rfl
          | succ i => exact ih l i
  rcases key b lv i with e | e
  · rw [e]; exact trivial
  · rw [e]; exact h i
-- shapes
theorem xfs_int {ad : xI → Nat} {f : Nat → Int32} : ∀ (fs : List (Option xI)) (b k : Nat), fs[k]? = some none → (xfs ad f b fs)[k]? = some (.int (f (b + k)))
  | [], b, k, h => by simp at h
  | none :: l, b, 0, h => rfl
  | some r :: l, b, 0, h => by simp at h
  | none :: l, b, k + 1, h => by
    rw [show b + (k + 1) = (b + 1) + k by omega]
    exact xfs_int l (b + 1) k (by simpa using h)
  | some r :: l, b, k + 1, h => by
    rw [show b + (k + 1) = (b + 1) + k by omega]
    exact xfs_int l (b + 1) k (by simpa using h)
theorem xfs_ref {ad : xI → Nat} {f : Nat → Int32} {r : xI} : ∀ (fs : List (Option xI)) (b k : Nat), fs[k]? = some (some r) → (xfs ad f b fs)[k]? = some (.ref (ad r))
  | [], b, k, h => by simp at h
  | none :: l, b, 0, h => by simp at h
  | some r' :: l, b, 0, h => by
    have : r' = r := by simpa using h
    subst this
    rfl
  | none :: l, b, k + 1, h => xfs_ref l (b + 1) k (by simpa using h)
  | some r :: l, b, k + 1, h => xfs_ref l (b + 1) k (by simpa using h)
theorem xfs_set {ad : xI → Nat} {f : Nat → Int32} {v : Int32} : ∀ (fs : List (Option xI)) (b k : Nat), fs[k]? = some none → (xfs ad f b fs).set k (.int v) = xfs ad (upd f (b + k) v) b fs
  | [], b, k, h => by simp at h
  | none :: l, b, 0, h => by
    have : ∀ (l : List (Option xI)) (c : Nat), b < c → xfs ad f c l = xfs ad (upd f b v) c l := by
      intro l
      induction l with
      | nil => intro c _; rfl
      | cons a l ih => intro c hc; cases a with
        | none => show _ :: _ = _ :: _; rw [ih (c + 1) (by omega), pk_un (show c ≠ b by omega)]
        | some r => show _ :: _ = _ :: _; rw [ih (c + 1) (by omega)]
    show _ :: _ = _ :: _
    simp only [Nat.add_zero]
    rw [this l (b + 1) (by omega), pk_us]
  | some r :: l, b, 0, h => by simp at h
  | none :: l, b, k + 1, h => by
    rw [show b + (k + 1) = (b + 1) + k by omega]
    show _ :: _ = _ :: _
    rw [xfs_set l (b + 1) k (by simpa using h), pk_un (show b ≠ b + 1 + k by omega)]
  | some r :: l, b, k + 1, h => by
    rw [show b + (k + 1) = (b + 1) + k by omega]
    show _ :: _ = _ :: _
    rw [xfs_set l (b + 1) k (by simpa using h)]
theorem xfs_len {ad : xI → Nat} {f : Nat → Int32} : ∀ (fs : List (Option xI)) (b : Nat), (xfs ad f b fs).length = fs.length
  | [], b => rfl
  | none :: l, b => by simp [xfs, xfs_len l]
  | some r :: l, b => by simp [xfs, xfs_len l]
theorem xobj_ok {q r : xI} {ci : Nat} {fs : List (Option xI)} (h : xok q = true) (hq : xobj q = some (ci, fs)) (hr : some r ∈ fs) : xok r = true := by
  obtain ⟨k, j, c⟩ := q
  unfold xobj at hq
  split at hq <;> cases hq <;> rename_i heq <;> cases heq <;> simp at hr
  all_goals repeat' (refine Or.elim hr ?_ ?_ <;> clear hr <;> intro hr)
  all_goals (subst hr; simp [xok] at h ⊢; try omega)
end
section
/-! THE SMALL MACHINE IS SOUND: a step of it is a step of the machine-/
def xin (w : Cond) : Prop := w ∈ lw_tbl ∧ goodWord w = true
theorem xin_gw {w : Cond} (h : xin w) : w ∈ xgw := List.mem_filter.mpr h
def xfF (o : Nat) (f : Nat × Nat × Nat × Nat) : Prop := ∃ (C : String) (T : u_T) (N : Nat), vwCl[f.2.1]? = some (C, T, N) ∧ f.2.2.1 < N ∧ xin (Cond.fieldLink (xcn o) f.1 (T f.2.2.1).1 (T f.2.2.1).2.1 (T f.2.2.1).2.2.1) ∧ (f.2.2.2 = 1 → (T f.2.2.1).2.2.2 = false ∧ (T f.2.2.1).2.2.1 = "I") ∧ (f.2.2.2 = 2 → (T f.2.2.1).2.2.2 = false ∧ (T f.2.2.1).2.2.1 = "Z")
def xmF (o : Nat) (idx : Nat) (D : xD) : Prop := xin (Cond.methodLink (xcn o) idx D.1) ∧ xin (Cond.code D.1 D.2.1 D.2.2.1 D.2.2.2.1) ∧ xin (Cond.initialized D.1.cls) ∧ D.1.cls ≠ "java/lang/invoke/MethodHandle" ∧ D.1.cls ≠ "java/lang/invoke/VarHandle" ∧ (parseMethodDescriptor D.1.desc).map (fun d => d.parameters.length) = some D.2.2.2.2 ∧ D.2.2.1 ≤ 21
def xvF (o : Nat) (q : Nat × Nat × xD) : Prop := (∃ (T : u_T) (N : Nat), vwCl[q.2.1]? = some (q.2.2.1.cls, T, N)) ∧ xmF o q.1 q.2.2 ∧ xin (Cond.instanceMethod q.2.2.1) ∧ xin (Cond.selects q.2.2.1.cls q.2.2.1 q.2.2.1)
def xsF (o : Nat) (q : Nat × Nat × xD) : Prop := xmF o q.1 q.2.2 ∧ xin (Cond.static q.2.2.1)
def xkF (o : Nat) (q : Nat × xV) : Prop := match q.2 with
  | .inl v => xin (Cond.constant (xcn o) q.1 v)
  | .inr (.inl v) => xin (Cond.constantLong (xcn o) q.1 v)
  | _ => False
def xnF (o : Nat) (q : Nat × Nat) : Prop := (q.2 = 1 → xin (Cond.methodLink (xcn o) q.1 Lib.Math.min.name) ∧ xin (Cond.static Lib.Math.min.name) ∧ xin (Cond.initialized "java/lang/Math") ∧ xin (Cond.code Lib.Math.min.name Lib.Math.min.code 2 (some .int))) ∧ (q.2 = 2 → xin (Cond.methodLink (xcn o) q.1 arraycopyName) ∧ xin (Cond.native arraycopyName) ∧ xin (Cond.static arraycopyName) ∧ xin (Cond.initialized "java/lang/System"))
def xCEok (o : Nat) (ce : xCE) : Prop := (∀ f ∈ ce.1, xfF o f) ∧ (∀ q ∈ ce.2.1, xvF o q) ∧ (∀ q ∈ ce.2.2.1, xsF o q) ∧ (∀ q ∈ ce.2.2.2.1, xkF o q) ∧ (∀ q ∈ ce.2.2.2.2, xnF o q)
def xtgt (tb : List xT) (pc : Nat) (off : Int) (t : Nat) : Bool := match tb.drop t with
  | e :: _ => decide ((pc : Int) + off = (e.1 : Int))
  | [] => false
theorem xtgt_ok {tb : List xT} {pc : Nat} {off : Int} {t : Nat} (h : xtgt tb pc off t = true) : ∃ e r, tb.drop t = e :: r ∧ (pc : Int) + off = (e.1 : Int) := by
  unfold xtgt at h
  split at h
  · rename_i e r he
    exact ⟨e, r, he, of_decide_eq_true h⟩
  · cases h
def xtgts (tb : List xT) (pc : Nat) : List Int → List Nat → Bool
  | [], [] => true
  | o :: os, t :: ts => xtgt tb pc o t && xtgts tb pc os ts
  | _, _ => false
def xkeys : List (Int × Int) → Bool
  | [] => true
  | (a, _) :: l => decide (-2147483648 ≤ a ∧ a ≤ 2147483647) && xkeys l
def xcI1 (c : xV) (x : Int32) : Bool := match c with | .inl v => decide (x = v) | _ => false
def xcL1 (c : xV) (x : Int64) : Bool := match c with | .inr (.inl v) => decide (x = v) | _ => false
def xisI (c : xV) : Bool := match c with | .inl _ => true | _ => false
def xme (l : List (Nat × Nat × xD)) (t : Nat) (idx ci : Nat) : Bool := match l.drop t with
  | q :: _ => decide (q.1 = idx) && decide (q.2.1 = ci)
  | [] => false
def xme0 (l : List (Nat × Nat × xD)) (t : Nat) (idx : Nat) : Bool := match l.drop t with
  | q :: _ => decide (q.1 = idx)
  | [] => false
def xchk (E : xE) (e : xT) : Bool :=
  match e.2.1 with
  | .aload_n n => decide (e.2.2.1 = 1 ∧ n.val = (xt0 e.2.2.2.1))
  | .iload_n n => decide (e.2.2.1 = 1 ∧ n.val = (xt0 e.2.2.2.1))
  | .lload_n n => decide (e.2.2.1 = 1 ∧ n.val = (xt0 e.2.2.2.1))
  | .aload n => decide (e.2.2.1 = 2 ∧ n = (xt0 e.2.2.2.1))
  | .iload n => decide (e.2.2.1 = 2 ∧ n = (xt0 e.2.2.2.1))
  | .lload n => decide (e.2.2.1 = 2 ∧ n = (xt0 e.2.2.2.1))
  | .istore_n n => decide (e.2.2.1 = 1 ∧ n.val = (xt0 e.2.2.2.1) ∧ (xt0 e.2.2.2.1) < E.2.1.2.2.1)
  | .astore_n n => decide (e.2.2.1 = 1 ∧ n.val = (xt0 e.2.2.2.1) ∧ (xt0 e.2.2.2.1) < E.2.1.2.2.1)
  | .istore n => decide (e.2.2.1 = 2 ∧ n = (xt0 e.2.2.2.1) ∧ (xt0 e.2.2.2.1) < E.2.1.2.2.1)
  | .astore n => decide (e.2.2.1 = 2 ∧ n = (xt0 e.2.2.2.1) ∧ (xt0 e.2.2.2.1) < E.2.1.2.2.1)
  | .lstore_n n => decide (e.2.2.1 = 1 ∧ n.val = (xt0 e.2.2.2.1) ∧ (xt0 e.2.2.2.1) + 1 < E.2.1.2.2.1)
  | .lstore n => decide (e.2.2.1 = 2 ∧ n = (xt0 e.2.2.2.1) ∧ (xt0 e.2.2.2.1) + 1 < E.2.1.2.2.1)
  | .iconst n => decide (e.2.2.1 = 1) && xcI1 e.2.2.2.2 (Int32.ofInt n)
  | .bipush n => decide (e.2.2.1 = 2) && xcI1 e.2.2.2.2 (Int8.ofInt n).toInt32
  | .sipush n => decide (e.2.2.1 = 3) && xcI1 e.2.2.2.2 (Int16.ofInt n).toInt32
  | .lconst n => decide (e.2.2.1 = 1) && xcL1 e.2.2.2.2 (Int64.ofNat n.val)
  | .ldc i => decide (e.2.2.1 = 2) && E.2.2.2.2.2.2.2.1.any (fun q => decide (q = (i, e.2.2.2.2)))
  | .ldc_w i => decide (e.2.2.1 = 3) && E.2.2.2.2.2.2.2.1.any (fun q => decide (q = (i, e.2.2.2.2)))
  | .ldc2_w i => decide (e.2.2.1 = 3) && E.2.2.2.2.2.2.2.1.any (fun q => decide (q = (i, e.2.2.2.2)))
  | .aconst_null => decide (e.2.2.1 = 1)
  | .iadd => decide (e.2.2.1 = 1)
  | .isub => decide (e.2.2.1 = 1)
  | .imul => decide (e.2.2.1 = 1)
  | .iand => decide (e.2.2.1 = 1)
  | .ior => decide (e.2.2.1 = 1)
  | .ixor => decide (e.2.2.1 = 1)
  | .idiv => decide (e.2.2.1 = 1)
  | .irem => decide (e.2.2.1 = 1)
  | .ineg => decide (e.2.2.1 = 1)
  | .ishl => decide (e.2.2.1 = 1)
  | .ishr => decide (e.2.2.1 = 1)
  | .iushr => decide (e.2.2.1 = 1)
  | .i2c => decide (e.2.2.1 = 1)
  | .i2l => decide (e.2.2.1 = 1)
  | .l2i => decide (e.2.2.1 = 1)
  | .ladd => decide (e.2.2.1 = 1)
  | .lsub => decide (e.2.2.1 = 1)
  | .land => decide (e.2.2.1 = 1)
  | .lor => decide (e.2.2.1 = 1)
  | .lshl => decide (e.2.2.1 = 1)
  | .lshr => decide (e.2.2.1 = 1)
  | .lushr => decide (e.2.2.1 = 1)
  | .lcmp => decide (e.2.2.1 = 1)
  | .dup => decide (e.2.2.1 = 1)
  | .dup2 => decide (e.2.2.1 = 1)
  | .pop => decide (e.2.2.1 = 1)
  | .arraylength => decide (e.2.2.1 = 1)
  | .iaload => decide (e.2.2.1 = 1)
  | .baload => decide (e.2.2.1 = 1)
  | .caload => decide (e.2.2.1 = 1)
  | .iastore => decide (e.2.2.1 = 1)
  | .bastore => decide (e.2.2.1 = 1)
  | .castore => decide (e.2.2.1 = 1)
  | .aaload => decide (e.2.2.1 = 1)
  | .ireturn => decide (e.2.2.1 = 1)
  | .lreturn => decide (e.2.2.1 = 1)
  | .areturn => decide (e.2.2.1 = 1)
  | .return_ => decide (e.2.2.1 = 1)
  | .iinc i n => decide (e.2.2.1 = 3 ∧ i = (xt0 e.2.2.2.1) ∧ (xt0 e.2.2.2.1) < E.2.1.2.2.1) && xcI1 e.2.2.2.2 (Int32.ofInt n)
  | .ifCond _ o => decide (e.2.2.1 = 3) && xtgt E.2.2.1 e.1 o (xt0 e.2.2.2.1)
  | .if_icmp _ o => decide (e.2.2.1 = 3) && xtgt E.2.2.1 e.1 o (xt0 e.2.2.2.1)
  | .ifnull _ => decide (e.2.2.1 = 3)
  | .goto o => decide (e.2.2.1 = 3) && xtgt E.2.2.1 e.1 o (xt0 e.2.2.2.1)
  | .tableswitch d lo hi offs => (match e.2.2.2.1 with | t :: ts => xtgt E.2.2.1 e.1 d t && xtgts E.2.2.1 e.1 offs.toList ts && decide (hi - lo + 1 = (offs.size : Int) ∧ -2147483648 ≤ lo ∧ hi ≤ 2147483647) | [] => false)
  | .lookupswitch d ps => (match e.2.2.2.1 with | t :: ts => xtgt E.2.2.1 e.1 d t && xtgts E.2.2.1 e.1 (ps.toList.map (·.2)) ts && xkeys ps.toList && (ps.toList.zip (ps.toList.drop 1)).all (fun (a, next) => a.1 < next.1) | [] => false)
  | .getfield i => decide (e.2.2.1 = 3) && E.2.2.2.2.1.any (fun f => decide (f.1 = i ∧ f.2.1 = (xt0 e.2.2.2.1) ∧ f.2.2.1 = xt1 e.2.2.2.1))
  | .putfield i => decide (e.2.2.1 = 3) && E.2.2.2.2.1.any (fun f => decide (f.1 = i ∧ f.2.1 = (xt0 e.2.2.2.1) ∧ f.2.2.1 = xt1 e.2.2.2.1 ∧ f.2.2.2 = (if xisI e.2.2.2.2 = true then 2 else 1)))
  | .invokevirtual i => decide (e.2.2.1 = 3) && xme E.2.2.2.2.2.1 (xt0 e.2.2.2.1) i (xt1 e.2.2.2.1)
  | .invokestatic i => decide (e.2.2.1 = 3) && (match xt1 e.2.2.2.1 with | 0 => xme0 E.2.2.2.2.2.2.1 (xt0 e.2.2.2.1) i | 1 => E.2.2.2.2.2.2.2.2.any (fun q => decide (q = (i, 1))) | _ => E.2.2.2.2.2.2.2.2.any (fun q => decide (q = (i, 2))))
  | _ => false
def xcont : List xT → Bool
  | [] => true
  | e :: l => (match l with
    | [] => true
    | e' :: _ => decide (e'.1 = e.1 + e.2.2.1)) && xcont l
def xEok (E : xE) : Prop := (∀ e ∈ E.2.2.1, decode E.2.1.2.1 e.1 = .ok (e.2.1, e.2.2.1)) ∧ E.2.2.1.all (xchk E) = true ∧ xcont E.2.2.1 = true ∧ xCEok E.1 E.2.2.2.2 ∧ E.2.1.1.cls = xcn E.1 ∧ plainName E.2.1.1.cls = true
-- what the conditions of a step say
theorem xpI_ex {st : List xV} {f : Int32 → List xV → Prop} (h : xpI st f) : ∃ x r, st = vI x :: r ∧ f x r := by
  rcases st with _ | ⟨x | x | _ | q, r⟩ <;> first | exact h.elim | exact ⟨_, _, rfl, h⟩
theorem xpL_ex {st : List xV} {f : Int64 → List xV → Prop} (h : xpL st f) : ∃ x r, st = vL x :: r ∧ f x r := by
  rcases st with _ | ⟨x | x | _ | q, r⟩ <;> first | exact h.elim | exact ⟨_, _, rfl, h⟩
theorem xpR_ex {st : List xV} {f : xI → List xV → Prop} (h : xpR st f) : ∃ q r, st = vR q :: r ∧ f q r := by
  rcases st with _ | ⟨x | x | _ | q, r⟩ <;> first | exact h.elim | exact ⟨_, _, rfl, h⟩
theorem xgI_ex {lv : List xV} {i : Nat} {f : Int32 → Prop} (h : xgI lv i f) : ∃ x, xnth lv i = vI x ∧ f x := by
  revert h
  unfold xgI
  rcases xnth lv i with x | x | _ | q <;> intro h <;> first | exact h.elim | exact ⟨_, rfl, h⟩
theorem xgL_ex {lv : List xV} {i : Nat} {f : Int64 → Prop} (h : xgL lv i f) : ∃ x, xnth lv i = vL x ∧ f x := by
  revert h
  unfold xgL
  rcases xnth lv i with x | x | _ | q <;> intro h <;> first | exact h.elim | exact ⟨_, rfl, h⟩
theorem xgR_ex {lv : List xV} {i : Nat} {f : xI → Prop} (h : xgR lv i f) : ∃ x, xnth lv i = vR x ∧ f x := by
  revert h
  unfold xgR
  rcases xnth lv i with x | x | _ | q <;> intro h <;> first | exact h.elim | exact ⟨_, rfl, h⟩
theorem xcI_ex {c : xV} {f : Int32 → Prop} (h : xcI c f) : ∃ x, c = vI x ∧ f x := by
  unfold xcI at h
  rcases c with x | x | _ | q <;> first | exact h.elim | exact ⟨_, rfl, h⟩
theorem xcL_ex {c : xV} {f : Int64 → Prop} (h : xcL c f) : ∃ x, c = vL x ∧ f x := by
  unfold xcL at h
  rcases c with x | x | _ | q <;> first | exact h.elim | exact ⟨_, rfl, h⟩
theorem xax_ex {q : xI} {t : Nat} {f : Nat → Prop} (h : xax q t f) : ∃ n, xarr q = some (t, n) ∧ f n := by
  unfold xax at h
  split at h
  · rename_i t' n e
    cases hb : Nat.beq t' t with
    | false => rw [hb] at h; exact h.elim
    | true => rw [hb] at h; exact ⟨n, by rw [e, Nat.eq_of_beq_eq_true hb], h⟩
  · exact h.elim
theorem xro_ex {q : xI} {t : Nat} {f : Prop} (h : xro q t f) : (∃ fs, xobj q = some (t, fs)) ∧ f := by
  unfold xro at h
  split at h
  · rename_i t' fs e
    cases hb : Nat.beq t' t with
    | false => rw [hb] at h; exact h.elim
    | true => rw [hb] at h; exact ⟨⟨fs, by rw [e, Nat.eq_of_beq_eq_true hb]⟩, h⟩
  · exact h.elim
theorem xif8_ex {l : List xV} {f : Prop} (h : xif8 l f) : xcats l ≤ 8 ∧ f := by
  unfold xif8 at h
  cases hb : Nat.ble (xcats l) 8 with
  | false => rw [hb] at h; exact h.elim
  | true => rw [hb] at h; exact ⟨Nat.le_of_ble_eq_true hb, h⟩
theorem xcats_eq (ad : xI → Nat) (l : List xV) : ((l.map (xrv ad)).map fun v => v.category).sum = xcats l := by
  induction l with
  | nil => rfl
  | cons v l ih =>
    rw [List.map_cons, List.map_cons, List.sum_cons, ih]
    rcases v with x | x | _ | q <;> rfl
theorem xfind_ex {l : List (Nat × Nat × xD)} {i : Nat} {f : xD → Prop} (h : xfind l i f) : ∃ q r, l.drop i = q :: r ∧ f q.2.2 := by
  induction l generalizing i with
  | nil => unfold xfind at h; exact h.elim
  | cons a l ih =>
    cases i with
    | zero => exact ⟨a, l, rfl, h⟩
    | succ i => exact ih h
theorem xdrop_mem {α : Type} {l : List α} {i : Nat} {q : α} {r : List α} (h : l.drop i = q :: r) : q ∈ l := List.mem_of_mem_drop (by rw [h]; exact List.mem_cons_self)
theorem xargs_ex : ∀ (n : Nat) (st acc : List xV) (f : List xV → List xV → Prop), xargs n st acc f → ∃ B s', st = B.reverse ++ s' ∧ B.length = n ∧ f (B ++ acc) s'
  | 0, st, acc, f, h => ⟨[], st, rfl, rfl, h⟩
  | n + 1, [], acc, f, h => h.elim
  | n + 1, v :: r, acc, f, h => by
    obtain ⟨B, s', e1, e2, e3⟩ := xargs_ex n r (v :: acc) f h
    refine ⟨B ++ [v], s', ?_, by simp [e2], by simpa using e3⟩
    rw [e1]
    simp
theorem xoks_app {a b : List xV} (h : xoks (a ++ b)) : xoks a ∧ xoks b := by
  induction a with
  | nil => exact ⟨trivial, h⟩
  | cons v a ih => exact ⟨⟨h.1, (ih h.2).1⟩, (ih h.2).2⟩
theorem xoks_mem {a : List xV} (h : xoks a) : ∀ v ∈ a, xvok v := by
  induction a with
  | nil => intro v hv; cases hv
  | cons w a ih =>
    intro v hv
    rcases List.mem_cons.mp hv with rfl | hv
    · exact h.1
    · exact ih h.2 v hv
end
section
-- a class's words, by their places in the tables
theorem xu_of {ws : List Cond} (ps : List Nat) (hp : ws = ps.filterMap (fun i => lw_tbl[i]?)) (h : ws.all goodWord = true) : ∀ w ∈ ws, xin w := by
  intro w hw
  have h1 := List.all_eq_true.mp h w hw
  rw [hp] at hw
  obtain ⟨i, -, hi⟩ := List.mem_filterMap.mp hw
  exact ⟨List.mem_of_getElem? hi, h1⟩
set_option maxRecDepth 100000 in
theorem xu_X0 : ∀ w ∈ u_ws RX0 TX0 5, xin w := xu_of [234, 236, 238, 240, 242] (by decide +kernel) (by decide +kernel)
set_option maxRecDepth 100000 in
theorem xu_X1 : ∀ w ∈ u_ws RX1 TX1 3, xin w := xu_of [256, 258, 260] (by decide +kernel) (by decide +kernel)
set_option maxRecDepth 100000 in
theorem xu_X2 : ∀ w ∈ u_ws RX2 TX2 4, xin w := xu_of [126, 128, 130, 132] (by decide +kernel) (by decide +kernel)
set_option maxRecDepth 100000 in
theorem xu_X3 : ∀ w ∈ u_ws RX3 TX3 3, xin w := xu_of [211, 213, 215] (by decide +kernel) (by decide +kernel)
set_option maxRecDepth 100000 in
theorem xu_X4 : ∀ w ∈ u_ws RX4 TX4 12, xin w := xu_of [164, 166, 168, 170, 172, 174, 176, 178, 180, 182, 184, 186] (by decide +kernel) (by decide +kernel)
set_option maxRecDepth 100000 in
theorem xu_X5 : ∀ w ∈ u_ws RX5 TX5 1, xin w := xu_of [114] (by decide +kernel) (by decide +kernel)
set_option maxRecDepth 100000 in
theorem xu_X7 : ∀ w ∈ u_ws RX7 TX7 2, xin w := xu_of [193, 195] (by decide +kernel) (by decide +kernel)
set_option maxRecDepth 100000 in
theorem xu_X8 : ∀ w ∈ u_ws RX8 TX8 9, xin w := xu_of [276, 278, 280, 282, 284, 286, 288, 290, 292] (by decide +kernel) (by decide +kernel)
set_option maxRecDepth 100000 in
theorem xu_X9 : ∀ w ∈ u_ws RX9 TX9 18, xin w := xu_of [781, 783, 785, 787, 789, 791, 793, 795, 797, 799, 801, 803, 805, 807, 809, 811, 813, 815] (by decide +kernel) (by decide +kernel)
theorem xcl_ok : ∀ (ci : Nat) (C : String) (T : u_T) (N : Nat), vwCl[ci]? = some (C, T, N) → (∀ w ∈ u_ws C T N, xin w) ∧ (∃ ty : Nat → FieldType, ∀ k, k < N → parseFieldDescriptor (T k).2.2.1 = some (ty k)) ∧ (∀ a, a < N → ∀ b, b < N → a ≠ b → (T a).2.1 ≠ (T b).2.1) := by
  intro ci C T N h
  match ci, h with
  | 0, h => cases h; exact ⟨xu_X0, ⟨tyX0, tyX0_ok⟩, nmX0⟩
  | 1, h => cases h; exact ⟨xu_X1, ⟨tyX1, tyX1_ok⟩, nmX1⟩
  | 2, h => cases h; exact ⟨xu_X2, ⟨tyX2, tyX2_ok⟩, nmX2⟩
  | 3, h => cases h; exact ⟨xu_X3, ⟨tyX3, tyX3_ok⟩, nmX3⟩
  | 4, h => cases h; exact ⟨xu_X4, ⟨tyX4, tyX4_ok⟩, nmX4⟩
  | 5, h => cases h; exact ⟨xu_X5, ⟨tyX5, tyX5_ok⟩, nmX5⟩
  | 6, h => cases h; exact ⟨xu_X7, ⟨tyX7, tyX7_ok⟩, nmX7⟩
  | 7, h => cases h; exact ⟨xu_X8, ⟨tyX8, tyX8_ok⟩, nmX8⟩
  | 8, h => cases h; exact ⟨xu_X9, ⟨tyX9, tyX9_ok⟩, nmX9⟩
  | n + 9, h => simp [vwCl] at h
end
section
section
variable {p : Program} {l : Launch} {e : Env} {R : Room} {s : State} {m : MethodId} {args : Array Value} {below : List Frame} {meth : Method} {c : Code} {H : Heap} {locs : List Loc} {QS : State → Prop}
variable {pc : Nat} {ls : Array Slot} {rest st0 : List Value} {a : Array Value} {H0 : Heap}
/-- behind a call by a small contract -/
theorem xcall_go {G : xG} {Q : xP} (hr : va_Run p l e R s m args below meth c H locs 0 0 0 0 (F0 m pc ls st0) rest (xQc G Q a) (xA G.2.1)) (hS : va_S (xA G.2.1) H0 H locs)
    (kk : ∀ (r : Option xV) (μ' : xM) (H1 : Heap) (locs1 : List Loc), Q r μ' → (∀ v, r = some v → xvok v) → va_P G.2.2.1 vwCl (xwld G.2.1 G.2.2.2 μ') H1 → va_S (xA G.2.1) H0 H1 locs1 → W p l e R s m args below meth c H1 locs1 0 0 QS (F0 m (pc + 3) ls ((r.map (xrv G.2.1)).toList ++ rest))) : W p l e R s m args below meth c H locs 0 0 QS (F0 m pc ls st0) := by
  intro T hT X
  obtain ⟨v, st₀, t, T', L, h0, X', hL, e1, e2, ⟨⟨r, μ', hq, hv, hok, hP1, -⟩, hz, hk⟩, st⟩ := hr T hT X
  cases hv
  rw [h0] at hz hk
  rw [← e1] at hP1
  obtain ⟨t2, a1, b1⟩ := kk r μ' T'.heap (locs ++ L) hq hok hP1
    ⟨Nat.le_trans hS.1 (by rw [e1]; exact hz), fun q h1 h2 => by rw [e1, hk q (Nat.lt_of_lt_of_le h1 hS.1) h2]; exact hS.2.1 q h1 h2, fun q hq => by
      rcases List.mem_append.mp hq with h | h
      · exact hS.2.2 q h
      · exact hL q h⟩ T' rfl X'
  exact ⟨t2, st t2 a1, b1⟩
theorem xblind (G : xG) (As : List Value) (μ : xM) : FrameBlind (va_Pc As (xB G μ)) := by
  intro a U g mk q
  obtain ⟨h1, qP, qK⟩ := q
  exact ⟨h1, qP, va_K.moved (u := U) (U := U.calling g mk a) (Vm.Alike.refl U.vm) qK⟩

theorem xw_istore_n (hexec : p.tables.exec = Jvm.exec) {cc : ByteArray} (hb : c.code = cc) {ad : xI → Nat} {n i : Nat} {k : Fin 4} {lv : List xV} {x : Int32} {cells slots : Nat} (hl : xLv ad ls n lv) (hi : i < n) (hdg : decode cc pc = .ok (.istore_n k, 1)) (hk : k.val = i)
    (kk : ∀ ls' : Array Slot, xLv ad ls' n (xs1 lv i (vI x)) → W p l e R s m args below meth c H locs cells slots QS (F0 m (pc + 1) ls' rest)) : W p l e R s m args below meth c H locs cells slots QS (F0 m pc ls (.int x :: rest)) := by
  subst hk
  obtain ⟨ls', e', -⟩ := lv_store1 (l := []) (v := .int x) ⟨hl.1, hl.2.1, fun q hq => by cases hq⟩ hi rfl
  intro T hT X
  obtain ⟨t, a, b⟩ := kk ls' (xLv_s1 hl hi rfl rfl e') T hT X
  refine ⟨t, ?_, b⟩
  jvm_step X.here [X.here.top, ↓top_set X.here.top, hexec, hb, hdg, e']
  exact a
theorem xw_istore (hexec : p.tables.exec = Jvm.exec) {cc : ByteArray} (hb : c.code = cc) {ad : xI → Nat} {n i : Nat} {lv : List xV} {x : Int32} {cells slots : Nat} (hl : xLv ad ls n lv) (hi : i < n) (hdg : decode cc pc = .ok (.istore i, 2))
    (kk : ∀ ls' : Array Slot, xLv ad ls' n (xs1 lv i (vI x)) → W p l e R s m args below meth c H locs cells slots QS (F0 m (pc + 2) ls' rest)) : W p l e R s m args below meth c H locs cells slots QS (F0 m pc ls (.int x :: rest)) := by
  obtain ⟨ls', e', -⟩ := lv_store1 (l := []) (v := .int x) ⟨hl.1, hl.2.1, fun q hq => by cases hq⟩ hi rfl
  intro T hT X
  obtain ⟨t, a, b⟩ := kk ls' (xLv_s1 hl hi rfl rfl e') T hT X
  refine ⟨t, ?_, b⟩
  jvm_step X.here [X.here.top, ↓top_set X.here.top, hexec, hb, hdg, e']
  exact a
theorem xw_lstore_n (hexec : p.tables.exec = Jvm.exec) {cc : ByteArray} (hb : c.code = cc) {ad : xI → Nat} {n i : Nat} {k : Fin 4} {lv : List xV} {x : Int64} {cells slots : Nat} (hl : xLv ad ls n lv) (hi : i + 1 < n) (hdg : decode cc pc = .ok (.lstore_n k, 1)) (hk : k.val = i)
    (kk : ∀ ls' : Array Slot, xLv ad ls' n (xs2 lv i (vL x)) → W p l e R s m args below meth c H locs cells slots QS (F0 m (pc + 1) ls' rest)) : W p l e R s m args below meth c H locs cells slots QS (F0 m pc ls (.long x :: rest)) := by
  subst hk
  obtain ⟨ls', e', -⟩ := lv_store2 (l := []) (v := .long x) ⟨hl.1, hl.2.1, fun q hq => by cases hq⟩ hi rfl
  intro T hT X
  obtain ⟨t, a, b⟩ := kk ls' (xLv_s2 hl hi rfl rfl e') T hT X
  refine ⟨t, ?_, b⟩
  jvm_step X.here [X.here.top, ↓top_set X.here.top, hexec, hb, hdg, e']
  exact a
theorem xw_lstore (hexec : p.tables.exec = Jvm.exec) {cc : ByteArray} (hb : c.code = cc) {ad : xI → Nat} {n i : Nat} {lv : List xV} {x : Int64} {cells slots : Nat} (hl : xLv ad ls n lv) (hi : i + 1 < n) (hdg : decode cc pc = .ok (.lstore i, 2))
    (kk : ∀ ls' : Array Slot, xLv ad ls' n (xs2 lv i (vL x)) → W p l e R s m args below meth c H locs cells slots QS (F0 m (pc + 2) ls' rest)) : W p l e R s m args below meth c H locs cells slots QS (F0 m pc ls (.long x :: rest)) := by
  obtain ⟨ls', e', -⟩ := lv_store2 (l := []) (v := .long x) ⟨hl.1, hl.2.1, fun q hq => by cases hq⟩ hi rfl
  intro T hT X
  obtain ⟨t, a, b⟩ := kk ls' (xLv_s2 hl hi rfl rfl e') T hT X
  refine ⟨t, ?_, b⟩
  jvm_step X.here [X.here.top, ↓top_set X.here.top, hexec, hb, hdg, e']
  exact a
theorem xw_astore_n (hexec : p.tables.exec = Jvm.exec) {cc : ByteArray} (hb : c.code = cc) {ad : xI → Nat} {n i : Nat} {k : Fin 4} {lv : List xV} {x : xI} {cells slots : Nat} (hl : xLv ad ls n lv) (hi : i < n) (hdg : decode cc pc = .ok (.astore_n k, 1)) (hk : k.val = i)
    (kk : ∀ ls' : Array Slot, xLv ad ls' n (xs1 lv i (vR x)) → W p l e R s m args below meth c H locs cells slots QS (F0 m (pc + 1) ls' rest)) : W p l e R s m args below meth c H locs cells slots QS (F0 m pc ls (.ref (ad x) :: rest)) := by
  subst hk
  obtain ⟨ls', e', -⟩ := lv_store1 (l := []) (v := .ref (ad x)) ⟨hl.1, hl.2.1, fun q hq => by cases hq⟩ hi rfl
  intro T hT X
  obtain ⟨t, a, b⟩ := kk ls' (xLv_s1 hl hi rfl rfl e') T hT X
  refine ⟨t, ?_, b⟩
  jvm_step X.here [X.here.top, ↓top_set X.here.top, hexec, hb, hdg, e', Value.isRef]
  exact a
theorem xw_astore (hexec : p.tables.exec = Jvm.exec) {cc : ByteArray} (hb : c.code = cc) {ad : xI → Nat} {n i : Nat} {lv : List xV} {x : xI} {cells slots : Nat} (hl : xLv ad ls n lv) (hi : i < n) (hdg : decode cc pc = .ok (.astore i, 2))
    (kk : ∀ ls' : Array Slot, xLv ad ls' n (xs1 lv i (vR x)) → W p l e R s m args below meth c H locs cells slots QS (F0 m (pc + 2) ls' rest)) : W p l e R s m args below meth c H locs cells slots QS (F0 m pc ls (.ref (ad x) :: rest)) := by
  obtain ⟨ls', e', -⟩ := lv_store1 (l := []) (v := .ref (ad x)) ⟨hl.1, hl.2.1, fun q hq => by cases hq⟩ hi rfl
  intro T hT X
  obtain ⟨t, a, b⟩ := kk ls' (xLv_s1 hl hi rfl rfl e') T hT X
  refine ⟨t, ?_, b⟩
  jvm_step X.here [X.here.top, ↓top_set X.here.top, hexec, hb, hdg, e', Value.isRef]
  exact a
theorem xw_iinc (hexec : p.tables.exec = Jvm.exec) {cc : ByteArray} (hb : c.code = cc) {ad : xI → Nat} {n i : Nat} {lv : List xV} {x v : Int32} {q : Int} {cells slots : Nat} (hl : xLv ad ls n lv) (hi : i < n) (hdg : decode cc pc = .ok (.iinc i q, 3)) (hx : xnth lv i = vI x) (hv : Int32.ofInt q = v)
    (kk : ∀ ls' : Array Slot, xLv ad ls' n (xs1 lv i (vI (x + v))) → W p l e R s m args below meth c H locs cells slots QS (F0 m (pc + 3) ls' rest)) : W p l e R s m args below meth c H locs cells slots QS (F0 m pc ls rest) := by
  subst hv
  have hg := hl.2.2 i (by rw [hx]; intro z; cases z)
  rw [hx] at hg
  have hg : ls[i]? = some (.val (.int x)) := hg
  obtain ⟨ls', e', -⟩ := lv_store1 (l := []) (v := .int (x + Int32.ofInt q)) ⟨hl.1, hl.2.1, fun q hq => by cases hq⟩ hi rfl
  intro T hT X
  obtain ⟨t, a, b⟩ := kk ls' (xLv_s1 hl hi rfl rfl e') T hT X
  refine ⟨t, ?_, b⟩
  jvm_step X.here [X.here.top, ↓top_set X.here.top, hexec, hb, hdg, hg, e']
  exact a
end
-- switches
theorem xnat_le : 0 + (nativeFrameWords "java/lang/System" "arraycopy" 5 + 11) ≤ 40 := by decide +kernel
theorem xtgts_get {tb : List xT} {pc : Nat} : ∀ (os : List Int) (ts : List Nat), xtgts tb pc os ts = true → os.length = ts.length ∧ ∀ (j t : Nat), ts[j]? = some t → ∃ o, os[j]? = some o ∧ xtgt tb pc o t = true
  | [], [], _ => ⟨rfl, fun j t h => by simp at h⟩
  | [], _ :: _, h => by simp [xtgts] at h
  | _ :: _, [], h => by simp [xtgts] at h
  | o :: os, t :: ts, h => by
    simp only [xtgts, Bool.and_eq_true] at h
    obtain ⟨e, f⟩ := xtgts_get os ts h.2
    refine ⟨by simp [e], fun j t' hj => ?_⟩
    cases j with
    | zero =>
      have : t = t' := by simpa using hj
      subst this
      exact ⟨o, rfl, h.1⟩
    | succ j => exact f j t' (by simpa using hj)
theorem xtsw_ex {x : Int32} {kt : Nat → Prop} {kd : Prop} : ∀ (ts : List Nat) (lo : Int), xtsw x lo ts kt kd → (∃ (j t : Nat), ts[j]? = some t ∧ x = Int32.ofInt (lo + (j : Int)) ∧ kt t) ∨ ((∀ j, j < ts.length → ¬ x = Int32.ofInt (lo + (j : Int))) ∧ kd)
  | [], lo, h => Or.inr ⟨fun j hj => by simp at hj, h⟩
  | t :: ts, lo, h => by
    by_cases hx : x = Int32.ofInt lo
    · exact Or.inl ⟨0, t, by simp, by simpa using hx, h.1 hx⟩
    · rcases xtsw_ex ts (lo + 1) (h.2 hx) with ⟨j, t', e1, e2, e3⟩ | ⟨e1, e2⟩
      · exact Or.inl ⟨j + 1, t', by simpa using e1, by rw [e2]; congr 1; omega, e3⟩
      · refine Or.inr ⟨fun j hj => ?_, e2⟩
        cases j with
        | zero => simpa using hx
        | succ j =>
          have := e1 j (by simpa using hj)
          rwa [show lo + 1 + (j : Int) = lo + ((j + 1 : Nat) : Int) by omega] at this
theorem xofI {x : Int32} {z : Int} (h : x = Int32.ofInt z) (h1 : -2147483648 ≤ z) (h2 : z ≤ 2147483647) : x.toInt = z := by
  subst h
  exact Int32.toInt_ofInt_of_le (by simpa using h1) (by simpa using (by omega : z < 2147483648))
theorem xlsw_ex {x : Int32} {tb : List xT} {pc : Nat} {d : Int} {kt : Nat → Prop} {kd : Prop} : ∀ (ps : List (Int × Int)) (ts : List Nat), xtgts tb pc (ps.map (·.2)) ts = true → xkeys ps = true → xlsw x ps ts kt kd → (∃ o t, Op.lookupswitch.offset ps d x.toInt = o ∧ xtgt tb pc o t = true ∧ kt t) ∨ (Op.lookupswitch.offset ps d x.toInt = d ∧ kd)
  | [], [], _, _, h => Or.inr ⟨by simp [Op.lookupswitch.offset], h⟩
  | [], _ :: _, h, _, _ => by simp [xtgts] at h
  | (a, o) :: ps, [], h, _, _ => by simp [xtgts] at h
  | (a, o) :: ps, t :: ts, hg, hk, h => by
    simp only [List.map_cons, xtgts, Bool.and_eq_true] at hg
    simp only [xkeys, Bool.and_eq_true, decide_eq_true_eq] at hk
    by_cases hx : x = Int32.ofInt a
    · refine Or.inl ⟨o, t, ?_, hg.1, h.1 hx⟩
      rw [xofI hx hk.1.1 hk.1.2]
      simp [Op.lookupswitch.offset]
    · have hne : ¬ x = Int32.ofInt a := hx
      have hka : (Int32.ofInt a).toInt = a := xofI rfl hk.1.1 hk.1.2
      rw [lv_osw hne hka]
      exact xlsw_ex ps ts hg.2 hk.2 (h.2 hx)
-- cells
theorem xfld_ex {q : xI} {ci k : Nat} {fi : Prop} {fr : xI → Prop} (h : xfld q ci k fi fr) : ∃ fs, xobj q = some (ci, fs) ∧ ((fs[k]? = some none ∧ fi) ∨ ∃ r, fs[k]? = some (some r) ∧ fr r) := by
  unfold xfld at h
  split at h
  · rename_i ci' fs e
    cases hb : Nat.beq ci' ci with
    | false => rw [hb] at h; exact h.elim
    | true =>
      rw [hb] at h
      refine ⟨fs, by rw [e, Nat.eq_of_beq_eq_true hb], ?_⟩
      simp only at h
      split at h
      · exact Or.inl ⟨by assumption, h⟩
      · rename_i r e2
        exact Or.inr ⟨r, e2, h⟩
      · exact h.elim
  · exact h.elim
theorem xcell_obj {ad : xI → Nat} {cA : Nat → ClassId} {μ : xM} {q : xI} {ci : Nat} {fs : List (Option xI)} (h : xobj q = some (ci, fs)) : xcell ad cA μ q = .inr (ci, xfs ad (μ q) 0 fs) := by
  unfold xcell
  rw [h]
theorem xarr_obj {q : xI} {t n : Nat} (h : xarr q = some (t, n)) : xobj q = none := by
  unfold xarr at h
  split at h
  · rfl
  · rfl
  · rfl
  · cases h
theorem xcell_arr {ad : xI → Nat} {cA : Nat → ClassId} {μ : xM} {q : xI} {t n : Nat} (h : xarr q = some (t, n)) : xcell ad cA μ q = .inl (cA t, n, .inl (μ q)) := by
  unfold xcell
  rw [xarr_obj h]
  simp only [h]
theorem xst_self (μ : xM) (q : xI) (k : Nat) (v : Int32) : xst μ q k v q = upd (μ q) k v := by simp [xst]
theorem xst_ne (μ : xM) {p q : xI} (k : Nat) (v : Int32) (h : p ≠ q) : xst μ q k v p = μ p := by simp [xst, h]
theorem xwld_put {ad : xI → Nat} {cA : Nat → ClassId} {μ : xM} {n : Nat} {q : xI} {ci k : Nat} {fs : List (Option xI)} {x : Int32} (hn : xids[n]? = some q) (h : xobj q = some (ci, fs)) (hk : fs[k]? = some none) : (xwld ad cA μ).set n (ad q, .inr (ci, (xfs ad (μ q) 0 fs).set k (.int x))) = xwld ad cA (xst μ q k x) := by
  have e : (.inr (ci, (xfs ad (μ q) 0 fs).set k (.int x)) : va_E) = xcell ad cA (xst μ q k x) q := by
    rw [xcell_obj h, xst_self, xfs_set fs 0 k hk, Nat.zero_add]
  rw [e]
  exact xwld_set hn (fun p hp => (xst_ne μ k x hp).symm)
theorem xwld_arr {ad : xI → Nat} {cA : Nat → ClassId} {μ : xM} {n : Nat} {q : xI} {t z k : Nat} {x : Int32} (hn : xids[n]? = some q) (h : xarr q = some (t, z)) : (xwld ad cA μ).set n (ad q, .inl (cA t, z, .inl (upd (μ q) k x))) = xwld ad cA (xst μ q k x) := by
  have e : (.inl (cA t, z, .inl (upd (μ q) k x)) : va_E) = xcell ad cA (xst μ q k x) q := by
    rw [xcell_arr h, xst_self]
  rw [e]
  exact xwld_set hn (fun p hp => (xst_ne μ k x hp).symm)
theorem xwld_cpy {ad : xI → Nat} {cA : Nat → ClassId} {μ : xM} {n : Nat} {a q : xI} {t z sp dp k : Nat} (hn : xids[n]? = some q) (h : xarr q = some (t, z)) : (xwld ad cA μ).set n (ad q, .inl (cA t, z, .inl (va_cpy (μ a) (μ q) sp dp k))) = xwld ad cA (xcp μ a q sp dp k) := by
  have e : (.inl (cA t, z, .inl (va_cpy (μ a) (μ q) sp dp k)) : va_E) = xcell ad cA (xcp μ a q sp dp k) q := by
    rw [xcell_arr h]
    simp [xcp]
  rw [e]
  exact xwld_set hn (fun p hp => by simp [xcp, hp])
theorem xal_ex {ad : xI → Nat} {cA : Nat → ClassId} {μ : xM} {q : xI} {f : Nat → Prop} (h : xal q f) : ∃ (t : Nat) (ty : FieldType) (x : vp_A), xcell ad cA μ q = .inl (cA t, x) ∧ (xtys cA)[t]? = some (cA t, ty) ∧ f x.1 := by
  unfold xal at h
  split at h
  · rename_i t n e
    have ht : t < 3 := by
      unfold xarr at e
      split at e <;> cases e <;> omega
    refine ⟨t, if t = 0 then .int else if t = 1 then .boolean else .char, (n, .inl (μ q)), xcell_arr e, ?_, h⟩
    rcases (show t = 0 ∨ t = 1 ∨ t = 2 by omega) with rfl | rfl | rfl <;> rfl
  · split at h
    · exact ⟨3, .object "BoxedProofs$State", (5, _), rfl, rfl, h⟩
    · exact h.elim
theorem xret_ex {ad : xI → Nat} {rt : Option FieldType} {rest : List xV} {k : List xV → xM → Prop} {r : Option xV} {μ' : xM} (h : xret rt rest k r μ') : ∃ st', k st' μ' ∧ (r.map (xrv ad)).toList ++ rest.map (xrv ad) = st'.map (xrv ad) ∧ (xoks rest → (∀ v, r = some v → xvok v) → xoks st') := by
  unfold xret at h
  split at h
  · split at h
    · exact ⟨rest, h, rfl, fun a _ => a⟩
    · exact h.elim
  · split at h
    · exact ⟨_, h, rfl, fun a b => ⟨b _ rfl, a⟩⟩
    · exact h.elim
  · split at h
    · exact ⟨_, h, rfl, fun a b => ⟨b _ rfl, a⟩⟩
    · exact h.elim
  · split at h
    · exact ⟨_, h, rfl, fun a b => ⟨b _ rfl, a⟩⟩
    · exact h.elim
end
section
set_option maxHeartbeats 1000000 in
theorem xso_iload_n {G : xG} {E : xE} {d : Nat} {Q : xP} {pc len : Nat} {tg : List Nat} {cst : xV} {r : List xT} {lv st : List xV} {μ : xM} {k : xK} {p : Program} {e : Env} {s : State} {m : MethodId} {args : Array Value} {below : List Frame} {meth : Method} {c : Code} (n : Fin 4) (hE : xEok E)
    (kN : ∀ lv st μ, k r lv st μ → WS G E (d + 1) (p, e, s, m, args, below, meth, c) Q (pc + len) lv st μ)
    (kJ : ∀ t e' r', E.2.2.1.drop t = e' :: r' → ∀ lv st μ, k (E.2.2.1.drop t) lv st μ → WS G E (d + 1) (p, e, s, m, args, below, meth, c) Q e'.1 lv st μ)
    (hdec : decode E.2.1.2.1 pc = .ok ((.iload_n n), len)) (hch : xchk E (pc, (.iload_n n), len, tg, cst) = true)
    (h : xstep (MW G d) E Q (pc, (.iload_n n), len, tg, cst) r lv st μ k) : WS G E (d + 1) (p, e, s, m, args, below, meth, c) Q pc lv st μ := by
  intro hG hC H locs ls hP hS hl hlo hso
  obtain ⟨hx, hb, hr, hml, hown, hts, hK, hlocks⟩ := id hC
  have hD := xD_wld hG μ
  have htw : ∀ w, xin w → w.before args s = true := fun w hw => hts w (List.mem_cons_of_mem _ (xin_gw hw))
  simp only [xchk, decide_eq_true_eq] at hch
  obtain ⟨hlen, hi⟩ := hch
  subst hlen
  
  obtain ⟨x, ex, h⟩ := xgI_ex (show xgI lv _ _ from h)
  have h2 := hl.2.2 _ (show xnth lv (xt0 tg) ≠ vN by rw [ex]; intro z; cases z)
  have hq := hlo (xt0 tg)
  rw [ex] at h2 hq
  exact lv_iload_n hx hb hdec hi h2 (kN _ _ _ h hG hC H locs ls hP hS hl hlo ⟨trivial, hso⟩)
set_option maxHeartbeats 1000000 in
theorem xso_iload {G : xG} {E : xE} {d : Nat} {Q : xP} {pc len : Nat} {tg : List Nat} {cst : xV} {r : List xT} {lv st : List xV} {μ : xM} {k : xK} {p : Program} {e : Env} {s : State} {m : MethodId} {args : Array Value} {below : List Frame} {meth : Method} {c : Code} (n : Nat) (hE : xEok E)
    (kN : ∀ lv st μ, k r lv st μ → WS G E (d + 1) (p, e, s, m, args, below, meth, c) Q (pc + len) lv st μ)
    (kJ : ∀ t e' r', E.2.2.1.drop t = e' :: r' → ∀ lv st μ, k (E.2.2.1.drop t) lv st μ → WS G E (d + 1) (p, e, s, m, args, below, meth, c) Q e'.1 lv st μ)
    (hdec : decode E.2.1.2.1 pc = .ok ((.iload n), len)) (hch : xchk E (pc, (.iload n), len, tg, cst) = true)
    (h : xstep (MW G d) E Q (pc, (.iload n), len, tg, cst) r lv st μ k) : WS G E (d + 1) (p, e, s, m, args, below, meth, c) Q pc lv st μ := by
  intro hG hC H locs ls hP hS hl hlo hso
  obtain ⟨hx, hb, hr, hml, hown, hts, hK, hlocks⟩ := id hC
  have hD := xD_wld hG μ
  have htw : ∀ w, xin w → w.before args s = true := fun w hw => hts w (List.mem_cons_of_mem _ (xin_gw hw))
  simp only [xchk, decide_eq_true_eq] at hch
  obtain ⟨hlen, hi⟩ := hch
  subst hlen
  subst hi
  obtain ⟨x, ex, h⟩ := xgI_ex (show xgI lv _ _ from h)
  have h2 := hl.2.2 _ (show xnth lv (xt0 tg) ≠ vN by rw [ex]; intro z; cases z)
  have hq := hlo (xt0 tg)
  rw [ex] at h2 hq
  exact lv_iload hx hb hdec h2 (kN _ _ _ h hG hC H locs ls hP hS hl hlo ⟨trivial, hso⟩)
set_option maxHeartbeats 1000000 in
theorem xso_lload_n {G : xG} {E : xE} {d : Nat} {Q : xP} {pc len : Nat} {tg : List Nat} {cst : xV} {r : List xT} {lv st : List xV} {μ : xM} {k : xK} {p : Program} {e : Env} {s : State} {m : MethodId} {args : Array Value} {below : List Frame} {meth : Method} {c : Code} (n : Fin 4) (hE : xEok E)
    (kN : ∀ lv st μ, k r lv st μ → WS G E (d + 1) (p, e, s, m, args, below, meth, c) Q (pc + len) lv st μ)
    (kJ : ∀ t e' r', E.2.2.1.drop t = e' :: r' → ∀ lv st μ, k (E.2.2.1.drop t) lv st μ → WS G E (d + 1) (p, e, s, m, args, below, meth, c) Q e'.1 lv st μ)
    (hdec : decode E.2.1.2.1 pc = .ok ((.lload_n n), len)) (hch : xchk E (pc, (.lload_n n), len, tg, cst) = true)
    (h : xstep (MW G d) E Q (pc, (.lload_n n), len, tg, cst) r lv st μ k) : WS G E (d + 1) (p, e, s, m, args, below, meth, c) Q pc lv st μ := by
  intro hG hC H locs ls hP hS hl hlo hso
  obtain ⟨hx, hb, hr, hml, hown, hts, hK, hlocks⟩ := id hC
  have hD := xD_wld hG μ
  have htw : ∀ w, xin w → w.before args s = true := fun w hw => hts w (List.mem_cons_of_mem _ (xin_gw hw))
  simp only [xchk, decide_eq_true_eq] at hch
  obtain ⟨hlen, hi⟩ := hch
  subst hlen
  
  obtain ⟨x, ex, h⟩ := xgL_ex (show xgL lv _ _ from h)
  have h2 := hl.2.2 _ (show xnth lv (xt0 tg) ≠ vN by rw [ex]; intro z; cases z)
  have hq := hlo (xt0 tg)
  rw [ex] at h2 hq
  exact lv_lload_n hx hb hdec hi h2 (kN _ _ _ h hG hC H locs ls hP hS hl hlo ⟨trivial, hso⟩)
set_option maxHeartbeats 1000000 in
theorem xso_lload {G : xG} {E : xE} {d : Nat} {Q : xP} {pc len : Nat} {tg : List Nat} {cst : xV} {r : List xT} {lv st : List xV} {μ : xM} {k : xK} {p : Program} {e : Env} {s : State} {m : MethodId} {args : Array Value} {below : List Frame} {meth : Method} {c : Code} (n : Nat) (hE : xEok E)
    (kN : ∀ lv st μ, k r lv st μ → WS G E (d + 1) (p, e, s, m, args, below, meth, c) Q (pc + len) lv st μ)
    (kJ : ∀ t e' r', E.2.2.1.drop t = e' :: r' → ∀ lv st μ, k (E.2.2.1.drop t) lv st μ → WS G E (d + 1) (p, e, s, m, args, below, meth, c) Q e'.1 lv st μ)
    (hdec : decode E.2.1.2.1 pc = .ok ((.lload n), len)) (hch : xchk E (pc, (.lload n), len, tg, cst) = true)
    (h : xstep (MW G d) E Q (pc, (.lload n), len, tg, cst) r lv st μ k) : WS G E (d + 1) (p, e, s, m, args, below, meth, c) Q pc lv st μ := by
  intro hG hC H locs ls hP hS hl hlo hso
  obtain ⟨hx, hb, hr, hml, hown, hts, hK, hlocks⟩ := id hC
  have hD := xD_wld hG μ
  have htw : ∀ w, xin w → w.before args s = true := fun w hw => hts w (List.mem_cons_of_mem _ (xin_gw hw))
  simp only [xchk, decide_eq_true_eq] at hch
  obtain ⟨hlen, hi⟩ := hch
  subst hlen
  subst hi
  obtain ⟨x, ex, h⟩ := xgL_ex (show xgL lv _ _ from h)
  have h2 := hl.2.2 _ (show xnth lv (xt0 tg) ≠ vN by rw [ex]; intro z; cases z)
  have hq := hlo (xt0 tg)
  rw [ex] at h2 hq
  exact lv_lload hx hb hdec h2 (kN _ _ _ h hG hC H locs ls hP hS hl hlo ⟨trivial, hso⟩)
set_option maxHeartbeats 1000000 in
theorem xso_aload_n {G : xG} {E : xE} {d : Nat} {Q : xP} {pc len : Nat} {tg : List Nat} {cst : xV} {r : List xT} {lv st : List xV} {μ : xM} {k : xK} {p : Program} {e : Env} {s : State} {m : MethodId} {args : Array Value} {below : List Frame} {meth : Method} {c : Code} (n : Fin 4) (hE : xEok E)
    (kN : ∀ lv st μ, k r lv st μ → WS G E (d + 1) (p, e, s, m, args, below, meth, c) Q (pc + len) lv st μ)
    (kJ : ∀ t e' r', E.2.2.1.drop t = e' :: r' → ∀ lv st μ, k (E.2.2.1.drop t) lv st μ → WS G E (d + 1) (p, e, s, m, args, below, meth, c) Q e'.1 lv st μ)
    (hdec : decode E.2.1.2.1 pc = .ok ((.aload_n n), len)) (hch : xchk E (pc, (.aload_n n), len, tg, cst) = true)
    (h : xstep (MW G d) E Q (pc, (.aload_n n), len, tg, cst) r lv st μ k) : WS G E (d + 1) (p, e, s, m, args, below, meth, c) Q pc lv st μ := by
  intro hG hC H locs ls hP hS hl hlo hso
  obtain ⟨hx, hb, hr, hml, hown, hts, hK, hlocks⟩ := id hC
  have hD := xD_wld hG μ
  have htw : ∀ w, xin w → w.before args s = true := fun w hw => hts w (List.mem_cons_of_mem _ (xin_gw hw))
  simp only [xchk, decide_eq_true_eq] at hch
  obtain ⟨hlen, hi⟩ := hch
  subst hlen
  
  obtain ⟨x, ex, h⟩ := xgR_ex (show xgR lv _ _ from h)
  have h2 := hl.2.2 _ (show xnth lv (xt0 tg) ≠ vN by rw [ex]; intro z; cases z)
  have hq := hlo (xt0 tg)
  rw [ex] at h2 hq
  exact lv_aload_n hx hb hdec hi h2 (kN _ _ _ h hG hC H locs ls hP hS hl hlo ⟨hq, hso⟩)
set_option maxHeartbeats 1000000 in
theorem xso_aload {G : xG} {E : xE} {d : Nat} {Q : xP} {pc len : Nat} {tg : List Nat} {cst : xV} {r : List xT} {lv st : List xV} {μ : xM} {k : xK} {p : Program} {e : Env} {s : State} {m : MethodId} {args : Array Value} {below : List Frame} {meth : Method} {c : Code} (n : Nat) (hE : xEok E)
    (kN : ∀ lv st μ, k r lv st μ → WS G E (d + 1) (p, e, s, m, args, below, meth, c) Q (pc + len) lv st μ)
    (kJ : ∀ t e' r', E.2.2.1.drop t = e' :: r' → ∀ lv st μ, k (E.2.2.1.drop t) lv st μ → WS G E (d + 1) (p, e, s, m, args, below, meth, c) Q e'.1 lv st μ)
    (hdec : decode E.2.1.2.1 pc = .ok ((.aload n), len)) (hch : xchk E (pc, (.aload n), len, tg, cst) = true)
    (h : xstep (MW G d) E Q (pc, (.aload n), len, tg, cst) r lv st μ k) : WS G E (d + 1) (p, e, s, m, args, below, meth, c) Q pc lv st μ := by
  intro hG hC H locs ls hP hS hl hlo hso
  obtain ⟨hx, hb, hr, hml, hown, hts, hK, hlocks⟩ := id hC
  have hD := xD_wld hG μ
  have htw : ∀ w, xin w → w.before args s = true := fun w hw => hts w (List.mem_cons_of_mem _ (xin_gw hw))
  simp only [xchk, decide_eq_true_eq] at hch
  obtain ⟨hlen, hi⟩ := hch
  subst hlen
  subst hi
  obtain ⟨x, ex, h⟩ := xgR_ex (show xgR lv _ _ from h)
  have h2 := hl.2.2 _ (show xnth lv (xt0 tg) ≠ vN by rw [ex]; intro z; cases z)
  have hq := hlo (xt0 tg)
  rw [ex] at h2 hq
  exact lv_aload hx hb hdec h2 (kN _ _ _ h hG hC H locs ls hP hS hl hlo ⟨hq, hso⟩)
set_option maxHeartbeats 1000000 in
theorem xso_istore_n {G : xG} {E : xE} {d : Nat} {Q : xP} {pc len : Nat} {tg : List Nat} {cst : xV} {r : List xT} {lv st : List xV} {μ : xM} {k : xK} {p : Program} {e : Env} {s : State} {m : MethodId} {args : Array Value} {below : List Frame} {meth : Method} {c : Code} (n : Fin 4) (hE : xEok E)
    (kN : ∀ lv st μ, k r lv st μ → WS G E (d + 1) (p, e, s, m, args, below, meth, c) Q (pc + len) lv st μ)
    (kJ : ∀ t e' r', E.2.2.1.drop t = e' :: r' → ∀ lv st μ, k (E.2.2.1.drop t) lv st μ → WS G E (d + 1) (p, e, s, m, args, below, meth, c) Q e'.1 lv st μ)
    (hdec : decode E.2.1.2.1 pc = .ok ((.istore_n n), len)) (hch : xchk E (pc, (.istore_n n), len, tg, cst) = true)
    (h : xstep (MW G d) E Q (pc, (.istore_n n), len, tg, cst) r lv st μ k) : WS G E (d + 1) (p, e, s, m, args, below, meth, c) Q pc lv st μ := by
  intro hG hC H locs ls hP hS hl hlo hso
  obtain ⟨hx, hb, hr, hml, hown, hts, hK, hlocks⟩ := id hC
  have hD := xD_wld hG μ
  have htw : ∀ w, xin w → w.before args s = true := fun w hw => hts w (List.mem_cons_of_mem _ (xin_gw hw))
  simp only [xchk, decide_eq_true_eq] at hch
  obtain ⟨hlen, hi, hlt⟩ := hch
  subst hlen
  
  obtain ⟨x, s1, rfl, hh⟩ := xpI_ex (show xpI st _ from h)
  clear h
  have h := hh
  clear hh
  exact xw_istore_n hx hb hl hlt hdec hi (fun ls' hl' => kN _ _ _ h hG hC H locs ls' hP hS hl' (xlok_set (xlok_clr hlo _) _ trivial) hso.2)
set_option maxHeartbeats 1000000 in
theorem xso_istore {G : xG} {E : xE} {d : Nat} {Q : xP} {pc len : Nat} {tg : List Nat} {cst : xV} {r : List xT} {lv st : List xV} {μ : xM} {k : xK} {p : Program} {e : Env} {s : State} {m : MethodId} {args : Array Value} {below : List Frame} {meth : Method} {c : Code} (n : Nat) (hE : xEok E)
    (kN : ∀ lv st μ, k r lv st μ → WS G E (d + 1) (p, e, s, m, args, below, meth, c) Q (pc + len) lv st μ)
    (kJ : ∀ t e' r', E.2.2.1.drop t = e' :: r' → ∀ lv st μ, k (E.2.2.1.drop t) lv st μ → WS G E (d + 1) (p, e, s, m, args, below, meth, c) Q e'.1 lv st μ)
    (hdec : decode E.2.1.2.1 pc = .ok ((.istore n), len)) (hch : xchk E (pc, (.istore n), len, tg, cst) = true)
    (h : xstep (MW G d) E Q (pc, (.istore n), len, tg, cst) r lv st μ k) : WS G E (d + 1) (p, e, s, m, args, below, meth, c) Q pc lv st μ := by
  intro hG hC H locs ls hP hS hl hlo hso
  obtain ⟨hx, hb, hr, hml, hown, hts, hK, hlocks⟩ := id hC
  have hD := xD_wld hG μ
  have htw : ∀ w, xin w → w.before args s = true := fun w hw => hts w (List.mem_cons_of_mem _ (xin_gw hw))
  simp only [xchk, decide_eq_true_eq] at hch
  obtain ⟨hlen, hi, hlt⟩ := hch
  subst hlen
  subst hi
  obtain ⟨x, s1, rfl, hh⟩ := xpI_ex (show xpI st _ from h)
  clear h
  have h := hh
  clear hh
  exact xw_istore hx hb hl hlt hdec (fun ls' hl' => kN _ _ _ h hG hC H locs ls' hP hS hl' (xlok_set (xlok_clr hlo _) _ trivial) hso.2)
set_option maxHeartbeats 1000000 in
theorem xso_lstore_n {G : xG} {E : xE} {d : Nat} {Q : xP} {pc len : Nat} {tg : List Nat} {cst : xV} {r : List xT} {lv st : List xV} {μ : xM} {k : xK} {p : Program} {e : Env} {s : State} {m : MethodId} {args : Array Value} {below : List Frame} {meth : Method} {c : Code} (n : Fin 4) (hE : xEok E)
    (kN : ∀ lv st μ, k r lv st μ → WS G E (d + 1) (p, e, s, m, args, below, meth, c) Q (pc + len) lv st μ)
    (kJ : ∀ t e' r', E.2.2.1.drop t = e' :: r' → ∀ lv st μ, k (E.2.2.1.drop t) lv st μ → WS G E (d + 1) (p, e, s, m, args, below, meth, c) Q e'.1 lv st μ)
    (hdec : decode E.2.1.2.1 pc = .ok ((.lstore_n n), len)) (hch : xchk E (pc, (.lstore_n n), len, tg, cst) = true)
    (h : xstep (MW G d) E Q (pc, (.lstore_n n), len, tg, cst) r lv st μ k) : WS G E (d + 1) (p, e, s, m, args, below, meth, c) Q pc lv st μ := by
  intro hG hC H locs ls hP hS hl hlo hso
  obtain ⟨hx, hb, hr, hml, hown, hts, hK, hlocks⟩ := id hC
  have hD := xD_wld hG μ
  have htw : ∀ w, xin w → w.before args s = true := fun w hw => hts w (List.mem_cons_of_mem _ (xin_gw hw))
  simp only [xchk, decide_eq_true_eq] at hch
  obtain ⟨hlen, hi, hlt⟩ := hch
  subst hlen
  
  obtain ⟨x, s1, rfl, hh⟩ := xpL_ex (show xpL st _ from h)
  clear h
  have h := hh
  clear hh
  exact xw_lstore_n hx hb hl hlt hdec hi (fun ls' hl' => kN _ _ _ h hG hC H locs ls' hP hS hl' (xlok_set (xlok_set (xlok_clr hlo _) _ (v := vN) trivial) _ trivial) hso.2)
set_option maxHeartbeats 1000000 in
theorem xso_lstore {G : xG} {E : xE} {d : Nat} {Q : xP} {pc len : Nat} {tg : List Nat} {cst : xV} {r : List xT} {lv st : List xV} {μ : xM} {k : xK} {p : Program} {e : Env} {s : State} {m : MethodId} {args : Array Value} {below : List Frame} {meth : Method} {c : Code} (n : Nat) (hE : xEok E)
    (kN : ∀ lv st μ, k r lv st μ → WS G E (d + 1) (p, e, s, m, args, below, meth, c) Q (pc + len) lv st μ)
    (kJ : ∀ t e' r', E.2.2.1.drop t = e' :: r' → ∀ lv st μ, k (E.2.2.1.drop t) lv st μ → WS G E (d + 1) (p, e, s, m, args, below, meth, c) Q e'.1 lv st μ)
    (hdec : decode E.2.1.2.1 pc = .ok ((.lstore n), len)) (hch : xchk E (pc, (.lstore n), len, tg, cst) = true)
    (h : xstep (MW G d) E Q (pc, (.lstore n), len, tg, cst) r lv st μ k) : WS G E (d + 1) (p, e, s, m, args, below, meth, c) Q pc lv st μ := by
  intro hG hC H locs ls hP hS hl hlo hso
  obtain ⟨hx, hb, hr, hml, hown, hts, hK, hlocks⟩ := id hC
  have hD := xD_wld hG μ
  have htw : ∀ w, xin w → w.before args s = true := fun w hw => hts w (List.mem_cons_of_mem _ (xin_gw hw))
  simp only [xchk, decide_eq_true_eq] at hch
  obtain ⟨hlen, hi, hlt⟩ := hch
  subst hlen
  subst hi
  obtain ⟨x, s1, rfl, hh⟩ := xpL_ex (show xpL st _ from h)
  clear h
  have h := hh
  clear hh
  exact xw_lstore hx hb hl hlt hdec (fun ls' hl' => kN _ _ _ h hG hC H locs ls' hP hS hl' (xlok_set (xlok_set (xlok_clr hlo _) _ (v := vN) trivial) _ trivial) hso.2)
set_option maxHeartbeats 1000000 in
theorem xso_astore_n {G : xG} {E : xE} {d : Nat} {Q : xP} {pc len : Nat} {tg : List Nat} {cst : xV} {r : List xT} {lv st : List xV} {μ : xM} {k : xK} {p : Program} {e : Env} {s : State} {m : MethodId} {args : Array Value} {below : List Frame} {meth : Method} {c : Code} (n : Fin 4) (hE : xEok E)
    (kN : ∀ lv st μ, k r lv st μ → WS G E (d + 1) (p, e, s, m, args, below, meth, c) Q (pc + len) lv st μ)
    (kJ : ∀ t e' r', E.2.2.1.drop t = e' :: r' → ∀ lv st μ, k (E.2.2.1.drop t) lv st μ → WS G E (d + 1) (p, e, s, m, args, below, meth, c) Q e'.1 lv st μ)
    (hdec : decode E.2.1.2.1 pc = .ok ((.astore_n n), len)) (hch : xchk E (pc, (.astore_n n), len, tg, cst) = true)
    (h : xstep (MW G d) E Q (pc, (.astore_n n), len, tg, cst) r lv st μ k) : WS G E (d + 1) (p, e, s, m, args, below, meth, c) Q pc lv st μ := by
  intro hG hC H locs ls hP hS hl hlo hso
  obtain ⟨hx, hb, hr, hml, hown, hts, hK, hlocks⟩ := id hC
  have hD := xD_wld hG μ
  have htw : ∀ w, xin w → w.before args s = true := fun w hw => hts w (List.mem_cons_of_mem _ (xin_gw hw))
  simp only [xchk, decide_eq_true_eq] at hch
  obtain ⟨hlen, hi, hlt⟩ := hch
  subst hlen
  
  obtain ⟨x, s1, rfl, hh⟩ := xpR_ex (show xpR st _ from h)
  clear h
  have h := hh
  clear hh
  exact xw_astore_n hx hb hl hlt hdec hi (fun ls' hl' => kN _ _ _ h hG hC H locs ls' hP hS hl' (xlok_set (xlok_clr hlo _) _ hso.1) hso.2)
set_option maxHeartbeats 1000000 in
theorem xso_astore {G : xG} {E : xE} {d : Nat} {Q : xP} {pc len : Nat} {tg : List Nat} {cst : xV} {r : List xT} {lv st : List xV} {μ : xM} {k : xK} {p : Program} {e : Env} {s : State} {m : MethodId} {args : Array Value} {below : List Frame} {meth : Method} {c : Code} (n : Nat) (hE : xEok E)
    (kN : ∀ lv st μ, k r lv st μ → WS G E (d + 1) (p, e, s, m, args, below, meth, c) Q (pc + len) lv st μ)
    (kJ : ∀ t e' r', E.2.2.1.drop t = e' :: r' → ∀ lv st μ, k (E.2.2.1.drop t) lv st μ → WS G E (d + 1) (p, e, s, m, args, below, meth, c) Q e'.1 lv st μ)
    (hdec : decode E.2.1.2.1 pc = .ok ((.astore n), len)) (hch : xchk E (pc, (.astore n), len, tg, cst) = true)
    (h : xstep (MW G d) E Q (pc, (.astore n), len, tg, cst) r lv st μ k) : WS G E (d + 1) (p, e, s, m, args, below, meth, c) Q pc lv st μ := by
  intro hG hC H locs ls hP hS hl hlo hso
  obtain ⟨hx, hb, hr, hml, hown, hts, hK, hlocks⟩ := id hC
  have hD := xD_wld hG μ
  have htw : ∀ w, xin w → w.before args s = true := fun w hw => hts w (List.mem_cons_of_mem _ (xin_gw hw))
  simp only [xchk, decide_eq_true_eq] at hch
  obtain ⟨hlen, hi, hlt⟩ := hch
  subst hlen
  subst hi
  obtain ⟨x, s1, rfl, hh⟩ := xpR_ex (show xpR st _ from h)
  clear h
  have h := hh
  clear hh
  exact xw_astore hx hb hl hlt hdec (fun ls' hl' => kN _ _ _ h hG hC H locs ls' hP hS hl' (xlok_set (xlok_clr hlo _) _ hso.1) hso.2)
set_option maxHeartbeats 1000000 in
theorem xso_iconst {G : xG} {E : xE} {d : Nat} {Q : xP} {pc len : Nat} {tg : List Nat} {cst : xV} {r : List xT} {lv st : List xV} {μ : xM} {k : xK} {p : Program} {e : Env} {s : State} {m : MethodId} {args : Array Value} {below : List Frame} {meth : Method} {c : Code} (n : Int) (hE : xEok E)
    (kN : ∀ lv st μ, k r lv st μ → WS G E (d + 1) (p, e, s, m, args, below, meth, c) Q (pc + len) lv st μ)
    (kJ : ∀ t e' r', E.2.2.1.drop t = e' :: r' → ∀ lv st μ, k (E.2.2.1.drop t) lv st μ → WS G E (d + 1) (p, e, s, m, args, below, meth, c) Q e'.1 lv st μ)
    (hdec : decode E.2.1.2.1 pc = .ok ((.iconst n), len)) (hch : xchk E (pc, (.iconst n), len, tg, cst) = true)
    (h : xstep (MW G d) E Q (pc, (.iconst n), len, tg, cst) r lv st μ k) : WS G E (d + 1) (p, e, s, m, args, below, meth, c) Q pc lv st μ := by
  intro hG hC H locs ls hP hS hl hlo hso
  obtain ⟨hx, hb, hr, hml, hown, hts, hK, hlocks⟩ := id hC
  have hD := xD_wld hG μ
  have htw : ∀ w, xin w → w.before args s = true := fun w hw => hts w (List.mem_cons_of_mem _ (xin_gw hw))
  simp only [xchk, Bool.and_eq_true, decide_eq_true_eq] at hch
  obtain ⟨hlen, hc⟩ := hch
  subst hlen
  obtain ⟨x, rfl, hh⟩ := xcI_ex (show xcI cst _ from h)
  clear h
  have h := hh
  clear hh
  exact lv_iconst hx hb hdec (of_decide_eq_true (show decide (Int32.ofInt n = x) = true from hc)) (kN _ _ _ h hG hC H locs ls hP hS hl hlo ⟨trivial, hso⟩)
set_option maxHeartbeats 1000000 in
theorem xso_bipush {G : xG} {E : xE} {d : Nat} {Q : xP} {pc len : Nat} {tg : List Nat} {cst : xV} {r : List xT} {lv st : List xV} {μ : xM} {k : xK} {p : Program} {e : Env} {s : State} {m : MethodId} {args : Array Value} {below : List Frame} {meth : Method} {c : Code} (n : Int) (hE : xEok E)
    (kN : ∀ lv st μ, k r lv st μ → WS G E (d + 1) (p, e, s, m, args, below, meth, c) Q (pc + len) lv st μ)
    (kJ : ∀ t e' r', E.2.2.1.drop t = e' :: r' → ∀ lv st μ, k (E.2.2.1.drop t) lv st μ → WS G E (d + 1) (p, e, s, m, args, below, meth, c) Q e'.1 lv st μ)
    (hdec : decode E.2.1.2.1 pc = .ok ((.bipush n), len)) (hch : xchk E (pc, (.bipush n), len, tg, cst) = true)
    (h : xstep (MW G d) E Q (pc, (.bipush n), len, tg, cst) r lv st μ k) : WS G E (d + 1) (p, e, s, m, args, below, meth, c) Q pc lv st μ := by
  intro hG hC H locs ls hP hS hl hlo hso
  obtain ⟨hx, hb, hr, hml, hown, hts, hK, hlocks⟩ := id hC
  have hD := xD_wld hG μ
  have htw : ∀ w, xin w → w.before args s = true := fun w hw => hts w (List.mem_cons_of_mem _ (xin_gw hw))
  simp only [xchk, Bool.and_eq_true, decide_eq_true_eq] at hch
  obtain ⟨hlen, hc⟩ := hch
  subst hlen
  obtain ⟨x, rfl, hh⟩ := xcI_ex (show xcI cst _ from h)
  clear h
  have h := hh
  clear hh
  exact lv_bipush hx hb hdec (of_decide_eq_true (show decide ((Int8.ofInt n).toInt32 = x) = true from hc)) (kN _ _ _ h hG hC H locs ls hP hS hl hlo ⟨trivial, hso⟩)
set_option maxHeartbeats 1000000 in
theorem xso_sipush {G : xG} {E : xE} {d : Nat} {Q : xP} {pc len : Nat} {tg : List Nat} {cst : xV} {r : List xT} {lv st : List xV} {μ : xM} {k : xK} {p : Program} {e : Env} {s : State} {m : MethodId} {args : Array Value} {below : List Frame} {meth : Method} {c : Code} (n : Int) (hE : xEok E)
    (kN : ∀ lv st μ, k r lv st μ → WS G E (d + 1) (p, e, s, m, args, below, meth, c) Q (pc + len) lv st μ)
    (kJ : ∀ t e' r', E.2.2.1.drop t = e' :: r' → ∀ lv st μ, k (E.2.2.1.drop t) lv st μ → WS G E (d + 1) (p, e, s, m, args, below, meth, c) Q e'.1 lv st μ)
    (hdec : decode E.2.1.2.1 pc = .ok ((.sipush n), len)) (hch : xchk E (pc, (.sipush n), len, tg, cst) = true)
    (h : xstep (MW G d) E Q (pc, (.sipush n), len, tg, cst) r lv st μ k) : WS G E (d + 1) (p, e, s, m, args, below, meth, c) Q pc lv st μ := by
  intro hG hC H locs ls hP hS hl hlo hso
  obtain ⟨hx, hb, hr, hml, hown, hts, hK, hlocks⟩ := id hC
  have hD := xD_wld hG μ
  have htw : ∀ w, xin w → w.before args s = true := fun w hw => hts w (List.mem_cons_of_mem _ (xin_gw hw))
  simp only [xchk, Bool.and_eq_true, decide_eq_true_eq] at hch
  obtain ⟨hlen, hc⟩ := hch
  subst hlen
  obtain ⟨x, rfl, hh⟩ := xcI_ex (show xcI cst _ from h)
  clear h
  have h := hh
  clear hh
  exact lv_sipush hx hb hdec (of_decide_eq_true (show decide ((Int16.ofInt n).toInt32 = x) = true from hc)) (kN _ _ _ h hG hC H locs ls hP hS hl hlo ⟨trivial, hso⟩)
set_option maxHeartbeats 1000000 in
theorem xso_lconst {G : xG} {E : xE} {d : Nat} {Q : xP} {pc len : Nat} {tg : List Nat} {cst : xV} {r : List xT} {lv st : List xV} {μ : xM} {k : xK} {p : Program} {e : Env} {s : State} {m : MethodId} {args : Array Value} {below : List Frame} {meth : Method} {c : Code} (n : Fin 2) (hE : xEok E)
    (kN : ∀ lv st μ, k r lv st μ → WS G E (d + 1) (p, e, s, m, args, below, meth, c) Q (pc + len) lv st μ)
    (kJ : ∀ t e' r', E.2.2.1.drop t = e' :: r' → ∀ lv st μ, k (E.2.2.1.drop t) lv st μ → WS G E (d + 1) (p, e, s, m, args, below, meth, c) Q e'.1 lv st μ)
    (hdec : decode E.2.1.2.1 pc = .ok ((.lconst n), len)) (hch : xchk E (pc, (.lconst n), len, tg, cst) = true)
    (h : xstep (MW G d) E Q (pc, (.lconst n), len, tg, cst) r lv st μ k) : WS G E (d + 1) (p, e, s, m, args, below, meth, c) Q pc lv st μ := by
  intro hG hC H locs ls hP hS hl hlo hso
  obtain ⟨hx, hb, hr, hml, hown, hts, hK, hlocks⟩ := id hC
  have hD := xD_wld hG μ
  have htw : ∀ w, xin w → w.before args s = true := fun w hw => hts w (List.mem_cons_of_mem _ (xin_gw hw))
  simp only [xchk, Bool.and_eq_true, decide_eq_true_eq] at hch
  obtain ⟨hlen, hc⟩ := hch
  subst hlen
  obtain ⟨x, rfl, hh⟩ := xcL_ex (show xcL cst _ from h)
  clear h
  have h := hh
  clear hh
  exact lv_lconst hx hb hdec (of_decide_eq_true (show decide (Int64.ofNat n.val = x) = true from hc)) (kN _ _ _ h hG hC H locs ls hP hS hl hlo ⟨trivial, hso⟩)
set_option maxHeartbeats 1000000 in
theorem xso_ldc {G : xG} {E : xE} {d : Nat} {Q : xP} {pc len : Nat} {tg : List Nat} {cst : xV} {r : List xT} {lv st : List xV} {μ : xM} {k : xK} {p : Program} {e : Env} {s : State} {m : MethodId} {args : Array Value} {below : List Frame} {meth : Method} {c : Code} (n : Nat) (hE : xEok E)
    (kN : ∀ lv st μ, k r lv st μ → WS G E (d + 1) (p, e, s, m, args, below, meth, c) Q (pc + len) lv st μ)
    (kJ : ∀ t e' r', E.2.2.1.drop t = e' :: r' → ∀ lv st μ, k (E.2.2.1.drop t) lv st μ → WS G E (d + 1) (p, e, s, m, args, below, meth, c) Q e'.1 lv st μ)
    (hdec : decode E.2.1.2.1 pc = .ok ((.ldc n), len)) (hch : xchk E (pc, (.ldc n), len, tg, cst) = true)
    (h : xstep (MW G d) E Q (pc, (.ldc n), len, tg, cst) r lv st μ k) : WS G E (d + 1) (p, e, s, m, args, below, meth, c) Q pc lv st μ := by
  intro hG hC H locs ls hP hS hl hlo hso
  obtain ⟨hx, hb, hr, hml, hown, hts, hK, hlocks⟩ := id hC
  have hD := xD_wld hG μ
  have htw : ∀ w, xin w → w.before args s = true := fun w hw => hts w (List.mem_cons_of_mem _ (xin_gw hw))
  simp only [xchk, Bool.and_eq_true, decide_eq_true_eq] at hch
  obtain ⟨hlen, hc⟩ := hch
  subst hlen
  obtain ⟨q, hq, eq⟩ := List.any_eq_true.mp hc
  have eq := of_decide_eq_true eq
  obtain ⟨x, rfl, hh⟩ := xcI_ex (show xcI cst _ from h)
  clear h
  have h := hh
  clear hh
  have hF := hE.2.2.2.1.2.2.2.1 q hq
  subst eq
  exact lv_ldc hx hb hown (htw _ hF) hdec (kN _ _ _ h hG hC H locs ls hP hS hl hlo ⟨trivial, hso⟩)
set_option maxHeartbeats 1000000 in
theorem xso_ldc_w {G : xG} {E : xE} {d : Nat} {Q : xP} {pc len : Nat} {tg : List Nat} {cst : xV} {r : List xT} {lv st : List xV} {μ : xM} {k : xK} {p : Program} {e : Env} {s : State} {m : MethodId} {args : Array Value} {below : List Frame} {meth : Method} {c : Code} (n : Nat) (hE : xEok E)
    (kN : ∀ lv st μ, k r lv st μ → WS G E (d + 1) (p, e, s, m, args, below, meth, c) Q (pc + len) lv st μ)
    (kJ : ∀ t e' r', E.2.2.1.drop t = e' :: r' → ∀ lv st μ, k (E.2.2.1.drop t) lv st μ → WS G E (d + 1) (p, e, s, m, args, below, meth, c) Q e'.1 lv st μ)
    (hdec : decode E.2.1.2.1 pc = .ok ((.ldc_w n), len)) (hch : xchk E (pc, (.ldc_w n), len, tg, cst) = true)
    (h : xstep (MW G d) E Q (pc, (.ldc_w n), len, tg, cst) r lv st μ k) : WS G E (d + 1) (p, e, s, m, args, below, meth, c) Q pc lv st μ := by
  intro hG hC H locs ls hP hS hl hlo hso
  obtain ⟨hx, hb, hr, hml, hown, hts, hK, hlocks⟩ := id hC
  have hD := xD_wld hG μ
  have htw : ∀ w, xin w → w.before args s = true := fun w hw => hts w (List.mem_cons_of_mem _ (xin_gw hw))
  simp only [xchk, Bool.and_eq_true, decide_eq_true_eq] at hch
  obtain ⟨hlen, hc⟩ := hch
  subst hlen
  obtain ⟨q, hq, eq⟩ := List.any_eq_true.mp hc
  have eq := of_decide_eq_true eq
  obtain ⟨x, rfl, hh⟩ := xcI_ex (show xcI cst _ from h)
  clear h
  have h := hh
  clear hh
  have hF := hE.2.2.2.1.2.2.2.1 q hq
  subst eq
  exact lv_ldcw hx hb hown (htw _ hF) hdec (kN _ _ _ h hG hC H locs ls hP hS hl hlo ⟨trivial, hso⟩)
set_option maxHeartbeats 1000000 in
theorem xso_ldc2_w {G : xG} {E : xE} {d : Nat} {Q : xP} {pc len : Nat} {tg : List Nat} {cst : xV} {r : List xT} {lv st : List xV} {μ : xM} {k : xK} {p : Program} {e : Env} {s : State} {m : MethodId} {args : Array Value} {below : List Frame} {meth : Method} {c : Code} (n : Nat) (hE : xEok E)
    (kN : ∀ lv st μ, k r lv st μ → WS G E (d + 1) (p, e, s, m, args, below, meth, c) Q (pc + len) lv st μ)
    (kJ : ∀ t e' r', E.2.2.1.drop t = e' :: r' → ∀ lv st μ, k (E.2.2.1.drop t) lv st μ → WS G E (d + 1) (p, e, s, m, args, below, meth, c) Q e'.1 lv st μ)
    (hdec : decode E.2.1.2.1 pc = .ok ((.ldc2_w n), len)) (hch : xchk E (pc, (.ldc2_w n), len, tg, cst) = true)
    (h : xstep (MW G d) E Q (pc, (.ldc2_w n), len, tg, cst) r lv st μ k) : WS G E (d + 1) (p, e, s, m, args, below, meth, c) Q pc lv st μ := by
  intro hG hC H locs ls hP hS hl hlo hso
  obtain ⟨hx, hb, hr, hml, hown, hts, hK, hlocks⟩ := id hC
  have hD := xD_wld hG μ
  have htw : ∀ w, xin w → w.before args s = true := fun w hw => hts w (List.mem_cons_of_mem _ (xin_gw hw))
  simp only [xchk, Bool.and_eq_true, decide_eq_true_eq] at hch
  obtain ⟨hlen, hc⟩ := hch
  subst hlen
  obtain ⟨q, hq, eq⟩ := List.any_eq_true.mp hc
  have eq := of_decide_eq_true eq
  obtain ⟨x, rfl, hh⟩ := xcL_ex (show xcL cst _ from h)
  clear h
  have h := hh
  clear hh
  have hF := hE.2.2.2.1.2.2.2.1 q hq
  subst eq
  exact lv_ldc2 hx hb hown (htw _ hF) hdec (kN _ _ _ h hG hC H locs ls hP hS hl hlo ⟨trivial, hso⟩)
set_option maxHeartbeats 1000000 in
theorem xso_aconst_null {G : xG} {E : xE} {d : Nat} {Q : xP} {pc len : Nat} {tg : List Nat} {cst : xV} {r : List xT} {lv st : List xV} {μ : xM} {k : xK} {p : Program} {e : Env} {s : State} {m : MethodId} {args : Array Value} {below : List Frame} {meth : Method} {c : Code} (hE : xEok E)
    (kN : ∀ lv st μ, k r lv st μ → WS G E (d + 1) (p, e, s, m, args, below, meth, c) Q (pc + len) lv st μ)
    (kJ : ∀ t e' r', E.2.2.1.drop t = e' :: r' → ∀ lv st μ, k (E.2.2.1.drop t) lv st μ → WS G E (d + 1) (p, e, s, m, args, below, meth, c) Q e'.1 lv st μ)
    (hdec : decode E.2.1.2.1 pc = .ok ((.aconst_null), len)) (hch : xchk E (pc, (.aconst_null), len, tg, cst) = true)
    (h : xstep (MW G d) E Q (pc, (.aconst_null), len, tg, cst) r lv st μ k) : WS G E (d + 1) (p, e, s, m, args, below, meth, c) Q pc lv st μ := by
  intro hG hC H locs ls hP hS hl hlo hso
  obtain ⟨hx, hb, hr, hml, hown, hts, hK, hlocks⟩ := id hC
  have hD := xD_wld hG μ
  have htw : ∀ w, xin w → w.before args s = true := fun w hw => hts w (List.mem_cons_of_mem _ (xin_gw hw))
  simp only [xchk, decide_eq_true_eq] at hch
  subst hch
  exact lv_null hx hb hdec (kN _ _ _ h hG hC H locs ls hP hS hl hlo ⟨trivial, hso⟩)
set_option maxHeartbeats 1000000 in
theorem xso_iadd {G : xG} {E : xE} {d : Nat} {Q : xP} {pc len : Nat} {tg : List Nat} {cst : xV} {r : List xT} {lv st : List xV} {μ : xM} {k : xK} {p : Program} {e : Env} {s : State} {m : MethodId} {args : Array Value} {below : List Frame} {meth : Method} {c : Code} (hE : xEok E)
    (kN : ∀ lv st μ, k r lv st μ → WS G E (d + 1) (p, e, s, m, args, below, meth, c) Q (pc + len) lv st μ)
    (kJ : ∀ t e' r', E.2.2.1.drop t = e' :: r' → ∀ lv st μ, k (E.2.2.1.drop t) lv st μ → WS G E (d + 1) (p, e, s, m, args, below, meth, c) Q e'.1 lv st μ)
    (hdec : decode E.2.1.2.1 pc = .ok ((.iadd), len)) (hch : xchk E (pc, (.iadd), len, tg, cst) = true)
    (h : xstep (MW G d) E Q (pc, (.iadd), len, tg, cst) r lv st μ k) : WS G E (d + 1) (p, e, s, m, args, below, meth, c) Q pc lv st μ := by
  intro hG hC H locs ls hP hS hl hlo hso
  obtain ⟨hx, hb, hr, hml, hown, hts, hK, hlocks⟩ := id hC
  have hD := xD_wld hG μ
  have htw : ∀ w, xin w → w.before args s = true := fun w hw => hts w (List.mem_cons_of_mem _ (xin_gw hw))
  simp only [xchk, decide_eq_true_eq] at hch
  subst hch
  obtain ⟨y, s1, rfl, hh⟩ := xpI_ex (show xpI st _ from h)
  clear h
  have h := hh
  clear hh
  obtain ⟨x, s2, rfl, hh⟩ := xpI_ex h
  clear h
  have h := hh
  clear hh
  exact lv_iadd hx hb hdec (kN _ _ _ h hG hC H locs ls hP hS hl hlo ⟨trivial, hso.2.2⟩)
set_option maxHeartbeats 1000000 in
theorem xso_isub {G : xG} {E : xE} {d : Nat} {Q : xP} {pc len : Nat} {tg : List Nat} {cst : xV} {r : List xT} {lv st : List xV} {μ : xM} {k : xK} {p : Program} {e : Env} {s : State} {m : MethodId} {args : Array Value} {below : List Frame} {meth : Method} {c : Code} (hE : xEok E)
    (kN : ∀ lv st μ, k r lv st μ → WS G E (d + 1) (p, e, s, m, args, below, meth, c) Q (pc + len) lv st μ)
    (kJ : ∀ t e' r', E.2.2.1.drop t = e' :: r' → ∀ lv st μ, k (E.2.2.1.drop t) lv st μ → WS G E (d + 1) (p, e, s, m, args, below, meth, c) Q e'.1 lv st μ)
    (hdec : decode E.2.1.2.1 pc = .ok ((.isub), len)) (hch : xchk E (pc, (.isub), len, tg, cst) = true)
    (h : xstep (MW G d) E Q (pc, (.isub), len, tg, cst) r lv st μ k) : WS G E (d + 1) (p, e, s, m, args, below, meth, c) Q pc lv st μ := by
  intro hG hC H locs ls hP hS hl hlo hso
  obtain ⟨hx, hb, hr, hml, hown, hts, hK, hlocks⟩ := id hC
  have hD := xD_wld hG μ
  have htw : ∀ w, xin w → w.before args s = true := fun w hw => hts w (List.mem_cons_of_mem _ (xin_gw hw))
  simp only [xchk, decide_eq_true_eq] at hch
  subst hch
  obtain ⟨y, s1, rfl, hh⟩ := xpI_ex (show xpI st _ from h)
  clear h
  have h := hh
  clear hh
  obtain ⟨x, s2, rfl, hh⟩ := xpI_ex h
  clear h
  have h := hh
  clear hh
  exact lv_isub hx hb hdec (kN _ _ _ h hG hC H locs ls hP hS hl hlo ⟨trivial, hso.2.2⟩)
set_option maxHeartbeats 1000000 in
theorem xso_imul {G : xG} {E : xE} {d : Nat} {Q : xP} {pc len : Nat} {tg : List Nat} {cst : xV} {r : List xT} {lv st : List xV} {μ : xM} {k : xK} {p : Program} {e : Env} {s : State} {m : MethodId} {args : Array Value} {below : List Frame} {meth : Method} {c : Code} (hE : xEok E)
    (kN : ∀ lv st μ, k r lv st μ → WS G E (d + 1) (p, e, s, m, args, below, meth, c) Q (pc + len) lv st μ)
    (kJ : ∀ t e' r', E.2.2.1.drop t = e' :: r' → ∀ lv st μ, k (E.2.2.1.drop t) lv st μ → WS G E (d + 1) (p, e, s, m, args, below, meth, c) Q e'.1 lv st μ)
    (hdec : decode E.2.1.2.1 pc = .ok ((.imul), len)) (hch : xchk E (pc, (.imul), len, tg, cst) = true)
    (h : xstep (MW G d) E Q (pc, (.imul), len, tg, cst) r lv st μ k) : WS G E (d + 1) (p, e, s, m, args, below, meth, c) Q pc lv st μ := by
  intro hG hC H locs ls hP hS hl hlo hso
  obtain ⟨hx, hb, hr, hml, hown, hts, hK, hlocks⟩ := id hC
  have hD := xD_wld hG μ
  have htw : ∀ w, xin w → w.before args s = true := fun w hw => hts w (List.mem_cons_of_mem _ (xin_gw hw))
  simp only [xchk, decide_eq_true_eq] at hch
  subst hch
  obtain ⟨y, s1, rfl, hh⟩ := xpI_ex (show xpI st _ from h)
  clear h
  have h := hh
  clear hh
  obtain ⟨x, s2, rfl, hh⟩ := xpI_ex h
  clear h
  have h := hh
  clear hh
  exact lv_imul hx hb hdec (kN _ _ _ h hG hC H locs ls hP hS hl hlo ⟨trivial, hso.2.2⟩)
set_option maxHeartbeats 1000000 in
theorem xso_iand {G : xG} {E : xE} {d : Nat} {Q : xP} {pc len : Nat} {tg : List Nat} {cst : xV} {r : List xT} {lv st : List xV} {μ : xM} {k : xK} {p : Program} {e : Env} {s : State} {m : MethodId} {args : Array Value} {below : List Frame} {meth : Method} {c : Code} (hE : xEok E)
    (kN : ∀ lv st μ, k r lv st μ → WS G E (d + 1) (p, e, s, m, args, below, meth, c) Q (pc + len) lv st μ)
    (kJ : ∀ t e' r', E.2.2.1.drop t = e' :: r' → ∀ lv st μ, k (E.2.2.1.drop t) lv st μ → WS G E (d + 1) (p, e, s, m, args, below, meth, c) Q e'.1 lv st μ)
    (hdec : decode E.2.1.2.1 pc = .ok ((.iand), len)) (hch : xchk E (pc, (.iand), len, tg, cst) = true)
    (h : xstep (MW G d) E Q (pc, (.iand), len, tg, cst) r lv st μ k) : WS G E (d + 1) (p, e, s, m, args, below, meth, c) Q pc lv st μ := by
  intro hG hC H locs ls hP hS hl hlo hso
  obtain ⟨hx, hb, hr, hml, hown, hts, hK, hlocks⟩ := id hC
  have hD := xD_wld hG μ
  have htw : ∀ w, xin w → w.before args s = true := fun w hw => hts w (List.mem_cons_of_mem _ (xin_gw hw))
  simp only [xchk, decide_eq_true_eq] at hch
  subst hch
  obtain ⟨y, s1, rfl, hh⟩ := xpI_ex (show xpI st _ from h)
  clear h
  have h := hh
  clear hh
  obtain ⟨x, s2, rfl, hh⟩ := xpI_ex h
  clear h
  have h := hh
  clear hh
  exact lv_iand hx hb hdec (kN _ _ _ h hG hC H locs ls hP hS hl hlo ⟨trivial, hso.2.2⟩)
set_option maxHeartbeats 1000000 in
theorem xso_ior {G : xG} {E : xE} {d : Nat} {Q : xP} {pc len : Nat} {tg : List Nat} {cst : xV} {r : List xT} {lv st : List xV} {μ : xM} {k : xK} {p : Program} {e : Env} {s : State} {m : MethodId} {args : Array Value} {below : List Frame} {meth : Method} {c : Code} (hE : xEok E)
    (kN : ∀ lv st μ, k r lv st μ → WS G E (d + 1) (p, e, s, m, args, below, meth, c) Q (pc + len) lv st μ)
    (kJ : ∀ t e' r', E.2.2.1.drop t = e' :: r' → ∀ lv st μ, k (E.2.2.1.drop t) lv st μ → WS G E (d + 1) (p, e, s, m, args, below, meth, c) Q e'.1 lv st μ)
    (hdec : decode E.2.1.2.1 pc = .ok ((.ior), len)) (hch : xchk E (pc, (.ior), len, tg, cst) = true)
    (h : xstep (MW G d) E Q (pc, (.ior), len, tg, cst) r lv st μ k) : WS G E (d + 1) (p, e, s, m, args, below, meth, c) Q pc lv st μ := by
  intro hG hC H locs ls hP hS hl hlo hso
  obtain ⟨hx, hb, hr, hml, hown, hts, hK, hlocks⟩ := id hC
  have hD := xD_wld hG μ
  have htw : ∀ w, xin w → w.before args s = true := fun w hw => hts w (List.mem_cons_of_mem _ (xin_gw hw))
  simp only [xchk, decide_eq_true_eq] at hch
  subst hch
  obtain ⟨y, s1, rfl, hh⟩ := xpI_ex (show xpI st _ from h)
  clear h
  have h := hh
  clear hh
  obtain ⟨x, s2, rfl, hh⟩ := xpI_ex h
  clear h
  have h := hh
  clear hh
  exact lv_ior hx hb hdec (kN _ _ _ h hG hC H locs ls hP hS hl hlo ⟨trivial, hso.2.2⟩)
set_option maxHeartbeats 1000000 in
theorem xso_ixor {G : xG} {E : xE} {d : Nat} {Q : xP} {pc len : Nat} {tg : List Nat} {cst : xV} {r : List xT} {lv st : List xV} {μ : xM} {k : xK} {p : Program} {e : Env} {s : State} {m : MethodId} {args : Array Value} {below : List Frame} {meth : Method} {c : Code} (hE : xEok E)
    (kN : ∀ lv st μ, k r lv st μ → WS G E (d + 1) (p, e, s, m, args, below, meth, c) Q (pc + len) lv st μ)
    (kJ : ∀ t e' r', E.2.2.1.drop t = e' :: r' → ∀ lv st μ, k (E.2.2.1.drop t) lv st μ → WS G E (d + 1) (p, e, s, m, args, below, meth, c) Q e'.1 lv st μ)
    (hdec : decode E.2.1.2.1 pc = .ok ((.ixor), len)) (hch : xchk E (pc, (.ixor), len, tg, cst) = true)
    (h : xstep (MW G d) E Q (pc, (.ixor), len, tg, cst) r lv st μ k) : WS G E (d + 1) (p, e, s, m, args, below, meth, c) Q pc lv st μ := by
  intro hG hC H locs ls hP hS hl hlo hso
  obtain ⟨hx, hb, hr, hml, hown, hts, hK, hlocks⟩ := id hC
  have hD := xD_wld hG μ
  have htw : ∀ w, xin w → w.before args s = true := fun w hw => hts w (List.mem_cons_of_mem _ (xin_gw hw))
  simp only [xchk, decide_eq_true_eq] at hch
  subst hch
  obtain ⟨y, s1, rfl, hh⟩ := xpI_ex (show xpI st _ from h)
  clear h
  have h := hh
  clear hh
  obtain ⟨x, s2, rfl, hh⟩ := xpI_ex h
  clear h
  have h := hh
  clear hh
  exact lv_ixor hx hb hdec (kN _ _ _ h hG hC H locs ls hP hS hl hlo ⟨trivial, hso.2.2⟩)
set_option maxHeartbeats 1000000 in
theorem xso_ishl {G : xG} {E : xE} {d : Nat} {Q : xP} {pc len : Nat} {tg : List Nat} {cst : xV} {r : List xT} {lv st : List xV} {μ : xM} {k : xK} {p : Program} {e : Env} {s : State} {m : MethodId} {args : Array Value} {below : List Frame} {meth : Method} {c : Code} (hE : xEok E)
    (kN : ∀ lv st μ, k r lv st μ → WS G E (d + 1) (p, e, s, m, args, below, meth, c) Q (pc + len) lv st μ)
    (kJ : ∀ t e' r', E.2.2.1.drop t = e' :: r' → ∀ lv st μ, k (E.2.2.1.drop t) lv st μ → WS G E (d + 1) (p, e, s, m, args, below, meth, c) Q e'.1 lv st μ)
    (hdec : decode E.2.1.2.1 pc = .ok ((.ishl), len)) (hch : xchk E (pc, (.ishl), len, tg, cst) = true)
    (h : xstep (MW G d) E Q (pc, (.ishl), len, tg, cst) r lv st μ k) : WS G E (d + 1) (p, e, s, m, args, below, meth, c) Q pc lv st μ := by
  intro hG hC H locs ls hP hS hl hlo hso
  obtain ⟨hx, hb, hr, hml, hown, hts, hK, hlocks⟩ := id hC
  have hD := xD_wld hG μ
  have htw : ∀ w, xin w → w.before args s = true := fun w hw => hts w (List.mem_cons_of_mem _ (xin_gw hw))
  simp only [xchk, decide_eq_true_eq] at hch
  subst hch
  obtain ⟨y, s1, rfl, hh⟩ := xpI_ex (show xpI st _ from h)
  clear h
  have h := hh
  clear hh
  obtain ⟨x, s2, rfl, hh⟩ := xpI_ex h
  clear h
  have h := hh
  clear hh
  exact lv_ishl hx hb hdec (kN _ _ _ h hG hC H locs ls hP hS hl hlo ⟨trivial, hso.2.2⟩)
set_option maxHeartbeats 1000000 in
theorem xso_ishr {G : xG} {E : xE} {d : Nat} {Q : xP} {pc len : Nat} {tg : List Nat} {cst : xV} {r : List xT} {lv st : List xV} {μ : xM} {k : xK} {p : Program} {e : Env} {s : State} {m : MethodId} {args : Array Value} {below : List Frame} {meth : Method} {c : Code} (hE : xEok E)
    (kN : ∀ lv st μ, k r lv st μ → WS G E (d + 1) (p, e, s, m, args, below, meth, c) Q (pc + len) lv st μ)
    (kJ : ∀ t e' r', E.2.2.1.drop t = e' :: r' → ∀ lv st μ, k (E.2.2.1.drop t) lv st μ → WS G E (d + 1) (p, e, s, m, args, below, meth, c) Q e'.1 lv st μ)
    (hdec : decode E.2.1.2.1 pc = .ok ((.ishr), len)) (hch : xchk E (pc, (.ishr), len, tg, cst) = true)
    (h : xstep (MW G d) E Q (pc, (.ishr), len, tg, cst) r lv st μ k) : WS G E (d + 1) (p, e, s, m, args, below, meth, c) Q pc lv st μ := by
  intro hG hC H locs ls hP hS hl hlo hso
  obtain ⟨hx, hb, hr, hml, hown, hts, hK, hlocks⟩ := id hC
  have hD := xD_wld hG μ
  have htw : ∀ w, xin w → w.before args s = true := fun w hw => hts w (List.mem_cons_of_mem _ (xin_gw hw))
  simp only [xchk, decide_eq_true_eq] at hch
  subst hch
  obtain ⟨y, s1, rfl, hh⟩ := xpI_ex (show xpI st _ from h)
  clear h
  have h := hh
  clear hh
  obtain ⟨x, s2, rfl, hh⟩ := xpI_ex h
  clear h
  have h := hh
  clear hh
  exact lv_ishr hx hb hdec (kN _ _ _ h hG hC H locs ls hP hS hl hlo ⟨trivial, hso.2.2⟩)
set_option maxHeartbeats 1000000 in
theorem xso_iushr {G : xG} {E : xE} {d : Nat} {Q : xP} {pc len : Nat} {tg : List Nat} {cst : xV} {r : List xT} {lv st : List xV} {μ : xM} {k : xK} {p : Program} {e : Env} {s : State} {m : MethodId} {args : Array Value} {below : List Frame} {meth : Method} {c : Code} (hE : xEok E)
    (kN : ∀ lv st μ, k r lv st μ → WS G E (d + 1) (p, e, s, m, args, below, meth, c) Q (pc + len) lv st μ)
    (kJ : ∀ t e' r', E.2.2.1.drop t = e' :: r' → ∀ lv st μ, k (E.2.2.1.drop t) lv st μ → WS G E (d + 1) (p, e, s, m, args, below, meth, c) Q e'.1 lv st μ)
    (hdec : decode E.2.1.2.1 pc = .ok ((.iushr), len)) (hch : xchk E (pc, (.iushr), len, tg, cst) = true)
    (h : xstep (MW G d) E Q (pc, (.iushr), len, tg, cst) r lv st μ k) : WS G E (d + 1) (p, e, s, m, args, below, meth, c) Q pc lv st μ := by
  intro hG hC H locs ls hP hS hl hlo hso
  obtain ⟨hx, hb, hr, hml, hown, hts, hK, hlocks⟩ := id hC
  have hD := xD_wld hG μ
  have htw : ∀ w, xin w → w.before args s = true := fun w hw => hts w (List.mem_cons_of_mem _ (xin_gw hw))
  simp only [xchk, decide_eq_true_eq] at hch
  subst hch
  obtain ⟨y, s1, rfl, hh⟩ := xpI_ex (show xpI st _ from h)
  clear h
  have h := hh
  clear hh
  obtain ⟨x, s2, rfl, hh⟩ := xpI_ex h
  clear h
  have h := hh
  clear hh
  exact lv_iushr hx hb hdec rfl (kN _ _ _ h hG hC H locs ls hP hS hl hlo ⟨trivial, hso.2.2⟩)
set_option maxHeartbeats 1000000 in
theorem xso_idiv {G : xG} {E : xE} {d : Nat} {Q : xP} {pc len : Nat} {tg : List Nat} {cst : xV} {r : List xT} {lv st : List xV} {μ : xM} {k : xK} {p : Program} {e : Env} {s : State} {m : MethodId} {args : Array Value} {below : List Frame} {meth : Method} {c : Code} (hE : xEok E)
    (kN : ∀ lv st μ, k r lv st μ → WS G E (d + 1) (p, e, s, m, args, below, meth, c) Q (pc + len) lv st μ)
    (kJ : ∀ t e' r', E.2.2.1.drop t = e' :: r' → ∀ lv st μ, k (E.2.2.1.drop t) lv st μ → WS G E (d + 1) (p, e, s, m, args, below, meth, c) Q e'.1 lv st μ)
    (hdec : decode E.2.1.2.1 pc = .ok ((.idiv), len)) (hch : xchk E (pc, (.idiv), len, tg, cst) = true)
    (h : xstep (MW G d) E Q (pc, (.idiv), len, tg, cst) r lv st μ k) : WS G E (d + 1) (p, e, s, m, args, below, meth, c) Q pc lv st μ := by
  intro hG hC H locs ls hP hS hl hlo hso
  obtain ⟨hx, hb, hr, hml, hown, hts, hK, hlocks⟩ := id hC
  have hD := xD_wld hG μ
  have htw : ∀ w, xin w → w.before args s = true := fun w hw => hts w (List.mem_cons_of_mem _ (xin_gw hw))
  simp only [xchk, decide_eq_true_eq] at hch
  subst hch
  obtain ⟨y, s1, rfl, hh⟩ := xpI_ex (show xpI st _ from h)
  clear h
  have h := hh
  clear hh
  obtain ⟨x, s2, rfl, hh⟩ := xpI_ex h
  clear h
  have h := hh
  clear hh
  exact lv_idiv hx hb hdec h.1 (kN _ _ _ h.2 hG hC H locs ls hP hS hl hlo ⟨trivial, hso.2.2⟩)
set_option maxHeartbeats 1000000 in
theorem xso_irem {G : xG} {E : xE} {d : Nat} {Q : xP} {pc len : Nat} {tg : List Nat} {cst : xV} {r : List xT} {lv st : List xV} {μ : xM} {k : xK} {p : Program} {e : Env} {s : State} {m : MethodId} {args : Array Value} {below : List Frame} {meth : Method} {c : Code} (hE : xEok E)
    (kN : ∀ lv st μ, k r lv st μ → WS G E (d + 1) (p, e, s, m, args, below, meth, c) Q (pc + len) lv st μ)
    (kJ : ∀ t e' r', E.2.2.1.drop t = e' :: r' → ∀ lv st μ, k (E.2.2.1.drop t) lv st μ → WS G E (d + 1) (p, e, s, m, args, below, meth, c) Q e'.1 lv st μ)
    (hdec : decode E.2.1.2.1 pc = .ok ((.irem), len)) (hch : xchk E (pc, (.irem), len, tg, cst) = true)
    (h : xstep (MW G d) E Q (pc, (.irem), len, tg, cst) r lv st μ k) : WS G E (d + 1) (p, e, s, m, args, below, meth, c) Q pc lv st μ := by
  intro hG hC H locs ls hP hS hl hlo hso
  obtain ⟨hx, hb, hr, hml, hown, hts, hK, hlocks⟩ := id hC
  have hD := xD_wld hG μ
  have htw : ∀ w, xin w → w.before args s = true := fun w hw => hts w (List.mem_cons_of_mem _ (xin_gw hw))
  simp only [xchk, decide_eq_true_eq] at hch
  subst hch
  obtain ⟨y, s1, rfl, hh⟩ := xpI_ex (show xpI st _ from h)
  clear h
  have h := hh
  clear hh
  obtain ⟨x, s2, rfl, hh⟩ := xpI_ex h
  clear h
  have h := hh
  clear hh
  exact lv_irem hx hb hdec h.1 (kN _ _ _ h.2 hG hC H locs ls hP hS hl hlo ⟨trivial, hso.2.2⟩)
set_option maxHeartbeats 1000000 in
theorem xso_ladd {G : xG} {E : xE} {d : Nat} {Q : xP} {pc len : Nat} {tg : List Nat} {cst : xV} {r : List xT} {lv st : List xV} {μ : xM} {k : xK} {p : Program} {e : Env} {s : State} {m : MethodId} {args : Array Value} {below : List Frame} {meth : Method} {c : Code} (hE : xEok E)
    (kN : ∀ lv st μ, k r lv st μ → WS G E (d + 1) (p, e, s, m, args, below, meth, c) Q (pc + len) lv st μ)
    (kJ : ∀ t e' r', E.2.2.1.drop t = e' :: r' → ∀ lv st μ, k (E.2.2.1.drop t) lv st μ → WS G E (d + 1) (p, e, s, m, args, below, meth, c) Q e'.1 lv st μ)
    (hdec : decode E.2.1.2.1 pc = .ok ((.ladd), len)) (hch : xchk E (pc, (.ladd), len, tg, cst) = true)
    (h : xstep (MW G d) E Q (pc, (.ladd), len, tg, cst) r lv st μ k) : WS G E (d + 1) (p, e, s, m, args, below, meth, c) Q pc lv st μ := by
  intro hG hC H locs ls hP hS hl hlo hso
  obtain ⟨hx, hb, hr, hml, hown, hts, hK, hlocks⟩ := id hC
  have hD := xD_wld hG μ
  have htw : ∀ w, xin w → w.before args s = true := fun w hw => hts w (List.mem_cons_of_mem _ (xin_gw hw))
  simp only [xchk, decide_eq_true_eq] at hch
  subst hch
  obtain ⟨y, s1, rfl, hh⟩ := xpL_ex (show xpL st _ from h)
  clear h
  have h := hh
  clear hh
  obtain ⟨x, s2, rfl, hh⟩ := xpL_ex h
  clear h
  have h := hh
  clear hh
  exact lv_ladd hx hb hdec (kN _ _ _ h hG hC H locs ls hP hS hl hlo ⟨trivial, hso.2.2⟩)
set_option maxHeartbeats 1000000 in
theorem xso_lsub {G : xG} {E : xE} {d : Nat} {Q : xP} {pc len : Nat} {tg : List Nat} {cst : xV} {r : List xT} {lv st : List xV} {μ : xM} {k : xK} {p : Program} {e : Env} {s : State} {m : MethodId} {args : Array Value} {below : List Frame} {meth : Method} {c : Code} (hE : xEok E)
    (kN : ∀ lv st μ, k r lv st μ → WS G E (d + 1) (p, e, s, m, args, below, meth, c) Q (pc + len) lv st μ)
    (kJ : ∀ t e' r', E.2.2.1.drop t = e' :: r' → ∀ lv st μ, k (E.2.2.1.drop t) lv st μ → WS G E (d + 1) (p, e, s, m, args, below, meth, c) Q e'.1 lv st μ)
    (hdec : decode E.2.1.2.1 pc = .ok ((.lsub), len)) (hch : xchk E (pc, (.lsub), len, tg, cst) = true)
    (h : xstep (MW G d) E Q (pc, (.lsub), len, tg, cst) r lv st μ k) : WS G E (d + 1) (p, e, s, m, args, below, meth, c) Q pc lv st μ := by
  intro hG hC H locs ls hP hS hl hlo hso
  obtain ⟨hx, hb, hr, hml, hown, hts, hK, hlocks⟩ := id hC
  have hD := xD_wld hG μ
  have htw : ∀ w, xin w → w.before args s = true := fun w hw => hts w (List.mem_cons_of_mem _ (xin_gw hw))
  simp only [xchk, decide_eq_true_eq] at hch
  subst hch
  obtain ⟨y, s1, rfl, hh⟩ := xpL_ex (show xpL st _ from h)
  clear h
  have h := hh
  clear hh
  obtain ⟨x, s2, rfl, hh⟩ := xpL_ex h
  clear h
  have h := hh
  clear hh
  exact lv_lsub hx hb hdec (kN _ _ _ h hG hC H locs ls hP hS hl hlo ⟨trivial, hso.2.2⟩)
set_option maxHeartbeats 1000000 in
theorem xso_land {G : xG} {E : xE} {d : Nat} {Q : xP} {pc len : Nat} {tg : List Nat} {cst : xV} {r : List xT} {lv st : List xV} {μ : xM} {k : xK} {p : Program} {e : Env} {s : State} {m : MethodId} {args : Array Value} {below : List Frame} {meth : Method} {c : Code} (hE : xEok E)
    (kN : ∀ lv st μ, k r lv st μ → WS G E (d + 1) (p, e, s, m, args, below, meth, c) Q (pc + len) lv st μ)
    (kJ : ∀ t e' r', E.2.2.1.drop t = e' :: r' → ∀ lv st μ, k (E.2.2.1.drop t) lv st μ → WS G E (d + 1) (p, e, s, m, args, below, meth, c) Q e'.1 lv st μ)
    (hdec : decode E.2.1.2.1 pc = .ok ((.land), len)) (hch : xchk E (pc, (.land), len, tg, cst) = true)
    (h : xstep (MW G d) E Q (pc, (.land), len, tg, cst) r lv st μ k) : WS G E (d + 1) (p, e, s, m, args, below, meth, c) Q pc lv st μ := by
  intro hG hC H locs ls hP hS hl hlo hso
  obtain ⟨hx, hb, hr, hml, hown, hts, hK, hlocks⟩ := id hC
  have hD := xD_wld hG μ
  have htw : ∀ w, xin w → w.before args s = true := fun w hw => hts w (List.mem_cons_of_mem _ (xin_gw hw))
  simp only [xchk, decide_eq_true_eq] at hch
  subst hch
  obtain ⟨y, s1, rfl, hh⟩ := xpL_ex (show xpL st _ from h)
  clear h
  have h := hh
  clear hh
  obtain ⟨x, s2, rfl, hh⟩ := xpL_ex h
  clear h
  have h := hh
  clear hh
  exact lv_land hx hb hdec (kN _ _ _ h hG hC H locs ls hP hS hl hlo ⟨trivial, hso.2.2⟩)
set_option maxHeartbeats 1000000 in
theorem xso_lor {G : xG} {E : xE} {d : Nat} {Q : xP} {pc len : Nat} {tg : List Nat} {cst : xV} {r : List xT} {lv st : List xV} {μ : xM} {k : xK} {p : Program} {e : Env} {s : State} {m : MethodId} {args : Array Value} {below : List Frame} {meth : Method} {c : Code} (hE : xEok E)
    (kN : ∀ lv st μ, k r lv st μ → WS G E (d + 1) (p, e, s, m, args, below, meth, c) Q (pc + len) lv st μ)
    (kJ : ∀ t e' r', E.2.2.1.drop t = e' :: r' → ∀ lv st μ, k (E.2.2.1.drop t) lv st μ → WS G E (d + 1) (p, e, s, m, args, below, meth, c) Q e'.1 lv st μ)
    (hdec : decode E.2.1.2.1 pc = .ok ((.lor), len)) (hch : xchk E (pc, (.lor), len, tg, cst) = true)
    (h : xstep (MW G d) E Q (pc, (.lor), len, tg, cst) r lv st μ k) : WS G E (d + 1) (p, e, s, m, args, below, meth, c) Q pc lv st μ := by
  intro hG hC H locs ls hP hS hl hlo hso
  obtain ⟨hx, hb, hr, hml, hown, hts, hK, hlocks⟩ := id hC
  have hD := xD_wld hG μ
  have htw : ∀ w, xin w → w.before args s = true := fun w hw => hts w (List.mem_cons_of_mem _ (xin_gw hw))
  simp only [xchk, decide_eq_true_eq] at hch
  subst hch
  obtain ⟨y, s1, rfl, hh⟩ := xpL_ex (show xpL st _ from h)
  clear h
  have h := hh
  clear hh
  obtain ⟨x, s2, rfl, hh⟩ := xpL_ex h
  clear h
  have h := hh
  clear hh
  exact lv_lor hx hb hdec (kN _ _ _ h hG hC H locs ls hP hS hl hlo ⟨trivial, hso.2.2⟩)
set_option maxHeartbeats 1000000 in
theorem xso_lcmp {G : xG} {E : xE} {d : Nat} {Q : xP} {pc len : Nat} {tg : List Nat} {cst : xV} {r : List xT} {lv st : List xV} {μ : xM} {k : xK} {p : Program} {e : Env} {s : State} {m : MethodId} {args : Array Value} {below : List Frame} {meth : Method} {c : Code} (hE : xEok E)
    (kN : ∀ lv st μ, k r lv st μ → WS G E (d + 1) (p, e, s, m, args, below, meth, c) Q (pc + len) lv st μ)
    (kJ : ∀ t e' r', E.2.2.1.drop t = e' :: r' → ∀ lv st μ, k (E.2.2.1.drop t) lv st μ → WS G E (d + 1) (p, e, s, m, args, below, meth, c) Q e'.1 lv st μ)
    (hdec : decode E.2.1.2.1 pc = .ok ((.lcmp), len)) (hch : xchk E (pc, (.lcmp), len, tg, cst) = true)
    (h : xstep (MW G d) E Q (pc, (.lcmp), len, tg, cst) r lv st μ k) : WS G E (d + 1) (p, e, s, m, args, below, meth, c) Q pc lv st μ := by
  intro hG hC H locs ls hP hS hl hlo hso
  obtain ⟨hx, hb, hr, hml, hown, hts, hK, hlocks⟩ := id hC
  have hD := xD_wld hG μ
  have htw : ∀ w, xin w → w.before args s = true := fun w hw => hts w (List.mem_cons_of_mem _ (xin_gw hw))
  simp only [xchk, decide_eq_true_eq] at hch
  subst hch
  obtain ⟨y, s1, rfl, hh⟩ := xpL_ex (show xpL st _ from h)
  clear h
  have h := hh
  clear hh
  obtain ⟨x, s2, rfl, hh⟩ := xpL_ex h
  clear h
  have h := hh
  clear hh
  exact W.lcmp hx hb hdec (kN _ _ _ h hG hC H locs ls hP hS hl hlo ⟨trivial, hso.2.2⟩)
set_option maxHeartbeats 1000000 in
theorem xso_lshl {G : xG} {E : xE} {d : Nat} {Q : xP} {pc len : Nat} {tg : List Nat} {cst : xV} {r : List xT} {lv st : List xV} {μ : xM} {k : xK} {p : Program} {e : Env} {s : State} {m : MethodId} {args : Array Value} {below : List Frame} {meth : Method} {c : Code} (hE : xEok E)
    (kN : ∀ lv st μ, k r lv st μ → WS G E (d + 1) (p, e, s, m, args, below, meth, c) Q (pc + len) lv st μ)
    (kJ : ∀ t e' r', E.2.2.1.drop t = e' :: r' → ∀ lv st μ, k (E.2.2.1.drop t) lv st μ → WS G E (d + 1) (p, e, s, m, args, below, meth, c) Q e'.1 lv st μ)
    (hdec : decode E.2.1.2.1 pc = .ok ((.lshl), len)) (hch : xchk E (pc, (.lshl), len, tg, cst) = true)
    (h : xstep (MW G d) E Q (pc, (.lshl), len, tg, cst) r lv st μ k) : WS G E (d + 1) (p, e, s, m, args, below, meth, c) Q pc lv st μ := by
  intro hG hC H locs ls hP hS hl hlo hso
  obtain ⟨hx, hb, hr, hml, hown, hts, hK, hlocks⟩ := id hC
  have hD := xD_wld hG μ
  have htw : ∀ w, xin w → w.before args s = true := fun w hw => hts w (List.mem_cons_of_mem _ (xin_gw hw))
  simp only [xchk, decide_eq_true_eq] at hch
  subst hch
  obtain ⟨y, s1, rfl, hh⟩ := xpI_ex (show xpI st _ from h)
  clear h
  have h := hh
  clear hh
  obtain ⟨x, s2, rfl, hh⟩ := xpL_ex h
  clear h
  have h := hh
  clear hh
  exact lv_lshl hx hb hdec rfl (kN _ _ _ h hG hC H locs ls hP hS hl hlo ⟨trivial, hso.2.2⟩)
set_option maxHeartbeats 1000000 in
theorem xso_lshr {G : xG} {E : xE} {d : Nat} {Q : xP} {pc len : Nat} {tg : List Nat} {cst : xV} {r : List xT} {lv st : List xV} {μ : xM} {k : xK} {p : Program} {e : Env} {s : State} {m : MethodId} {args : Array Value} {below : List Frame} {meth : Method} {c : Code} (hE : xEok E)
    (kN : ∀ lv st μ, k r lv st μ → WS G E (d + 1) (p, e, s, m, args, below, meth, c) Q (pc + len) lv st μ)
    (kJ : ∀ t e' r', E.2.2.1.drop t = e' :: r' → ∀ lv st μ, k (E.2.2.1.drop t) lv st μ → WS G E (d + 1) (p, e, s, m, args, below, meth, c) Q e'.1 lv st μ)
    (hdec : decode E.2.1.2.1 pc = .ok ((.lshr), len)) (hch : xchk E (pc, (.lshr), len, tg, cst) = true)
    (h : xstep (MW G d) E Q (pc, (.lshr), len, tg, cst) r lv st μ k) : WS G E (d + 1) (p, e, s, m, args, below, meth, c) Q pc lv st μ := by
  intro hG hC H locs ls hP hS hl hlo hso
  obtain ⟨hx, hb, hr, hml, hown, hts, hK, hlocks⟩ := id hC
  have hD := xD_wld hG μ
  have htw : ∀ w, xin w → w.before args s = true := fun w hw => hts w (List.mem_cons_of_mem _ (xin_gw hw))
  simp only [xchk, decide_eq_true_eq] at hch
  subst hch
  obtain ⟨y, s1, rfl, hh⟩ := xpI_ex (show xpI st _ from h)
  clear h
  have h := hh
  clear hh
  obtain ⟨x, s2, rfl, hh⟩ := xpL_ex h
  clear h
  have h := hh
  clear hh
  exact lv_lshr hx hb hdec rfl (kN _ _ _ h hG hC H locs ls hP hS hl hlo ⟨trivial, hso.2.2⟩)
set_option maxHeartbeats 1000000 in
theorem xso_lushr {G : xG} {E : xE} {d : Nat} {Q : xP} {pc len : Nat} {tg : List Nat} {cst : xV} {r : List xT} {lv st : List xV} {μ : xM} {k : xK} {p : Program} {e : Env} {s : State} {m : MethodId} {args : Array Value} {below : List Frame} {meth : Method} {c : Code} (hE : xEok E)
    (kN : ∀ lv st μ, k r lv st μ → WS G E (d + 1) (p, e, s, m, args, below, meth, c) Q (pc + len) lv st μ)
    (kJ : ∀ t e' r', E.2.2.1.drop t = e' :: r' → ∀ lv st μ, k (E.2.2.1.drop t) lv st μ → WS G E (d + 1) (p, e, s, m, args, below, meth, c) Q e'.1 lv st μ)
    (hdec : decode E.2.1.2.1 pc = .ok ((.lushr), len)) (hch : xchk E (pc, (.lushr), len, tg, cst) = true)
    (h : xstep (MW G d) E Q (pc, (.lushr), len, tg, cst) r lv st μ k) : WS G E (d + 1) (p, e, s, m, args, below, meth, c) Q pc lv st μ := by
  intro hG hC H locs ls hP hS hl hlo hso
  obtain ⟨hx, hb, hr, hml, hown, hts, hK, hlocks⟩ := id hC
  have hD := xD_wld hG μ
  have htw : ∀ w, xin w → w.before args s = true := fun w hw => hts w (List.mem_cons_of_mem _ (xin_gw hw))
  simp only [xchk, decide_eq_true_eq] at hch
  subst hch
  obtain ⟨y, s1, rfl, hh⟩ := xpI_ex (show xpI st _ from h)
  clear h
  have h := hh
  clear hh
  obtain ⟨x, s2, rfl, hh⟩ := xpL_ex h
  clear h
  have h := hh
  clear hh
  exact lv_lushr hx hb hdec rfl (kN _ _ _ h hG hC H locs ls hP hS hl hlo ⟨trivial, hso.2.2⟩)
set_option maxHeartbeats 1000000 in
theorem xso_ineg {G : xG} {E : xE} {d : Nat} {Q : xP} {pc len : Nat} {tg : List Nat} {cst : xV} {r : List xT} {lv st : List xV} {μ : xM} {k : xK} {p : Program} {e : Env} {s : State} {m : MethodId} {args : Array Value} {below : List Frame} {meth : Method} {c : Code} (hE : xEok E)
    (kN : ∀ lv st μ, k r lv st μ → WS G E (d + 1) (p, e, s, m, args, below, meth, c) Q (pc + len) lv st μ)
    (kJ : ∀ t e' r', E.2.2.1.drop t = e' :: r' → ∀ lv st μ, k (E.2.2.1.drop t) lv st μ → WS G E (d + 1) (p, e, s, m, args, below, meth, c) Q e'.1 lv st μ)
    (hdec : decode E.2.1.2.1 pc = .ok ((.ineg), len)) (hch : xchk E (pc, (.ineg), len, tg, cst) = true)
    (h : xstep (MW G d) E Q (pc, (.ineg), len, tg, cst) r lv st μ k) : WS G E (d + 1) (p, e, s, m, args, below, meth, c) Q pc lv st μ := by
  intro hG hC H locs ls hP hS hl hlo hso
  obtain ⟨hx, hb, hr, hml, hown, hts, hK, hlocks⟩ := id hC
  have hD := xD_wld hG μ
  have htw : ∀ w, xin w → w.before args s = true := fun w hw => hts w (List.mem_cons_of_mem _ (xin_gw hw))
  simp only [xchk, decide_eq_true_eq] at hch
  subst hch
  obtain ⟨x, s1, rfl, hh⟩ := xpI_ex (show xpI st _ from h)
  clear h
  have h := hh
  clear hh
  exact lv_ineg hx hb hdec (kN _ _ _ h hG hC H locs ls hP hS hl hlo ⟨trivial, hso.2⟩)
set_option maxHeartbeats 1000000 in
theorem xso_i2c {G : xG} {E : xE} {d : Nat} {Q : xP} {pc len : Nat} {tg : List Nat} {cst : xV} {r : List xT} {lv st : List xV} {μ : xM} {k : xK} {p : Program} {e : Env} {s : State} {m : MethodId} {args : Array Value} {below : List Frame} {meth : Method} {c : Code} (hE : xEok E)
    (kN : ∀ lv st μ, k r lv st μ → WS G E (d + 1) (p, e, s, m, args, below, meth, c) Q (pc + len) lv st μ)
    (kJ : ∀ t e' r', E.2.2.1.drop t = e' :: r' → ∀ lv st μ, k (E.2.2.1.drop t) lv st μ → WS G E (d + 1) (p, e, s, m, args, below, meth, c) Q e'.1 lv st μ)
    (hdec : decode E.2.1.2.1 pc = .ok ((.i2c), len)) (hch : xchk E (pc, (.i2c), len, tg, cst) = true)
    (h : xstep (MW G d) E Q (pc, (.i2c), len, tg, cst) r lv st μ k) : WS G E (d + 1) (p, e, s, m, args, below, meth, c) Q pc lv st μ := by
  intro hG hC H locs ls hP hS hl hlo hso
  obtain ⟨hx, hb, hr, hml, hown, hts, hK, hlocks⟩ := id hC
  have hD := xD_wld hG μ
  have htw : ∀ w, xin w → w.before args s = true := fun w hw => hts w (List.mem_cons_of_mem _ (xin_gw hw))
  simp only [xchk, decide_eq_true_eq] at hch
  subst hch
  obtain ⟨x, s1, rfl, hh⟩ := xpI_ex (show xpI st _ from h)
  clear h
  have h := hh
  clear hh
  exact lv_i2c hx hb hdec rfl (kN _ _ _ h hG hC H locs ls hP hS hl hlo ⟨trivial, hso.2⟩)
set_option maxHeartbeats 1000000 in
theorem xso_i2l {G : xG} {E : xE} {d : Nat} {Q : xP} {pc len : Nat} {tg : List Nat} {cst : xV} {r : List xT} {lv st : List xV} {μ : xM} {k : xK} {p : Program} {e : Env} {s : State} {m : MethodId} {args : Array Value} {below : List Frame} {meth : Method} {c : Code} (hE : xEok E)
    (kN : ∀ lv st μ, k r lv st μ → WS G E (d + 1) (p, e, s, m, args, below, meth, c) Q (pc + len) lv st μ)
    (kJ : ∀ t e' r', E.2.2.1.drop t = e' :: r' → ∀ lv st μ, k (E.2.2.1.drop t) lv st μ → WS G E (d + 1) (p, e, s, m, args, below, meth, c) Q e'.1 lv st μ)
    (hdec : decode E.2.1.2.1 pc = .ok ((.i2l), len)) (hch : xchk E (pc, (.i2l), len, tg, cst) = true)
    (h : xstep (MW G d) E Q (pc, (.i2l), len, tg, cst) r lv st μ k) : WS G E (d + 1) (p, e, s, m, args, below, meth, c) Q pc lv st μ := by
  intro hG hC H locs ls hP hS hl hlo hso
  obtain ⟨hx, hb, hr, hml, hown, hts, hK, hlocks⟩ := id hC
  have hD := xD_wld hG μ
  have htw : ∀ w, xin w → w.before args s = true := fun w hw => hts w (List.mem_cons_of_mem _ (xin_gw hw))
  simp only [xchk, decide_eq_true_eq] at hch
  subst hch
  obtain ⟨x, s1, rfl, hh⟩ := xpI_ex (show xpI st _ from h)
  clear h
  have h := hh
  clear hh
  exact lv_i2l hx hb hdec rfl (kN _ _ _ h hG hC H locs ls hP hS hl hlo ⟨trivial, hso.2⟩)
set_option maxHeartbeats 1000000 in
theorem xso_l2i {G : xG} {E : xE} {d : Nat} {Q : xP} {pc len : Nat} {tg : List Nat} {cst : xV} {r : List xT} {lv st : List xV} {μ : xM} {k : xK} {p : Program} {e : Env} {s : State} {m : MethodId} {args : Array Value} {below : List Frame} {meth : Method} {c : Code} (hE : xEok E)
    (kN : ∀ lv st μ, k r lv st μ → WS G E (d + 1) (p, e, s, m, args, below, meth, c) Q (pc + len) lv st μ)
    (kJ : ∀ t e' r', E.2.2.1.drop t = e' :: r' → ∀ lv st μ, k (E.2.2.1.drop t) lv st μ → WS G E (d + 1) (p, e, s, m, args, below, meth, c) Q e'.1 lv st μ)
    (hdec : decode E.2.1.2.1 pc = .ok ((.l2i), len)) (hch : xchk E (pc, (.l2i), len, tg, cst) = true)
    (h : xstep (MW G d) E Q (pc, (.l2i), len, tg, cst) r lv st μ k) : WS G E (d + 1) (p, e, s, m, args, below, meth, c) Q pc lv st μ := by
  intro hG hC H locs ls hP hS hl hlo hso
  obtain ⟨hx, hb, hr, hml, hown, hts, hK, hlocks⟩ := id hC
  have hD := xD_wld hG μ
  have htw : ∀ w, xin w → w.before args s = true := fun w hw => hts w (List.mem_cons_of_mem _ (xin_gw hw))
  simp only [xchk, decide_eq_true_eq] at hch
  subst hch
  obtain ⟨x, s1, rfl, hh⟩ := xpL_ex (show xpL st _ from h)
  clear h
  have h := hh
  clear hh
  exact lv_l2i hx hb hdec rfl (kN _ _ _ h hG hC H locs ls hP hS hl hlo ⟨trivial, hso.2⟩)
set_option maxHeartbeats 1000000 in
theorem xso_iinc {G : xG} {E : xE} {d : Nat} {Q : xP} {pc len : Nat} {tg : List Nat} {cst : xV} {r : List xT} {lv st : List xV} {μ : xM} {k : xK} {p : Program} {e : Env} {s : State} {m : MethodId} {args : Array Value} {below : List Frame} {meth : Method} {c : Code} (n : Nat) (q : Int) (hE : xEok E)
    (kN : ∀ lv st μ, k r lv st μ → WS G E (d + 1) (p, e, s, m, args, below, meth, c) Q (pc + len) lv st μ)
    (kJ : ∀ t e' r', E.2.2.1.drop t = e' :: r' → ∀ lv st μ, k (E.2.2.1.drop t) lv st μ → WS G E (d + 1) (p, e, s, m, args, below, meth, c) Q e'.1 lv st μ)
    (hdec : decode E.2.1.2.1 pc = .ok ((.iinc n q), len)) (hch : xchk E (pc, (.iinc n q), len, tg, cst) = true)
    (h : xstep (MW G d) E Q (pc, (.iinc n q), len, tg, cst) r lv st μ k) : WS G E (d + 1) (p, e, s, m, args, below, meth, c) Q pc lv st μ := by
  intro hG hC H locs ls hP hS hl hlo hso
  obtain ⟨hx, hb, hr, hml, hown, hts, hK, hlocks⟩ := id hC
  have hD := xD_wld hG μ
  have htw : ∀ w, xin w → w.before args s = true := fun w hw => hts w (List.mem_cons_of_mem _ (xin_gw hw))
  simp only [xchk, Bool.and_eq_true, decide_eq_true_eq] at hch
  obtain ⟨⟨hlen, hi, hlt⟩, hc⟩ := hch
  subst hlen
  subst hi
  obtain ⟨y, rfl, hh⟩ := xcI_ex (show xcI cst _ from h)
  clear h
  have h := hh
  clear hh
  obtain ⟨x, ex, h⟩ := xgI_ex h
  exact xw_iinc hx hb hl hlt hdec ex (of_decide_eq_true (show decide (Int32.ofInt q = y) = true from hc)) (fun ls' hl' => kN _ _ _ h hG hC H locs ls' hP hS hl' (xlok_set (xlok_clr hlo _) _ trivial) hso)
set_option maxHeartbeats 1000000 in
theorem xso_dup {G : xG} {E : xE} {d : Nat} {Q : xP} {pc len : Nat} {tg : List Nat} {cst : xV} {r : List xT} {lv st : List xV} {μ : xM} {k : xK} {p : Program} {e : Env} {s : State} {m : MethodId} {args : Array Value} {below : List Frame} {meth : Method} {c : Code} (hE : xEok E)
    (kN : ∀ lv st μ, k r lv st μ → WS G E (d + 1) (p, e, s, m, args, below, meth, c) Q (pc + len) lv st μ)
    (kJ : ∀ t e' r', E.2.2.1.drop t = e' :: r' → ∀ lv st μ, k (E.2.2.1.drop t) lv st μ → WS G E (d + 1) (p, e, s, m, args, below, meth, c) Q e'.1 lv st μ)
    (hdec : decode E.2.1.2.1 pc = .ok ((.dup), len)) (hch : xchk E (pc, (.dup), len, tg, cst) = true)
    (h : xstep (MW G d) E Q (pc, (.dup), len, tg, cst) r lv st μ k) : WS G E (d + 1) (p, e, s, m, args, below, meth, c) Q pc lv st μ := by
  intro hG hC H locs ls hP hS hl hlo hso
  obtain ⟨hx, hb, hr, hml, hown, hts, hK, hlocks⟩ := id hC
  have hD := xD_wld hG μ
  have htw : ∀ w, xin w → w.before args s = true := fun w hw => hts w (List.mem_cons_of_mem _ (xin_gw hw))
  simp only [xchk, decide_eq_true_eq] at hch
  subst hch
  rcases st with _ | ⟨x | x | _ | q, s1⟩
  · exact (show False from h).elim
  · exact lv_dup hx hb hdec rfl (kN _ _ _ h hG hC H locs ls hP hS hl hlo ⟨trivial, hso⟩)
  · exact (show False from h).elim
  · exact (show False from h).elim
  · exact lv_dup hx hb hdec rfl (kN _ _ _ h hG hC H locs ls hP hS hl hlo ⟨hso.1, hso⟩)
set_option maxHeartbeats 1000000 in
theorem xso_dup2 {G : xG} {E : xE} {d : Nat} {Q : xP} {pc len : Nat} {tg : List Nat} {cst : xV} {r : List xT} {lv st : List xV} {μ : xM} {k : xK} {p : Program} {e : Env} {s : State} {m : MethodId} {args : Array Value} {below : List Frame} {meth : Method} {c : Code} (hE : xEok E)
    (kN : ∀ lv st μ, k r lv st μ → WS G E (d + 1) (p, e, s, m, args, below, meth, c) Q (pc + len) lv st μ)
    (kJ : ∀ t e' r', E.2.2.1.drop t = e' :: r' → ∀ lv st μ, k (E.2.2.1.drop t) lv st μ → WS G E (d + 1) (p, e, s, m, args, below, meth, c) Q e'.1 lv st μ)
    (hdec : decode E.2.1.2.1 pc = .ok ((.dup2), len)) (hch : xchk E (pc, (.dup2), len, tg, cst) = true)
    (h : xstep (MW G d) E Q (pc, (.dup2), len, tg, cst) r lv st μ k) : WS G E (d + 1) (p, e, s, m, args, below, meth, c) Q pc lv st μ := by
  intro hG hC H locs ls hP hS hl hlo hso
  obtain ⟨hx, hb, hr, hml, hown, hts, hK, hlocks⟩ := id hC
  have hD := xD_wld hG μ
  have htw : ∀ w, xin w → w.before args s = true := fun w hw => hts w (List.mem_cons_of_mem _ (xin_gw hw))
  simp only [xchk, decide_eq_true_eq] at hch
  subst hch
  obtain ⟨x, s1, rfl, hh⟩ := xpI_ex (show xpI st _ from h)
  clear h
  have h := hh
  clear hh
  obtain ⟨q, s2, rfl, hh⟩ := xpR_ex h
  clear h
  have h := hh
  clear hh
  exact lv_dup2_11 hx hb hdec rfl rfl (kN _ _ _ h hG hC H locs ls hP hS hl hlo ⟨trivial, hso.2.1, hso⟩)
set_option maxHeartbeats 1000000 in
theorem xso_pop {G : xG} {E : xE} {d : Nat} {Q : xP} {pc len : Nat} {tg : List Nat} {cst : xV} {r : List xT} {lv st : List xV} {μ : xM} {k : xK} {p : Program} {e : Env} {s : State} {m : MethodId} {args : Array Value} {below : List Frame} {meth : Method} {c : Code} (hE : xEok E)
    (kN : ∀ lv st μ, k r lv st μ → WS G E (d + 1) (p, e, s, m, args, below, meth, c) Q (pc + len) lv st μ)
    (kJ : ∀ t e' r', E.2.2.1.drop t = e' :: r' → ∀ lv st μ, k (E.2.2.1.drop t) lv st μ → WS G E (d + 1) (p, e, s, m, args, below, meth, c) Q e'.1 lv st μ)
    (hdec : decode E.2.1.2.1 pc = .ok ((.pop), len)) (hch : xchk E (pc, (.pop), len, tg, cst) = true)
    (h : xstep (MW G d) E Q (pc, (.pop), len, tg, cst) r lv st μ k) : WS G E (d + 1) (p, e, s, m, args, below, meth, c) Q pc lv st μ := by
  intro hG hC H locs ls hP hS hl hlo hso
  obtain ⟨hx, hb, hr, hml, hown, hts, hK, hlocks⟩ := id hC
  have hD := xD_wld hG μ
  have htw : ∀ w, xin w → w.before args s = true := fun w hw => hts w (List.mem_cons_of_mem _ (xin_gw hw))
  simp only [xchk, decide_eq_true_eq] at hch
  subst hch
  obtain ⟨x, s1, rfl, hh⟩ := xpI_ex (show xpI st _ from h)
  clear h
  have h := hh
  clear hh
  exact lv_pop hx hb hdec rfl (kN _ _ _ h hG hC H locs ls hP hS hl hlo hso.2)
end
section
set_option maxHeartbeats 1000000 in
theorem xso_ifCond {G : xG} {E : xE} {d : Nat} {Q : xP} {pc len : Nat} {tg : List Nat} {cst : xV} {r : List xT} {lv st : List xV} {μ : xM} {k : xK} {p : Program} {e : Env} {s : State} {m : MethodId} {args : Array Value} {below : List Frame} {meth : Method} {c : Code} (cnd : ClassFile.Cond) (o : Int) (hE : xEok E)
    (kN : ∀ lv st μ, k r lv st μ → WS G E (d + 1) (p, e, s, m, args, below, meth, c) Q (pc + len) lv st μ)
    (kJ : ∀ t e' r', E.2.2.1.drop t = e' :: r' → ∀ lv st μ, k (E.2.2.1.drop t) lv st μ → WS G E (d + 1) (p, e, s, m, args, below, meth, c) Q e'.1 lv st μ)
    (hdec : decode E.2.1.2.1 pc = .ok ((.ifCond cnd o), len)) (hch : xchk E (pc, (.ifCond cnd o), len, tg, cst) = true)
    (h : xstep (MW G d) E Q (pc, (.ifCond cnd o), len, tg, cst) r lv st μ k) : WS G E (d + 1) (p, e, s, m, args, below, meth, c) Q pc lv st μ := by
  intro hG hC H locs ls hP hS hl hlo hso
  obtain ⟨hx, hb, hr, hml, hown, hts, hK, hlocks⟩ := id hC
  have hD := xD_wld hG μ
  have htw : ∀ w, xin w → w.before args s = true := fun w hw => hts w (List.mem_cons_of_mem _ (xin_gw hw))
  simp only [xchk, Bool.and_eq_true, decide_eq_true_eq] at hch
  obtain ⟨hlen, hc⟩ := hch
  subst hlen
  obtain ⟨e', r', he, ht⟩ := xtgt_ok hc
  cases cnd
  case eq =>
    obtain ⟨x, s1, rfl, hh⟩ := xpI_ex (show xpI st _ from h)
    clear h
    have h := hh
    clear hh
    exact lv_if_eq hx hb hdec ht (fun c1 => kJ _ e' r' he _ _ _ (h.1 c1) hG hC H locs ls hP hS hl hlo hso.2) (fun c1 => kN _ _ _ (h.2 c1) hG hC H locs ls hP hS hl hlo hso.2)
  case ne =>
    obtain ⟨x, s1, rfl, hh⟩ := xpI_ex (show xpI st _ from h)
    clear h
    have h := hh
    clear hh
    exact lv_if_ne hx hb hdec ht (fun c1 => kJ _ e' r' he _ _ _ (h.2 c1) hG hC H locs ls hP hS hl hlo hso.2) (fun c1 => kN _ _ _ (h.1 c1) hG hC H locs ls hP hS hl hlo hso.2)
  case lt =>
    obtain ⟨x, s1, rfl, hh⟩ := xpI_ex (show xpI st _ from h)
    clear h
    have h := hh
    clear hh
    exact lv_if_lt hx hb hdec ht (fun c1 => kJ _ e' r' he _ _ _ (h.1 c1) hG hC H locs ls hP hS hl hlo hso.2) (fun c1 => kN _ _ _ (h.2 c1) hG hC H locs ls hP hS hl hlo hso.2)
  case ge =>
    obtain ⟨x, s1, rfl, hh⟩ := xpI_ex (show xpI st _ from h)
    clear h
    have h := hh
    clear hh
    exact lv_if_ge hx hb hdec ht (fun c1 => kJ _ e' r' he _ _ _ (h.1 c1) hG hC H locs ls hP hS hl hlo hso.2) (fun c1 => kN _ _ _ (h.2 c1) hG hC H locs ls hP hS hl hlo hso.2)
  case gt =>
    obtain ⟨x, s1, rfl, hh⟩ := xpI_ex (show xpI st _ from h)
    clear h
    have h := hh
    clear hh
    exact lv_if_gt hx hb hdec ht (fun c1 => kJ _ e' r' he _ _ _ (h.1 c1) hG hC H locs ls hP hS hl hlo hso.2) (fun c1 => kN _ _ _ (h.2 c1) hG hC H locs ls hP hS hl hlo hso.2)
  case le =>
    obtain ⟨x, s1, rfl, hh⟩ := xpI_ex (show xpI st _ from h)
    clear h
    have h := hh
    clear hh
    exact lv_if_le hx hb hdec ht (fun c1 => kJ _ e' r' he _ _ _ (h.1 c1) hG hC H locs ls hP hS hl hlo hso.2) (fun c1 => kN _ _ _ (h.2 c1) hG hC H locs ls hP hS hl hlo hso.2)
set_option maxHeartbeats 1000000 in
theorem xso_if_icmp {G : xG} {E : xE} {d : Nat} {Q : xP} {pc len : Nat} {tg : List Nat} {cst : xV} {r : List xT} {lv st : List xV} {μ : xM} {k : xK} {p : Program} {e : Env} {s : State} {m : MethodId} {args : Array Value} {below : List Frame} {meth : Method} {c : Code} (cnd : ClassFile.Cond) (o : Int) (hE : xEok E)
    (kN : ∀ lv st μ, k r lv st μ → WS G E (d + 1) (p, e, s, m, args, below, meth, c) Q (pc + len) lv st μ)
    (kJ : ∀ t e' r', E.2.2.1.drop t = e' :: r' → ∀ lv st μ, k (E.2.2.1.drop t) lv st μ → WS G E (d + 1) (p, e, s, m, args, below, meth, c) Q e'.1 lv st μ)
    (hdec : decode E.2.1.2.1 pc = .ok ((.if_icmp cnd o), len)) (hch : xchk E (pc, (.if_icmp cnd o), len, tg, cst) = true)
    (h : xstep (MW G d) E Q (pc, (.if_icmp cnd o), len, tg, cst) r lv st μ k) : WS G E (d + 1) (p, e, s, m, args, below, meth, c) Q pc lv st μ := by
  intro hG hC H locs ls hP hS hl hlo hso
  obtain ⟨hx, hb, hr, hml, hown, hts, hK, hlocks⟩ := id hC
  have hD := xD_wld hG μ
  have htw : ∀ w, xin w → w.before args s = true := fun w hw => hts w (List.mem_cons_of_mem _ (xin_gw hw))
  simp only [xchk, Bool.and_eq_true, decide_eq_true_eq] at hch
  obtain ⟨hlen, hc⟩ := hch
  subst hlen
  obtain ⟨e', r', he, ht⟩ := xtgt_ok hc
  cases cnd
  case eq =>
    obtain ⟨y, s1, rfl, hh⟩ := xpI_ex (show xpI st _ from h)
    clear h
    have h := hh
    clear hh
    obtain ⟨x, s2, rfl, hh⟩ := xpI_ex h
    clear h
    have h := hh
    clear hh
    exact lv_icmp_eq hx hb hdec ht (fun c1 => kJ _ e' r' he _ _ _ (h.1 c1) hG hC H locs ls hP hS hl hlo hso.2.2) (fun c1 => kN _ _ _ (h.2 c1) hG hC H locs ls hP hS hl hlo hso.2.2)
  case ne =>
    obtain ⟨y, s1, rfl, hh⟩ := xpI_ex (show xpI st _ from h)
    clear h
    have h := hh
    clear hh
    obtain ⟨x, s2, rfl, hh⟩ := xpI_ex h
    clear h
    have h := hh
    clear hh
    exact lv_icmp_ne hx hb hdec ht (fun c1 => kJ _ e' r' he _ _ _ (h.2 c1) hG hC H locs ls hP hS hl hlo hso.2.2) (fun c1 => kN _ _ _ (h.1 c1) hG hC H locs ls hP hS hl hlo hso.2.2)
  case lt =>
    obtain ⟨y, s1, rfl, hh⟩ := xpI_ex (show xpI st _ from h)
    clear h
    have h := hh
    clear hh
    obtain ⟨x, s2, rfl, hh⟩ := xpI_ex h
    clear h
    have h := hh
    clear hh
    exact lv_icmp_lt hx hb hdec ht (fun c1 => kJ _ e' r' he _ _ _ (h.1 c1) hG hC H locs ls hP hS hl hlo hso.2.2) (fun c1 => kN _ _ _ (h.2 c1) hG hC H locs ls hP hS hl hlo hso.2.2)
  case ge =>
    obtain ⟨y, s1, rfl, hh⟩ := xpI_ex (show xpI st _ from h)
    clear h
    have h := hh
    clear hh
    obtain ⟨x, s2, rfl, hh⟩ := xpI_ex h
    clear h
    have h := hh
    clear hh
    exact lv_icmp_ge hx hb hdec ht (fun c1 => kJ _ e' r' he _ _ _ (h.1 c1) hG hC H locs ls hP hS hl hlo hso.2.2) (fun c1 => kN _ _ _ (h.2 c1) hG hC H locs ls hP hS hl hlo hso.2.2)
  case gt =>
    obtain ⟨y, s1, rfl, hh⟩ := xpI_ex (show xpI st _ from h)
    clear h
    have h := hh
    clear hh
    obtain ⟨x, s2, rfl, hh⟩ := xpI_ex h
    clear h
    have h := hh
    clear hh
    exact lv_icmp_gt hx hb hdec ht (fun c1 => kJ _ e' r' he _ _ _ (h.1 c1) hG hC H locs ls hP hS hl hlo hso.2.2) (fun c1 => kN _ _ _ (h.2 c1) hG hC H locs ls hP hS hl hlo hso.2.2)
  case le =>
    obtain ⟨y, s1, rfl, hh⟩ := xpI_ex (show xpI st _ from h)
    clear h
    have h := hh
    clear hh
    obtain ⟨x, s2, rfl, hh⟩ := xpI_ex h
    clear h
    have h := hh
    clear hh
    exact lv_icmp_le hx hb hdec ht (fun c1 => kJ _ e' r' he _ _ _ (h.1 c1) hG hC H locs ls hP hS hl hlo hso.2.2) (fun c1 => kN _ _ _ (h.2 c1) hG hC H locs ls hP hS hl hlo hso.2.2)
set_option maxHeartbeats 1000000 in
theorem xso_ifnull {G : xG} {E : xE} {d : Nat} {Q : xP} {pc len : Nat} {tg : List Nat} {cst : xV} {r : List xT} {lv st : List xV} {μ : xM} {k : xK} {p : Program} {e : Env} {s : State} {m : MethodId} {args : Array Value} {below : List Frame} {meth : Method} {c : Code} (o : Int) (hE : xEok E)
    (kN : ∀ lv st μ, k r lv st μ → WS G E (d + 1) (p, e, s, m, args, below, meth, c) Q (pc + len) lv st μ)
    (kJ : ∀ t e' r', E.2.2.1.drop t = e' :: r' → ∀ lv st μ, k (E.2.2.1.drop t) lv st μ → WS G E (d + 1) (p, e, s, m, args, below, meth, c) Q e'.1 lv st μ)
    (hdec : decode E.2.1.2.1 pc = .ok ((.ifnull o), len)) (hch : xchk E (pc, (.ifnull o), len, tg, cst) = true)
    (h : xstep (MW G d) E Q (pc, (.ifnull o), len, tg, cst) r lv st μ k) : WS G E (d + 1) (p, e, s, m, args, below, meth, c) Q pc lv st μ := by
  intro hG hC H locs ls hP hS hl hlo hso
  obtain ⟨hx, hb, hr, hml, hown, hts, hK, hlocks⟩ := id hC
  have hD := xD_wld hG μ
  have htw : ∀ w, xin w → w.before args s = true := fun w hw => hts w (List.mem_cons_of_mem _ (xin_gw hw))
  simp only [xchk, decide_eq_true_eq] at hch
  subst hch
  obtain ⟨q, s1, rfl, hh⟩ := xpR_ex (show xpR st _ from h)
  clear h
  have h := hh
  clear hh
  exact lv_ifnull hx hb hdec (kN _ _ _ h hG hC H locs ls hP hS hl hlo hso.2)
set_option maxHeartbeats 1000000 in
theorem xso_goto {G : xG} {E : xE} {d : Nat} {Q : xP} {pc len : Nat} {tg : List Nat} {cst : xV} {r : List xT} {lv st : List xV} {μ : xM} {k : xK} {p : Program} {e : Env} {s : State} {m : MethodId} {args : Array Value} {below : List Frame} {meth : Method} {c : Code} (o : Int) (hE : xEok E)
    (kN : ∀ lv st μ, k r lv st μ → WS G E (d + 1) (p, e, s, m, args, below, meth, c) Q (pc + len) lv st μ)
    (kJ : ∀ t e' r', E.2.2.1.drop t = e' :: r' → ∀ lv st μ, k (E.2.2.1.drop t) lv st μ → WS G E (d + 1) (p, e, s, m, args, below, meth, c) Q e'.1 lv st μ)
    (hdec : decode E.2.1.2.1 pc = .ok ((.goto o), len)) (hch : xchk E (pc, (.goto o), len, tg, cst) = true)
    (h : xstep (MW G d) E Q (pc, (.goto o), len, tg, cst) r lv st μ k) : WS G E (d + 1) (p, e, s, m, args, below, meth, c) Q pc lv st μ := by
  intro hG hC H locs ls hP hS hl hlo hso
  obtain ⟨hx, hb, hr, hml, hown, hts, hK, hlocks⟩ := id hC
  have hD := xD_wld hG μ
  have htw : ∀ w, xin w → w.before args s = true := fun w hw => hts w (List.mem_cons_of_mem _ (xin_gw hw))
  simp only [xchk, Bool.and_eq_true, decide_eq_true_eq] at hch
  obtain ⟨hlen, hc⟩ := hch
  subst hlen
  obtain ⟨e', r', he, ht⟩ := xtgt_ok hc
  exact lv_goto hx hb hdec ht (kJ _ e' r' he _ _ _ h hG hC H locs ls hP hS hl hlo hso)
set_option maxHeartbeats 1000000 in
theorem xso_tableswitch {G : xG} {E : xE} {d : Nat} {Q : xP} {pc len : Nat} {tg : List Nat} {cst : xV} {r : List xT} {lv st : List xV} {μ : xM} {k : xK} {p : Program} {e : Env} {s : State} {m : MethodId} {args : Array Value} {below : List Frame} {meth : Method} {c : Code} (dd lo hi : Int) (offs : Array Int) (hE : xEok E)
    (kN : ∀ lv st μ, k r lv st μ → WS G E (d + 1) (p, e, s, m, args, below, meth, c) Q (pc + len) lv st μ)
    (kJ : ∀ t e' r', E.2.2.1.drop t = e' :: r' → ∀ lv st μ, k (E.2.2.1.drop t) lv st μ → WS G E (d + 1) (p, e, s, m, args, below, meth, c) Q e'.1 lv st μ)
    (hdec : decode E.2.1.2.1 pc = .ok ((.tableswitch dd lo hi offs), len)) (hch : xchk E (pc, (.tableswitch dd lo hi offs), len, tg, cst) = true)
    (h : xstep (MW G d) E Q (pc, (.tableswitch dd lo hi offs), len, tg, cst) r lv st μ k) : WS G E (d + 1) (p, e, s, m, args, below, meth, c) Q pc lv st μ := by
  intro hG hC H locs ls hP hS hl hlo hso
  obtain ⟨hx, hb, hr, hml, hown, hts, hK, hlocks⟩ := id hC
  have hD := xD_wld hG μ
  have htw : ∀ w, xin w → w.before args s = true := fun w hw => hts w (List.mem_cons_of_mem _ (xin_gw hw))
  rcases tg with _ | ⟨t, ts⟩
  · simp [xchk] at hch
  simp only [xchk, Bool.and_eq_true, decide_eq_true_eq] at hch
  obtain ⟨⟨hd1, hts1⟩, hsz, hlo1, hhi1⟩ := hch
  obtain ⟨x, s1, rfl, hh⟩ := xpI_ex (show xpI st _ from h)
  clear h
  have h := hh
  clear hh
  obtain ⟨hlen1, hget⟩ := xtgts_get _ _ hts1
  have hlen2 : offs.size = ts.length := by simpa using hlen1
  have h : xtsw x lo ts _ _ := h
  rcases xtsw_ex ts lo h with ⟨j, t', e1, e2, e3⟩ | ⟨e1, e2⟩
  · obtain ⟨o, ho, hot⟩ := hget j t' e1
    obtain ⟨e', r', he, ht⟩ := xtgt_ok hot
    have hj : j < ts.length := (List.getElem?_eq_some_iff.mp e1).1
    have hxi : x.toInt = lo + (j : Int) := xofI e2 (by omega) (by omega)
    refine lv_tableIn hx hb hdec (by rw [hxi]; omega) (by rw [hxi]; omega) (off := o) ?_ ht (kJ _ e' r' he _ _ _ e3 hG hC H locs ls hP hS hl hlo hso.2)
    rw [hxi, show lo + (j : Int) - lo = (j : Int) by omega, Int.toNat_natCast]
    simpa using ho
  · obtain ⟨e', r', he, ht⟩ := xtgt_ok hd1
    refine lv_tableOut hx hb hdec ?_ ht (kJ _ e' r' he _ _ _ e2 hG hC H locs ls hP hS hl hlo hso.2)
    rcases Int.lt_or_le x.toInt lo with q | q
    · exact Or.inl q
    · rcases Int.lt_or_le hi x.toInt with q2 | q2
      · exact Or.inr q2
      · exfalso
        refine e1 (x.toInt - lo).toNat (by omega) ?_
        rw [show lo + ((x.toInt - lo).toNat : Int) = x.toInt by omega]
        exact (Int32.ofInt_toInt x).symm
set_option maxHeartbeats 1000000 in
theorem xso_lookupswitch {G : xG} {E : xE} {d : Nat} {Q : xP} {pc len : Nat} {tg : List Nat} {cst : xV} {r : List xT} {lv st : List xV} {μ : xM} {k : xK} {p : Program} {e : Env} {s : State} {m : MethodId} {args : Array Value} {below : List Frame} {meth : Method} {c : Code} (dd : Int) (ps : Array (Int × Int)) (hE : xEok E)
    (kN : ∀ lv st μ, k r lv st μ → WS G E (d + 1) (p, e, s, m, args, below, meth, c) Q (pc + len) lv st μ)
    (kJ : ∀ t e' r', E.2.2.1.drop t = e' :: r' → ∀ lv st μ, k (E.2.2.1.drop t) lv st μ → WS G E (d + 1) (p, e, s, m, args, below, meth, c) Q e'.1 lv st μ)
    (hdec : decode E.2.1.2.1 pc = .ok ((.lookupswitch dd ps), len)) (hch : xchk E (pc, (.lookupswitch dd ps), len, tg, cst) = true)
    (h : xstep (MW G d) E Q (pc, (.lookupswitch dd ps), len, tg, cst) r lv st μ k) : WS G E (d + 1) (p, e, s, m, args, below, meth, c) Q pc lv st μ := by
  intro hG hC H locs ls hP hS hl hlo hso
  obtain ⟨hx, hb, hr, hml, hown, hts, hK, hlocks⟩ := id hC
  have hD := xD_wld hG μ
  have htw : ∀ w, xin w → w.before args s = true := fun w hw => hts w (List.mem_cons_of_mem _ (xin_gw hw))
  rcases tg with _ | ⟨t, ts⟩
  · simp [xchk] at hch
  simp only [xchk, Bool.and_eq_true] at hch
  obtain ⟨⟨⟨hd1, hts1⟩, hky⟩, hsrt⟩ := hch
  obtain ⟨x, s1, rfl, hh⟩ := xpI_ex (show xpI st _ from h)
  clear h
  have h := hh
  clear hh
  have h : xlsw x ps.toList ts _ _ := h
  rcases xlsw_ex (d := dd) ps.toList ts hts1 hky h with ⟨o, t', e1, e2, e3⟩ | ⟨e1, e2⟩
  · obtain ⟨e', r', he, ht⟩ := xtgt_ok e2
    exact lv_lookup hx hb hdec hsrt e1 ht (kJ _ e' r' he _ _ _ e3 hG hC H locs ls hP hS hl hlo hso.2)
  · obtain ⟨e', r', he, ht⟩ := xtgt_ok hd1
    exact lv_lookup hx hb hdec hsrt e1 ht (kJ _ e' r' he _ _ _ e2 hG hC H locs ls hP hS hl hlo hso.2)
end
section
set_option maxHeartbeats 1000000 in
theorem xso_getfield {G : xG} {E : xE} {d : Nat} {Q : xP} {pc len : Nat} {tg : List Nat} {cst : xV} {r : List xT} {lv st : List xV} {μ : xM} {k : xK} {p : Program} {e : Env} {s : State} {m : MethodId} {args : Array Value} {below : List Frame} {meth : Method} {c : Code} (n : Nat) (hE : xEok E)
    (kN : ∀ lv st μ, k r lv st μ → WS G E (d + 1) (p, e, s, m, args, below, meth, c) Q (pc + len) lv st μ)
    (kJ : ∀ t e' r', E.2.2.1.drop t = e' :: r' → ∀ lv st μ, k (E.2.2.1.drop t) lv st μ → WS G E (d + 1) (p, e, s, m, args, below, meth, c) Q e'.1 lv st μ)
    (hdec : decode E.2.1.2.1 pc = .ok ((.getfield n), len)) (hch : xchk E (pc, (.getfield n), len, tg, cst) = true)
    (h : xstep (MW G d) E Q (pc, (.getfield n), len, tg, cst) r lv st μ k) : WS G E (d + 1) (p, e, s, m, args, below, meth, c) Q pc lv st μ := by
  intro hG hC H locs ls hP hS hl hlo hso
  obtain ⟨hx, hb, hr, hml, hown, hts, hK, hlocks⟩ := id hC
  have hD := xD_wld hG μ
  have htw : ∀ w, xin w → w.before args s = true := fun w hw => hts w (List.mem_cons_of_mem _ (xin_gw hw))
  simp only [xchk, Bool.and_eq_true, decide_eq_true_eq] at hch
  obtain ⟨hlen, hc⟩ := hch
  subst hlen
  obtain ⟨f, hf, ef⟩ := List.any_eq_true.mp hc
  obtain ⟨e1, e2, e3⟩ := of_decide_eq_true ef
  obtain ⟨C, T, N, hc1, hkN, hlink, -⟩ := hE.2.2.2.1.1 f hf
  rw [e2] at hc1
  rw [e3] at hkN
  rw [e1, e3] at hlink
  obtain ⟨hu, -, -⟩ := xcl_ok _ C T N hc1
  obtain ⟨q, s1, rfl, hh⟩ := xpR_ex (show xpR st _ from h)
  clear h
  have h := hh
  clear hh
  obtain ⟨fs, ho, h⟩ := xfld_ex h
  have hq : xok q = true := hso.1
  obtain ⟨n1, hn1, hw1⟩ := xwld_get (ad := G.2.1) (cA := G.2.2.2) μ hq
  rw [xcell_obj ho] at hw1
  rcases h with ⟨hk, h⟩ | ⟨r1, hk, h⟩
  · exact va_get (D := G.2.2.1) (v := .int (μ q (xt1 tg))) hx hb hts (fun w hw => List.mem_cons_of_mem _ (xin_gw (hu w hw))) hown hK hP n1 hw1 hc1 _ hkN (htw _ hlink) (fun _ h9 => h9) (by have := xfs_int (ad := G.2.1) (f := μ q) fs 0 _ hk; rwa [Nat.zero_add] at this) hdec (kN _ _ _ h hG hC H locs ls hP hS hl hlo ⟨trivial, hso.2⟩)
  · exact va_get (D := G.2.2.1) (v := .ref (G.2.1 r1)) hx hb hts (fun w hw => List.mem_cons_of_mem _ (xin_gw (hu w hw))) hown hK hP n1 hw1 hc1 _ hkN (htw _ hlink) (fun _ h9 => h9) (xfs_ref fs 0 _ hk) hdec (kN _ _ _ h hG hC H locs ls hP hS hl hlo ⟨xobj_ok hq ho (List.mem_of_getElem? hk), hso.2⟩)
set_option maxHeartbeats 1000000 in
theorem xso_putfield {G : xG} {E : xE} {d : Nat} {Q : xP} {pc len : Nat} {tg : List Nat} {cst : xV} {r : List xT} {lv st : List xV} {μ : xM} {k : xK} {p : Program} {e : Env} {s : State} {m : MethodId} {args : Array Value} {below : List Frame} {meth : Method} {c : Code} (n : Nat) (hE : xEok E)
    (kN : ∀ lv st μ, k r lv st μ → WS G E (d + 1) (p, e, s, m, args, below, meth, c) Q (pc + len) lv st μ)
    (kJ : ∀ t e' r', E.2.2.1.drop t = e' :: r' → ∀ lv st μ, k (E.2.2.1.drop t) lv st μ → WS G E (d + 1) (p, e, s, m, args, below, meth, c) Q e'.1 lv st μ)
    (hdec : decode E.2.1.2.1 pc = .ok ((.putfield n), len)) (hch : xchk E (pc, (.putfield n), len, tg, cst) = true)
    (h : xstep (MW G d) E Q (pc, (.putfield n), len, tg, cst) r lv st μ k) : WS G E (d + 1) (p, e, s, m, args, below, meth, c) Q pc lv st μ := by
  intro hG hC H locs ls hP hS hl hlo hso
  obtain ⟨hx, hb, hr, hml, hown, hts, hK, hlocks⟩ := id hC
  have hD := xD_wld hG μ
  have htw : ∀ w, xin w → w.before args s = true := fun w hw => hts w (List.mem_cons_of_mem _ (xin_gw hw))
  simp only [xchk, Bool.and_eq_true, decide_eq_true_eq] at hch
  obtain ⟨hlen, hc⟩ := hch
  subst hlen
  obtain ⟨f, hf, ef⟩ := List.any_eq_true.mp hc
  obtain ⟨e1, e2, e3, e4⟩ := of_decide_eq_true ef
  obtain ⟨C, T, N, hc1, hkN, hlink, hkI, hkZ⟩ := hE.2.2.2.1.1 f hf
  rw [e2] at hc1
  rw [e3] at hkN hkI hkZ
  rw [e1, e3] at hlink
  obtain ⟨hu, ⟨ty0, hty⟩, hnm⟩ := xcl_ok _ C T N hc1
  obtain ⟨x, s0, rfl, hh⟩ := xpI_ex (show xpI st _ from h)
  clear h
  have h := hh
  clear hh
  obtain ⟨q, s1, rfl, hh⟩ := xpR_ex h
  clear h
  have h := hh
  clear hh
  obtain ⟨fs, ho, h⟩ := xfld_ex h
  have hq : xok q = true := hso.2.1
  obtain ⟨n1, hn1, hw1⟩ := xwld_get (ad := G.2.1) (cA := G.2.2.2) μ hq
  rw [xcell_obj ho] at hw1
  rcases h with ⟨hk, h⟩ | ⟨r1, hk, h⟩
  · have hkl : xt1 tg < (xfs G.2.1 (μ q) 0 fs).length := by rw [xfs_len]; exact (List.getElem?_eq_some_iff.mp hk).1
    have key : ∀ (ty : FieldType), (T (xt1 tg)).2.2.2 = false → parseFieldDescriptor (T (xt1 tg)).2.2.1 = some ty → narrow ty (.int x) = .int x → fits ty (.int x) = true → k r lv s1 (xst μ q (xt1 tg) x) → W p G.1 e (xrm (d + 1)) s m args below meth c H locs 0 0 (MQ below (xQc G Q) args s 0 0 (xA G.2.1)) (F0 m pc ls ((vI x :: vR q :: s1).map (xrv G.2.1))) := by
      intro ty h1 h2 h3 h4 h5
      refine va_put (D := G.2.2.1) (v := .int x) (ty := ty) hx hb hts (fun w hw => List.mem_cons_of_mem _ (xin_gw (hu w hw))) ty0 hty hnm hown hK hP hD hS n1 hw1 hc1 _ hkN (htw _ hlink) (fun _ h9 => h9) h1 h2 h3 h4 hkl hdec (fun H1 locs1 hP1 hD1 hS1 => ?_)
      rw [xwld_put hn1 ho hk] at hP1
      exact kN _ _ _ h5 hG hC H1 locs1 ls hP1 hS1 hl hlo hso.2.2
    rcases cst with v | v
    · obtain ⟨h1, h2⟩ := hkZ e4
      have h : (x = 0 ∨ x = 1) ∧ k r lv s1 (xst μ q (xt1 tg) x) := h
      refine key .boolean h1 (by rw [h2]; decide +kernel) ?_ ?_ h.2 <;> rcases h.1 with rfl | rfl <;> rfl
    · obtain ⟨h1, h2⟩ := hkI e4
      exact key .int h1 (by rw [h2]; decide +kernel) rfl rfl h
  · exact h.elim
set_option maxHeartbeats 1000000 in
theorem xso_arraylength {G : xG} {E : xE} {d : Nat} {Q : xP} {pc len : Nat} {tg : List Nat} {cst : xV} {r : List xT} {lv st : List xV} {μ : xM} {k : xK} {p : Program} {e : Env} {s : State} {m : MethodId} {args : Array Value} {below : List Frame} {meth : Method} {c : Code} (hE : xEok E)
    (kN : ∀ lv st μ, k r lv st μ → WS G E (d + 1) (p, e, s, m, args, below, meth, c) Q (pc + len) lv st μ)
    (kJ : ∀ t e' r', E.2.2.1.drop t = e' :: r' → ∀ lv st μ, k (E.2.2.1.drop t) lv st μ → WS G E (d + 1) (p, e, s, m, args, below, meth, c) Q e'.1 lv st μ)
    (hdec : decode E.2.1.2.1 pc = .ok ((.arraylength), len)) (hch : xchk E (pc, (.arraylength), len, tg, cst) = true)
    (h : xstep (MW G d) E Q (pc, (.arraylength), len, tg, cst) r lv st μ k) : WS G E (d + 1) (p, e, s, m, args, below, meth, c) Q pc lv st μ := by
  intro hG hC H locs ls hP hS hl hlo hso
  obtain ⟨hx, hb, hr, hml, hown, hts, hK, hlocks⟩ := id hC
  have hD := xD_wld hG μ
  have htw : ∀ w, xin w → w.before args s = true := fun w hw => hts w (List.mem_cons_of_mem _ (xin_gw hw))
  simp only [xchk, decide_eq_true_eq] at hch
  subst hch
  obtain ⟨q, s1, rfl, hh⟩ := xpR_ex (show xpR st _ from h)
  clear h
  have h := hh
  clear hh
  obtain ⟨t, ty, x, hcl, htys, h⟩ := xal_ex (ad := G.2.1) (cA := G.2.2.2) (μ := μ) h
  have hq : xok q = true := hso.1
  obtain ⟨n1, hn1, hw1⟩ := xwld_get (ad := G.2.1) (cA := G.2.2.2) μ hq
  rw [hcl] at hw1
  exact va_alen hx hb hK hP n1 t hw1 htys rfl hdec (kN _ _ _ h hG hC H locs ls hP hS hl hlo ⟨trivial, hso.2⟩)
set_option maxHeartbeats 1000000 in
theorem xso_iaload {G : xG} {E : xE} {d : Nat} {Q : xP} {pc len : Nat} {tg : List Nat} {cst : xV} {r : List xT} {lv st : List xV} {μ : xM} {k : xK} {p : Program} {e : Env} {s : State} {m : MethodId} {args : Array Value} {below : List Frame} {meth : Method} {c : Code} (hE : xEok E)
    (kN : ∀ lv st μ, k r lv st μ → WS G E (d + 1) (p, e, s, m, args, below, meth, c) Q (pc + len) lv st μ)
    (kJ : ∀ t e' r', E.2.2.1.drop t = e' :: r' → ∀ lv st μ, k (E.2.2.1.drop t) lv st μ → WS G E (d + 1) (p, e, s, m, args, below, meth, c) Q e'.1 lv st μ)
    (hdec : decode E.2.1.2.1 pc = .ok ((.iaload), len)) (hch : xchk E (pc, (.iaload), len, tg, cst) = true)
    (h : xstep (MW G d) E Q (pc, (.iaload), len, tg, cst) r lv st μ k) : WS G E (d + 1) (p, e, s, m, args, below, meth, c) Q pc lv st μ := by
  intro hG hC H locs ls hP hS hl hlo hso
  obtain ⟨hx, hb, hr, hml, hown, hts, hK, hlocks⟩ := id hC
  have hD := xD_wld hG μ
  have htw : ∀ w, xin w → w.before args s = true := fun w hw => hts w (List.mem_cons_of_mem _ (xin_gw hw))
  simp only [xchk, decide_eq_true_eq] at hch
  subst hch
  obtain ⟨j, s1, rfl, hh⟩ := xpI_ex (show xpI st _ from h)
  clear h
  have h := hh
  clear hh
  obtain ⟨q, s2, rfl, hh⟩ := xpR_ex h
  clear h
  have h := hh
  clear hh
  obtain ⟨n, ha, hin, h⟩ := xax_ex h
  have hq : xok q = true := hso.2.1
  obtain ⟨n1, hn1, hw1⟩ := xwld_get (ad := G.2.1) (cA := G.2.2.2) μ hq
  rw [xcell_arr ha] at hw1
  exact va_iald hx hb hK hP n1 0 hw1 rfl hin hdec (kN _ _ _ h hG hC H locs ls hP hS hl hlo ⟨trivial, hso.2.2⟩)
set_option maxHeartbeats 1000000 in
theorem xso_baload {G : xG} {E : xE} {d : Nat} {Q : xP} {pc len : Nat} {tg : List Nat} {cst : xV} {r : List xT} {lv st : List xV} {μ : xM} {k : xK} {p : Program} {e : Env} {s : State} {m : MethodId} {args : Array Value} {below : List Frame} {meth : Method} {c : Code} (hE : xEok E)
    (kN : ∀ lv st μ, k r lv st μ → WS G E (d + 1) (p, e, s, m, args, below, meth, c) Q (pc + len) lv st μ)
    (kJ : ∀ t e' r', E.2.2.1.drop t = e' :: r' → ∀ lv st μ, k (E.2.2.1.drop t) lv st μ → WS G E (d + 1) (p, e, s, m, args, below, meth, c) Q e'.1 lv st μ)
    (hdec : decode E.2.1.2.1 pc = .ok ((.baload), len)) (hch : xchk E (pc, (.baload), len, tg, cst) = true)
    (h : xstep (MW G d) E Q (pc, (.baload), len, tg, cst) r lv st μ k) : WS G E (d + 1) (p, e, s, m, args, below, meth, c) Q pc lv st μ := by
  intro hG hC H locs ls hP hS hl hlo hso
  obtain ⟨hx, hb, hr, hml, hown, hts, hK, hlocks⟩ := id hC
  have hD := xD_wld hG μ
  have htw : ∀ w, xin w → w.before args s = true := fun w hw => hts w (List.mem_cons_of_mem _ (xin_gw hw))
  simp only [xchk, decide_eq_true_eq] at hch
  subst hch
  obtain ⟨j, s1, rfl, hh⟩ := xpI_ex (show xpI st _ from h)
  clear h
  have h := hh
  clear hh
  obtain ⟨q, s2, rfl, hh⟩ := xpR_ex h
  clear h
  have h := hh
  clear hh
  obtain ⟨n, ha, hin, h⟩ := xax_ex h
  have hq : xok q = true := hso.2.1
  obtain ⟨n1, hn1, hw1⟩ := xwld_get (ad := G.2.1) (cA := G.2.2.2) μ hq
  rw [xcell_arr ha] at hw1
  exact va_zald hx hb hK hP n1 1 hw1 rfl hin hdec (kN _ _ _ h hG hC H locs ls hP hS hl hlo ⟨trivial, hso.2.2⟩)
set_option maxHeartbeats 1000000 in
theorem xso_caload {G : xG} {E : xE} {d : Nat} {Q : xP} {pc len : Nat} {tg : List Nat} {cst : xV} {r : List xT} {lv st : List xV} {μ : xM} {k : xK} {p : Program} {e : Env} {s : State} {m : MethodId} {args : Array Value} {below : List Frame} {meth : Method} {c : Code} (hE : xEok E)
    (kN : ∀ lv st μ, k r lv st μ → WS G E (d + 1) (p, e, s, m, args, below, meth, c) Q (pc + len) lv st μ)
    (kJ : ∀ t e' r', E.2.2.1.drop t = e' :: r' → ∀ lv st μ, k (E.2.2.1.drop t) lv st μ → WS G E (d + 1) (p, e, s, m, args, below, meth, c) Q e'.1 lv st μ)
    (hdec : decode E.2.1.2.1 pc = .ok ((.caload), len)) (hch : xchk E (pc, (.caload), len, tg, cst) = true)
    (h : xstep (MW G d) E Q (pc, (.caload), len, tg, cst) r lv st μ k) : WS G E (d + 1) (p, e, s, m, args, below, meth, c) Q pc lv st μ := by
  intro hG hC H locs ls hP hS hl hlo hso
  obtain ⟨hx, hb, hr, hml, hown, hts, hK, hlocks⟩ := id hC
  have hD := xD_wld hG μ
  have htw : ∀ w, xin w → w.before args s = true := fun w hw => hts w (List.mem_cons_of_mem _ (xin_gw hw))
  simp only [xchk, decide_eq_true_eq] at hch
  subst hch
  obtain ⟨j, s1, rfl, hh⟩ := xpI_ex (show xpI st _ from h)
  clear h
  have h := hh
  clear hh
  obtain ⟨q, s2, rfl, hh⟩ := xpR_ex h
  clear h
  have h := hh
  clear hh
  obtain ⟨n, ha, hin, h⟩ := xax_ex h
  have hq : xok q = true := hso.2.1
  obtain ⟨n1, hn1, hw1⟩ := xwld_get (ad := G.2.1) (cA := G.2.2.2) μ hq
  rw [xcell_arr ha] at hw1
  exact va_cald hx hb hK hP n1 2 hw1 rfl hin hdec (kN _ _ _ h hG hC H locs ls hP hS hl hlo ⟨trivial, hso.2.2⟩)
set_option maxHeartbeats 1000000 in
theorem xso_iastore {G : xG} {E : xE} {d : Nat} {Q : xP} {pc len : Nat} {tg : List Nat} {cst : xV} {r : List xT} {lv st : List xV} {μ : xM} {k : xK} {p : Program} {e : Env} {s : State} {m : MethodId} {args : Array Value} {below : List Frame} {meth : Method} {c : Code} (hE : xEok E)
    (kN : ∀ lv st μ, k r lv st μ → WS G E (d + 1) (p, e, s, m, args, below, meth, c) Q (pc + len) lv st μ)
    (kJ : ∀ t e' r', E.2.2.1.drop t = e' :: r' → ∀ lv st μ, k (E.2.2.1.drop t) lv st μ → WS G E (d + 1) (p, e, s, m, args, below, meth, c) Q e'.1 lv st μ)
    (hdec : decode E.2.1.2.1 pc = .ok ((.iastore), len)) (hch : xchk E (pc, (.iastore), len, tg, cst) = true)
    (h : xstep (MW G d) E Q (pc, (.iastore), len, tg, cst) r lv st μ k) : WS G E (d + 1) (p, e, s, m, args, below, meth, c) Q pc lv st μ := by
  intro hG hC H locs ls hP hS hl hlo hso
  obtain ⟨hx, hb, hr, hml, hown, hts, hK, hlocks⟩ := id hC
  have hD := xD_wld hG μ
  have htw : ∀ w, xin w → w.before args s = true := fun w hw => hts w (List.mem_cons_of_mem _ (xin_gw hw))
  simp only [xchk, decide_eq_true_eq] at hch
  subst hch
  obtain ⟨x, s0, rfl, hh⟩ := xpI_ex (show xpI st _ from h)
  clear h
  have h := hh
  clear hh
  obtain ⟨j, s1, rfl, hh⟩ := xpI_ex h
  clear h
  have h := hh
  clear hh
  obtain ⟨q, s2, rfl, hh⟩ := xpR_ex h
  clear h
  have h := hh
  clear hh
  obtain ⟨n, ha, hin, h⟩ := xax_ex h
  have hq : xok q = true := hso.2.2.1
  obtain ⟨n1, hn1, hw1⟩ := xwld_get (ad := G.2.1) (cA := G.2.2.2) μ hq
  rw [xcell_arr ha] at hw1
  refine va_iast hx hb hK hP hD hS n1 0 hw1 rfl hin hdec (fun H1 locs1 hP1 hD1 hS1 => ?_)
  rw [xwld_arr hn1 ha] at hP1
  exact kN _ _ _ h hG hC H1 locs1 ls hP1 hS1 hl hlo hso.2.2.2
set_option maxHeartbeats 1000000 in
theorem xso_bastore {G : xG} {E : xE} {d : Nat} {Q : xP} {pc len : Nat} {tg : List Nat} {cst : xV} {r : List xT} {lv st : List xV} {μ : xM} {k : xK} {p : Program} {e : Env} {s : State} {m : MethodId} {args : Array Value} {below : List Frame} {meth : Method} {c : Code} (hE : xEok E)
    (kN : ∀ lv st μ, k r lv st μ → WS G E (d + 1) (p, e, s, m, args, below, meth, c) Q (pc + len) lv st μ)
    (kJ : ∀ t e' r', E.2.2.1.drop t = e' :: r' → ∀ lv st μ, k (E.2.2.1.drop t) lv st μ → WS G E (d + 1) (p, e, s, m, args, below, meth, c) Q e'.1 lv st μ)
    (hdec : decode E.2.1.2.1 pc = .ok ((.bastore), len)) (hch : xchk E (pc, (.bastore), len, tg, cst) = true)
    (h : xstep (MW G d) E Q (pc, (.bastore), len, tg, cst) r lv st μ k) : WS G E (d + 1) (p, e, s, m, args, below, meth, c) Q pc lv st μ := by
  intro hG hC H locs ls hP hS hl hlo hso
  obtain ⟨hx, hb, hr, hml, hown, hts, hK, hlocks⟩ := id hC
  have hD := xD_wld hG μ
  have htw : ∀ w, xin w → w.before args s = true := fun w hw => hts w (List.mem_cons_of_mem _ (xin_gw hw))
  simp only [xchk, decide_eq_true_eq] at hch
  subst hch
  obtain ⟨x, s0, rfl, hh⟩ := xpI_ex (show xpI st _ from h)
  clear h
  have h := hh
  clear hh
  obtain ⟨j, s1, rfl, hh⟩ := xpI_ex h
  clear h
  have h := hh
  clear hh
  obtain ⟨q, s2, rfl, hh⟩ := xpR_ex h
  clear h
  have h := hh
  clear hh
  obtain ⟨n, ha, hin, h⟩ := xax_ex h
  have hq : xok q = true := hso.2.2.1
  obtain ⟨n1, hn1, hw1⟩ := xwld_get (ad := G.2.1) (cA := G.2.2.2) μ hq
  rw [xcell_arr ha] at hw1
  refine va_zast hx hb hK hP hD hS n1 1 hw1 rfl hin hdec (fun H1 locs1 hP1 hD1 hS1 => ?_)
  rw [xwld_arr hn1 ha] at hP1
  exact kN _ _ _ h hG hC H1 locs1 ls hP1 hS1 hl hlo hso.2.2.2
set_option maxHeartbeats 1000000 in
theorem xso_castore {G : xG} {E : xE} {d : Nat} {Q : xP} {pc len : Nat} {tg : List Nat} {cst : xV} {r : List xT} {lv st : List xV} {μ : xM} {k : xK} {p : Program} {e : Env} {s : State} {m : MethodId} {args : Array Value} {below : List Frame} {meth : Method} {c : Code} (hE : xEok E)
    (kN : ∀ lv st μ, k r lv st μ → WS G E (d + 1) (p, e, s, m, args, below, meth, c) Q (pc + len) lv st μ)
    (kJ : ∀ t e' r', E.2.2.1.drop t = e' :: r' → ∀ lv st μ, k (E.2.2.1.drop t) lv st μ → WS G E (d + 1) (p, e, s, m, args, below, meth, c) Q e'.1 lv st μ)
    (hdec : decode E.2.1.2.1 pc = .ok ((.castore), len)) (hch : xchk E (pc, (.castore), len, tg, cst) = true)
    (h : xstep (MW G d) E Q (pc, (.castore), len, tg, cst) r lv st μ k) : WS G E (d + 1) (p, e, s, m, args, below, meth, c) Q pc lv st μ := by
  intro hG hC H locs ls hP hS hl hlo hso
  obtain ⟨hx, hb, hr, hml, hown, hts, hK, hlocks⟩ := id hC
  have hD := xD_wld hG μ
  have htw : ∀ w, xin w → w.before args s = true := fun w hw => hts w (List.mem_cons_of_mem _ (xin_gw hw))
  simp only [xchk, decide_eq_true_eq] at hch
  subst hch
  obtain ⟨x, s0, rfl, hh⟩ := xpI_ex (show xpI st _ from h)
  clear h
  have h := hh
  clear hh
  obtain ⟨j, s1, rfl, hh⟩ := xpI_ex h
  clear h
  have h := hh
  clear hh
  obtain ⟨q, s2, rfl, hh⟩ := xpR_ex h
  clear h
  have h := hh
  clear hh
  obtain ⟨n, ha, hin, h⟩ := xax_ex h
  have hq : xok q = true := hso.2.2.1
  obtain ⟨n1, hn1, hw1⟩ := xwld_get (ad := G.2.1) (cA := G.2.2.2) μ hq
  rw [xcell_arr ha] at hw1
  refine va_cast hx hb hK hP hD hS n1 2 hw1 rfl hin hdec (fun H1 locs1 hP1 hD1 hS1 => ?_)
  rw [xwld_arr hn1 ha] at hP1
  exact kN _ _ _ h hG hC H1 locs1 ls hP1 hS1 hl hlo hso.2.2.2
set_option maxHeartbeats 1000000 in
theorem xso_aaload {G : xG} {E : xE} {d : Nat} {Q : xP} {pc len : Nat} {tg : List Nat} {cst : xV} {r : List xT} {lv st : List xV} {μ : xM} {k : xK} {p : Program} {e : Env} {s : State} {m : MethodId} {args : Array Value} {below : List Frame} {meth : Method} {c : Code} (hE : xEok E)
    (kN : ∀ lv st μ, k r lv st μ → WS G E (d + 1) (p, e, s, m, args, below, meth, c) Q (pc + len) lv st μ)
    (kJ : ∀ t e' r', E.2.2.1.drop t = e' :: r' → ∀ lv st μ, k (E.2.2.1.drop t) lv st μ → WS G E (d + 1) (p, e, s, m, args, below, meth, c) Q e'.1 lv st μ)
    (hdec : decode E.2.1.2.1 pc = .ok ((.aaload), len)) (hch : xchk E (pc, (.aaload), len, tg, cst) = true)
    (h : xstep (MW G d) E Q (pc, (.aaload), len, tg, cst) r lv st μ k) : WS G E (d + 1) (p, e, s, m, args, below, meth, c) Q pc lv st μ := by
  intro hG hC H locs ls hP hS hl hlo hso
  obtain ⟨hx, hb, hr, hml, hown, hts, hK, hlocks⟩ := id hC
  have hD := xD_wld hG μ
  have htw : ∀ w, xin w → w.before args s = true := fun w hw => hts w (List.mem_cons_of_mem _ (xin_gw hw))
  simp only [xchk, decide_eq_true_eq] at hch
  subst hch
  obtain ⟨j, s1, rfl, hh⟩ := xpI_ex (show xpI st _ from h)
  clear h
  have h := hh
  clear hh
  obtain ⟨q, s2, rfl, hh⟩ := xpR_ex h
  clear h
  have h := hh
  clear hh
  have hq : xok q = true := hso.2.1
  obtain ⟨k1, j1, c1⟩ := q
  have hk1 : k1 = 10 := by
    unfold xrg at h
    split at h
    · rename_i heq; cases heq; rfl
    · exact h.elim
  subst hk1
  have h : vp_in j 5 ∧ k r lv (vR (4, 2 + j.toNatClampNeg, 0) :: s2) μ := h
  obtain ⟨n1, hn1, hw1⟩ := xwld_get (ad := G.2.1) (cA := G.2.2.2) μ hq
  have hlt : j.toNatClampNeg < 5 := Nat.not_le.mp fun z => h.1 (Or.inr z)
  exact va_aldq hx hb hK hP n1 3 hw1 rfl h.1 hdec (kN _ _ _ h.2 hG hC H locs ls hP hS hl hlo ⟨by show xok _ = true; simp [xok]; omega, hso.2.2⟩)
set_option maxHeartbeats 1000000 in
theorem xso_invokevirtual {G : xG} {E : xE} {d : Nat} {Q : xP} {pc len : Nat} {tg : List Nat} {cst : xV} {r : List xT} {lv st : List xV} {μ : xM} {k : xK} {p : Program} {e : Env} {s : State} {m : MethodId} {args : Array Value} {below : List Frame} {meth : Method} {c : Code} (n : Nat) (hE : xEok E)
    (kN : ∀ lv st μ, k r lv st μ → WS G E (d + 1) (p, e, s, m, args, below, meth, c) Q (pc + len) lv st μ)
    (kJ : ∀ t e' r', E.2.2.1.drop t = e' :: r' → ∀ lv st μ, k (E.2.2.1.drop t) lv st μ → WS G E (d + 1) (p, e, s, m, args, below, meth, c) Q e'.1 lv st μ)
    (hdec : decode E.2.1.2.1 pc = .ok ((.invokevirtual n), len)) (hch : xchk E (pc, (.invokevirtual n), len, tg, cst) = true)
    (h : xstep (MW G d) E Q (pc, (.invokevirtual n), len, tg, cst) r lv st μ k) : WS G E (d + 1) (p, e, s, m, args, below, meth, c) Q pc lv st μ := by
  intro hG hC H locs ls hP hS hl hlo hso
  obtain ⟨hx, hb, hr, hml, hown, hts, hK, hlocks⟩ := id hC
  have hD := xD_wld hG μ
  have htw : ∀ w, xin w → w.before args s = true := fun w hw => hts w (List.mem_cons_of_mem _ (xin_gw hw))
  simp only [xchk, Bool.and_eq_true, decide_eq_true_eq] at hch
  obtain ⟨hlen, hc⟩ := hch
  subst hlen
  obtain ⟨qe, rr, hd1, h⟩ := xfind_ex (show xfind _ _ _ from h)
  have hc : qe.1 = n ∧ qe.2.1 = xt1 tg := by
    unfold xme at hc
    rw [hd1] at hc
    simpa using hc
  obtain ⟨B1, s1, rfl, hB1, hh⟩ := xargs_ex _ _ _ _ h
  clear h
  have h := hh
  clear hh
  obtain ⟨q, s2, rfl, hh⟩ := xpR_ex h
  clear h
  have h := hh
  clear hh
  obtain ⟨⟨fs, ho⟩, h⟩ := xro_ex h
  obtain ⟨h8, h⟩ := xif8_ex h
  obtain ⟨⟨T, N, hcl⟩, ⟨hml1, hcode, hini, hn1, hn2, hpar, h21⟩, hinst, hsel⟩ := hE.2.2.2.1.2.1 qe (xdrop_mem hd1)
  rw [hc.2] at hcl
  rw [hc.1] at hml1
  rw [List.append_nil] at h
  obtain ⟨hso1, hso2⟩ := xoks_app hso
  have hq : xok q = true := hso2.1
  have hM := h hG (fun v hv => by
    rcases List.mem_cons.mp hv with rfl | hv
    · exact hq
    · exact xoks_mem hso1 v (List.mem_reverse.mpr hv))
  obtain ⟨n2, hn2', hw2⟩ := xwld_get (ad := G.2.1) (cA := G.2.2.2) μ hq
  rw [xcell_obj ho] at hw2
  have hgood : GoodIn (xws E.2.1) (xws qe.2.2) := by
    intro w hw
    rcases List.mem_cons.mp hw with rfl | hw
    · exact ⟨List.mem_cons_of_mem _ (xin_gw hcode), xgood (xin_gw hcode)⟩
    · exact ⟨List.mem_cons_of_mem _ hw, xgood hw⟩
  refine xcall_go (va_runV (As := B1.map (xrv G.2.1)) (rest := s2.map (xrv G.2.1)) (b := G.2.1 q) ⟨hx, hb, hml, hown, hts⟩ hM ⟨callB_of qe.2.2.2.2.2.2 hts hgood rfl rfl rfl (htw _ hini) (htw _ hml1) ⟨hn1, hn2, hpar⟩ ⟨Nat.le_refl _, by show 8 + (qe.2.2.2.2.1 + 11) + 40 * d ≤ 40 * (d + 1); omega⟩, htw _ hinst, htw _ hsel⟩ ⟨xblind G _ μ, va_recv hK hP (ci := xt1 tg) (q0 := n2) hcl hw2, fun U hU hW => ⟨rfl, by rw [hU]; exact hP, va_K.moved hW.alike hK⟩⟩ rfl (by rw [List.length_map]; exact hB1) hl.1 (by simp [xrv]) (lv_room (by rw [xcats_eq]; exact h8)) hdec ⟨Nat.le_refl _, Nat.le_refl _⟩) hS (fun r1 μ' H1 locs1 hq1 hv1 hP1 hS1 => ?_)
  obtain ⟨st', hk', est, hok'⟩ := xret_ex (ad := G.2.1) hq1
  rw [est]
  exact kN _ _ _ hk' hG hC H1 locs1 ls hP1 hS1 hl hlo (hok' hso2.2 hv1)
set_option maxHeartbeats 1000000 in
theorem xso_invokestatic {G : xG} {E : xE} {d : Nat} {Q : xP} {pc len : Nat} {tg : List Nat} {cst : xV} {r : List xT} {lv st : List xV} {μ : xM} {k : xK} {p : Program} {e : Env} {s : State} {m : MethodId} {args : Array Value} {below : List Frame} {meth : Method} {c : Code} (n : Nat) (hE : xEok E)
    (kN : ∀ lv st μ, k r lv st μ → WS G E (d + 1) (p, e, s, m, args, below, meth, c) Q (pc + len) lv st μ)
    (kJ : ∀ t e' r', E.2.2.1.drop t = e' :: r' → ∀ lv st μ, k (E.2.2.1.drop t) lv st μ → WS G E (d + 1) (p, e, s, m, args, below, meth, c) Q e'.1 lv st μ)
    (hdec : decode E.2.1.2.1 pc = .ok ((.invokestatic n), len)) (hch : xchk E (pc, (.invokestatic n), len, tg, cst) = true)
    (h : xstep (MW G d) E Q (pc, (.invokestatic n), len, tg, cst) r lv st μ k) : WS G E (d + 1) (p, e, s, m, args, below, meth, c) Q pc lv st μ := by
  intro hG hC H locs ls hP hS hl hlo hso
  obtain ⟨hx, hb, hr, hml, hown, hts, hK, hlocks⟩ := id hC
  have hD := xD_wld hG μ
  have htw : ∀ w, xin w → w.before args s = true := fun w hw => hts w (List.mem_cons_of_mem _ (xin_gw hw))
  simp only [xchk, Bool.and_eq_true, decide_eq_true_eq] at hch
  obtain ⟨hlen, hc⟩ := hch
  subst hlen
  simp only [xstep] at h
  split at h
  · rename_i h0
    rw [h0] at hc
    obtain ⟨qe, rr, hd1, h⟩ := xfind_ex h
    have hc : qe.1 = n := by
      have hc : xme0 _ _ _ = true := hc
      unfold xme0 at hc
      rw [hd1] at hc
      simpa using hc
    obtain ⟨B1, s1, rfl, hB1, hh⟩ := xargs_ex _ _ _ _ h
    clear h
    have h := hh
    clear hh
    obtain ⟨h8, h⟩ := xif8_ex h
    obtain ⟨⟨hml1, hcode, hini, hn1, hn2, hpar, h21⟩, hstat⟩ := hE.2.2.2.1.2.2.1 qe (xdrop_mem hd1)
    rw [hc] at hml1
    rw [List.append_nil] at h
    obtain ⟨hso1, hso2⟩ := xoks_app hso
    have hM := h hG (fun v hv => xoks_mem hso1 v (List.mem_reverse.mpr hv))
    have hgood : GoodIn (xws E.2.1) (xws qe.2.2) := by
      intro w hw
      rcases List.mem_cons.mp hw with rfl | hw
      · exact ⟨List.mem_cons_of_mem _ (xin_gw hcode), xgood (xin_gw hcode)⟩
      · exact ⟨List.mem_cons_of_mem _ hw, xgood hw⟩
    refine xcall_go (va_runS (As := B1.map (xrv G.2.1)) (rest := s1.map (xrv G.2.1)) ⟨hx, hb, hml, hown, hts⟩ hM ⟨callB_of qe.2.2.2.2.2.2 hts hgood rfl rfl rfl (htw _ hini) (htw _ hml1) ⟨hn1, hn2, hpar⟩ ⟨Nat.le_refl _, by show 8 + (qe.2.2.2.2.1 + 11) + 40 * d ≤ 40 * (d + 1); omega⟩, htw _ hstat⟩ ⟨xblind G _ μ, fun U hU hW => ⟨rfl, by rw [hU]; exact hP, va_K.moved hW.alike hK⟩⟩ rfl (by rw [List.length_map]; exact hB1) hl.1 (by simp) (lv_room (by rw [xcats_eq]; exact h8)) hdec ⟨Nat.le_refl _, Nat.le_refl _⟩) hS (fun r1 μ' H1 locs1 hq1 hv1 hP1 hS1 => ?_)
    obtain ⟨st', hk', est, hok'⟩ := xret_ex (ad := G.2.1) hq1
    rw [est]
    exact kN _ _ _ hk' hG hC H1 locs1 ls hP1 hS1 hl hlo (hok' hso2 hv1)
  · rename_i h0
    rw [h0] at hc
    obtain ⟨q, hq, eq⟩ := List.any_eq_true.mp (show List.any _ _ = true from hc)
    have eq := of_decide_eq_true eq
    have hF := (hE.2.2.2.1.2.2.2.2 q hq).1 (by rw [eq])
    rw [eq] at hF
    obtain ⟨f1, f2, f3, f4⟩ := hF
    obtain ⟨y, s1, rfl, hh⟩ := xpI_ex h
    clear h
    have h := hh
    clear hh
    obtain ⟨x, s2, rfl, hh⟩ := xpI_ex h
    clear h
    have h := hh
    clear hh
    obtain ⟨h8, h⟩ := xif8_ex h
    exact va_mmin hx hb (hml.trans hl.1.symm) hown (htw _ f1) (htw _ f2) (htw _ f3) (htw _ f4) (Nat.le_add_left 1 d) (by rw [xcats_eq]; show xcats s2 + 13 ≤ 40 * (d + 1); omega) (Nat.le_refl _) (Nat.le_refl _) hdec (kN _ _ _ h hG hC H locs ls hP hS hl hlo ⟨trivial, hso.2.2⟩)
  · rename_i h0 h1
    have hc : List.any E.2.2.2.2.2.2.2.2 (fun q => decide (q = (n, 2))) = true := by
      split at hc
      · rename_i z; exact absurd z h0
      · rename_i z; exact absurd z h1
      · exact hc
    obtain ⟨q, hq, eq⟩ := List.any_eq_true.mp hc
    have eq := of_decide_eq_true eq
    have hF := (hE.2.2.2.1.2.2.2.2 q hq).2 (by rw [eq])
    rw [eq] at hF
    obtain ⟨f1, f2, f3, f4⟩ := hF
    obtain ⟨z, s1, rfl, hh⟩ := xpI_ex h
    clear h
    have h := hh
    clear hh
    obtain ⟨dp, s2, rfl, hh⟩ := xpI_ex h
    clear h
    have h := hh
    clear hh
    obtain ⟨qb, s3, rfl, hh⟩ := xpR_ex h
    clear h
    have h := hh
    clear hh
    obtain ⟨sp, s4, rfl, hh⟩ := xpI_ex h
    clear h
    have h := hh
    clear hh
    obtain ⟨qa, s5, rfl, hh⟩ := xpR_ex h
    clear h
    have h := hh
    clear hh
    obtain ⟨za, ha, h⟩ := xax_ex h
    obtain ⟨zb, hb1, h⟩ := xax_ex h
    rcases s5 with _ | ⟨v, s5⟩
    · obtain ⟨g1, g2, g3, g4, g5, h⟩ := (show _ ∧ _ ∧ _ ∧ _ ∧ _ ∧ _ from h)
      have hqb : xok qb = true := hso.2.2.1
      have hqa : xok qa = true := hso.2.2.2.2.1
      obtain ⟨na, hna, hwa⟩ := xwld_get (ad := G.2.1) (cA := G.2.2.2) μ hqa
      obtain ⟨nb, hnb, hwb⟩ := xwld_get (ad := G.2.1) (cA := G.2.2.2) μ hqb
      rw [xcell_arr ha] at hwa
      rw [xcell_arr hb1] at hwb
      refine va_copyi hx hb (hml.trans hl.1.symm) hown (htw _ f1) (htw _ f2) (htw _ f3) (htw _ f4) hK hP hD hS na nb 0 0 hwa hwb rfl rfl rfl g1 g2 g3 g4 g5 (fun _ _ => rfl) (Nat.le_add_left 1 d) (by rw [show (List.map (fun v => Value.category v) (List.map (xrv G.2.1) [])).sum = 0 from rfl]; show 0 + (nativeFrameWords "java/lang/System" "arraycopy" 5 + 11) ≤ 40 * (d + 1); exact Nat.le_trans xnat_le (by omega)) hdec (fun H1 locs1 hP1 hD1 hS1 => ?_)
      rw [xwld_cpy hnb hb1] at hP1
      exact kN _ _ _ h hG hC H1 locs1 ls hP1 hS1 hl hlo trivial
    · exact (show False from h).elim
set_option maxHeartbeats 1000000 in
theorem xso_ireturn {G : xG} {E : xE} {d : Nat} {Q : xP} {pc len : Nat} {tg : List Nat} {cst : xV} {r : List xT} {lv st : List xV} {μ : xM} {k : xK} {p : Program} {e : Env} {s : State} {m : MethodId} {args : Array Value} {below : List Frame} {meth : Method} {c : Code} (hE : xEok E)
    (kN : ∀ lv st μ, k r lv st μ → WS G E (d + 1) (p, e, s, m, args, below, meth, c) Q (pc + len) lv st μ)
    (kJ : ∀ t e' r', E.2.2.1.drop t = e' :: r' → ∀ lv st μ, k (E.2.2.1.drop t) lv st μ → WS G E (d + 1) (p, e, s, m, args, below, meth, c) Q e'.1 lv st μ)
    (hdec : decode E.2.1.2.1 pc = .ok ((.ireturn), len)) (hch : xchk E (pc, (.ireturn), len, tg, cst) = true)
    (h : xstep (MW G d) E Q (pc, (.ireturn), len, tg, cst) r lv st μ k) : WS G E (d + 1) (p, e, s, m, args, below, meth, c) Q pc lv st μ := by
  intro hG hC H locs ls hP hS hl hlo hso
  obtain ⟨hx, hb, hr, hml, hown, hts, hK, hlocks⟩ := id hC
  have hD := xD_wld hG μ
  have htw : ∀ w, xin w → w.before args s = true := fun w hw => hts w (List.mem_cons_of_mem _ (xin_gw hw))
  simp only [xchk, decide_eq_true_eq] at hch
  subst hch
  obtain ⟨x, s1, rfl, hh⟩ := xpI_ex (show xpI st _ from h)
  clear h
  have h := hh
  clear hh
  rcases s1 with _ | ⟨v, s1⟩
  · have h : xri E.2.1.2.2.2.1 x (Q (some (vI x)) μ) := h
    unfold xri at h
    split at h
    · rename_i hrt
      exact W.iret hx hb (hr.trans hrt) (fun t ht hW => ⟨⟨some (vI x), μ, h, rfl, fun v hv => by cases hv; exact trivial, by rw [xB, ht]; exact ⟨hP, va_K.moved hW.alike hK⟩⟩, hS.F ht⟩) hS.2.2 hdec hlocks
    · rename_i hrt
      exact W.zret hx hb (hr.trans hrt) (by rcases h.1 with rfl | rfl <;> rfl) (fun t ht hW => ⟨⟨some (vI x), μ, h.2, rfl, fun v hv => by cases hv; exact trivial, by rw [xB, ht]; exact ⟨hP, va_K.moved hW.alike hK⟩⟩, hS.F ht⟩) hS.2.2 hdec hlocks
    · exact h.elim
  · exact (show False from h).elim
set_option maxHeartbeats 1000000 in
theorem xso_lreturn {G : xG} {E : xE} {d : Nat} {Q : xP} {pc len : Nat} {tg : List Nat} {cst : xV} {r : List xT} {lv st : List xV} {μ : xM} {k : xK} {p : Program} {e : Env} {s : State} {m : MethodId} {args : Array Value} {below : List Frame} {meth : Method} {c : Code} (hE : xEok E)
    (kN : ∀ lv st μ, k r lv st μ → WS G E (d + 1) (p, e, s, m, args, below, meth, c) Q (pc + len) lv st μ)
    (kJ : ∀ t e' r', E.2.2.1.drop t = e' :: r' → ∀ lv st μ, k (E.2.2.1.drop t) lv st μ → WS G E (d + 1) (p, e, s, m, args, below, meth, c) Q e'.1 lv st μ)
    (hdec : decode E.2.1.2.1 pc = .ok ((.lreturn), len)) (hch : xchk E (pc, (.lreturn), len, tg, cst) = true)
    (h : xstep (MW G d) E Q (pc, (.lreturn), len, tg, cst) r lv st μ k) : WS G E (d + 1) (p, e, s, m, args, below, meth, c) Q pc lv st μ := by
  intro hG hC H locs ls hP hS hl hlo hso
  obtain ⟨hx, hb, hr, hml, hown, hts, hK, hlocks⟩ := id hC
  have hD := xD_wld hG μ
  have htw : ∀ w, xin w → w.before args s = true := fun w hw => hts w (List.mem_cons_of_mem _ (xin_gw hw))
  simp only [xchk, decide_eq_true_eq] at hch
  subst hch
  obtain ⟨x, s1, rfl, hh⟩ := xpL_ex (show xpL st _ from h)
  clear h
  have h := hh
  clear hh
  rcases s1 with _ | ⟨v, s1⟩
  · have h : xrl E.2.1.2.2.2.1 (Q (some (vL x)) μ) := h
    unfold xrl at h
    split at h
    · rename_i hrt
      exact W.lret hx hb (hr.trans hrt) (fun t ht hW => ⟨⟨some (vL x), μ, h, rfl, fun v hv => by cases hv; exact trivial, by rw [xB, ht]; exact ⟨hP, va_K.moved hW.alike hK⟩⟩, hS.F ht⟩) hS.2.2 hdec hlocks
    · exact h.elim
  · exact (show False from h).elim
set_option maxHeartbeats 1000000 in
theorem xso_areturn {G : xG} {E : xE} {d : Nat} {Q : xP} {pc len : Nat} {tg : List Nat} {cst : xV} {r : List xT} {lv st : List xV} {μ : xM} {k : xK} {p : Program} {e : Env} {s : State} {m : MethodId} {args : Array Value} {below : List Frame} {meth : Method} {c : Code} (hE : xEok E)
    (kN : ∀ lv st μ, k r lv st μ → WS G E (d + 1) (p, e, s, m, args, below, meth, c) Q (pc + len) lv st μ)
    (kJ : ∀ t e' r', E.2.2.1.drop t = e' :: r' → ∀ lv st μ, k (E.2.2.1.drop t) lv st μ → WS G E (d + 1) (p, e, s, m, args, below, meth, c) Q e'.1 lv st μ)
    (hdec : decode E.2.1.2.1 pc = .ok ((.areturn), len)) (hch : xchk E (pc, (.areturn), len, tg, cst) = true)
    (h : xstep (MW G d) E Q (pc, (.areturn), len, tg, cst) r lv st μ k) : WS G E (d + 1) (p, e, s, m, args, below, meth, c) Q pc lv st μ := by
  intro hG hC H locs ls hP hS hl hlo hso
  obtain ⟨hx, hb, hr, hml, hown, hts, hK, hlocks⟩ := id hC
  have hD := xD_wld hG μ
  have htw : ∀ w, xin w → w.before args s = true := fun w hw => hts w (List.mem_cons_of_mem _ (xin_gw hw))
  simp only [xchk, decide_eq_true_eq] at hch
  subst hch
  have key : ∀ q : Option xI, st = [.inr (.inr q)] → W p G.1 e (xrm (d + 1)) s m args below meth c H locs 0 0 (MQ below (xQc G Q) args s 0 0 (xA G.2.1)) (F0 m pc ls (st.map (xrv G.2.1))) := by
    intro q hq
    subst hq
    have h : xra E.2.1.2.2.2.1 (Q (some (.inr (.inr q))) μ) := h
    unfold xra at h
    split at h
    · rename_i nm hrt
      refine W.aret (v := xrv G.2.1 (.inr (.inr q))) hx hb (hr.trans hrt) (Or.inl ⟨_, rfl⟩) ?_ (fun t ht hW => ⟨⟨some (.inr (.inr q)), μ, h, rfl, fun v hv => by cases hv; exact hso.1, by rw [xB, ht]; exact ⟨hP, va_K.moved hW.alike hK⟩⟩, hS.F ht⟩) hS.2.2 hdec hlocks
      cases q with
      | none => exact Or.inl rfl
      | some q => exact Or.inr ⟨_, rfl⟩
    · exact h.elim
  rcases st with _ | ⟨x | x | q, _ | ⟨v, s1⟩⟩ <;> first | exact (show False from h).elim | exact key _ rfl
set_option maxHeartbeats 1000000 in
theorem xso_return_ {G : xG} {E : xE} {d : Nat} {Q : xP} {pc len : Nat} {tg : List Nat} {cst : xV} {r : List xT} {lv st : List xV} {μ : xM} {k : xK} {p : Program} {e : Env} {s : State} {m : MethodId} {args : Array Value} {below : List Frame} {meth : Method} {c : Code} (hE : xEok E)
    (kN : ∀ lv st μ, k r lv st μ → WS G E (d + 1) (p, e, s, m, args, below, meth, c) Q (pc + len) lv st μ)
    (kJ : ∀ t e' r', E.2.2.1.drop t = e' :: r' → ∀ lv st μ, k (E.2.2.1.drop t) lv st μ → WS G E (d + 1) (p, e, s, m, args, below, meth, c) Q e'.1 lv st μ)
    (hdec : decode E.2.1.2.1 pc = .ok ((.return_), len)) (hch : xchk E (pc, (.return_), len, tg, cst) = true)
    (h : xstep (MW G d) E Q (pc, (.return_), len, tg, cst) r lv st μ k) : WS G E (d + 1) (p, e, s, m, args, below, meth, c) Q pc lv st μ := by
  intro hG hC H locs ls hP hS hl hlo hso
  obtain ⟨hx, hb, hr, hml, hown, hts, hK, hlocks⟩ := id hC
  have hD := xD_wld hG μ
  have htw : ∀ w, xin w → w.before args s = true := fun w hw => hts w (List.mem_cons_of_mem _ (xin_gw hw))
  simp only [xchk, decide_eq_true_eq] at hch
  subst hch
  rcases st with _ | ⟨v, s1⟩
  · have h : xrn E.2.1.2.2.2.1 (Q none μ) := h
    unfold xrn at h
    split at h
    · rename_i hrt
      exact W.vret hx hb (hr.trans hrt) (fun t ht hW => ⟨⟨none, μ, h, rfl, fun v hv => (by cases hv), by rw [xB, ht]; exact ⟨hP, va_K.moved hW.alike hK⟩⟩, hS.F ht⟩) hS.2.2 hdec hlocks
    · exact h.elim
  · exact (show False from h).elim
end
section
theorem xstep_sound {G : xG} {E : xE} {d : Nat} {Z : xZ} {Q : xP} {pc : Nat} {i : Instr} {len : Nat} {tg : List Nat} {cst : xV} {r : List xT} {lv st : List xV} {μ : xM} {k : xK} (hE : xEok E) (hmem : (pc, i, len, tg, cst) ∈ E.2.2.1)
    (kN : ∀ lv st μ, k r lv st μ → WS G E (d + 1) Z Q (pc + len) lv st μ)
    (kJ : ∀ t e' r', E.2.2.1.drop t = e' :: r' → ∀ lv st μ, k (E.2.2.1.drop t) lv st μ → WS G E (d + 1) Z Q e'.1 lv st μ)
    (h : xstep (MW G d) E Q (pc, i, len, tg, cst) r lv st μ k) : WS G E (d + 1) Z Q pc lv st μ := by
  obtain ⟨p, e, s, m, args, below, meth, c⟩ := Z
  have hdec := hE.1 (pc, i, len, tg, cst) hmem
  have hch := List.all_eq_true.mp hE.2.1 (pc, i, len, tg, cst) hmem
  clear hmem
  cases i
  case iload_n n => exact xso_iload_n _ hE kN kJ hdec hch h
  case iload n => exact xso_iload _ hE kN kJ hdec hch h
  case lload_n n => exact xso_lload_n _ hE kN kJ hdec hch h
  case lload n => exact xso_lload _ hE kN kJ hdec hch h
  case aload_n n => exact xso_aload_n _ hE kN kJ hdec hch h
  case aload n => exact xso_aload _ hE kN kJ hdec hch h
  case istore_n n => exact xso_istore_n _ hE kN kJ hdec hch h
  case istore n => exact xso_istore _ hE kN kJ hdec hch h
  case lstore_n n => exact xso_lstore_n _ hE kN kJ hdec hch h
  case lstore n => exact xso_lstore _ hE kN kJ hdec hch h
  case astore_n n => exact xso_astore_n _ hE kN kJ hdec hch h
  case astore n => exact xso_astore _ hE kN kJ hdec hch h
  case iconst n => exact xso_iconst _ hE kN kJ hdec hch h
  case bipush n => exact xso_bipush _ hE kN kJ hdec hch h
  case sipush n => exact xso_sipush _ hE kN kJ hdec hch h
  case lconst n => exact xso_lconst _ hE kN kJ hdec hch h
  case ldc n => exact xso_ldc _ hE kN kJ hdec hch h
  case ldc_w n => exact xso_ldc_w _ hE kN kJ hdec hch h
  case ldc2_w n => exact xso_ldc2_w _ hE kN kJ hdec hch h
  case aconst_null => exact xso_aconst_null hE kN kJ hdec hch h
  case iadd => exact xso_iadd hE kN kJ hdec hch h
  case isub => exact xso_isub hE kN kJ hdec hch h
  case imul => exact xso_imul hE kN kJ hdec hch h
  case iand => exact xso_iand hE kN kJ hdec hch h
  case ior => exact xso_ior hE kN kJ hdec hch h
  case ixor => exact xso_ixor hE kN kJ hdec hch h
  case ishl => exact xso_ishl hE kN kJ hdec hch h
  case ishr => exact xso_ishr hE kN kJ hdec hch h
  case iushr => exact xso_iushr hE kN kJ hdec hch h
  case idiv => exact xso_idiv hE kN kJ hdec hch h
  case irem => exact xso_irem hE kN kJ hdec hch h
  case ladd => exact xso_ladd hE kN kJ hdec hch h
  case lsub => exact xso_lsub hE kN kJ hdec hch h
  case land => exact xso_land hE kN kJ hdec hch h
  case lor => exact xso_lor hE kN kJ hdec hch h
  case lcmp => exact xso_lcmp hE kN kJ hdec hch h
  case lshl => exact xso_lshl hE kN kJ hdec hch h
  case lshr => exact xso_lshr hE kN kJ hdec hch h
  case lushr => exact xso_lushr hE kN kJ hdec hch h
  case ineg => exact xso_ineg hE kN kJ hdec hch h
  case i2c => exact xso_i2c hE kN kJ hdec hch h
  case i2l => exact xso_i2l hE kN kJ hdec hch h
  case l2i => exact xso_l2i hE kN kJ hdec hch h
  case iinc n q => exact xso_iinc _ _ hE kN kJ hdec hch h
  case dup => exact xso_dup hE kN kJ hdec hch h
  case dup2 => exact xso_dup2 hE kN kJ hdec hch h
  case pop => exact xso_pop hE kN kJ hdec hch h
  case ifCond cnd o => exact xso_ifCond _ _ hE kN kJ hdec hch h
  case if_icmp cnd o => exact xso_if_icmp _ _ hE kN kJ hdec hch h
  case ifnull o => exact xso_ifnull _ hE kN kJ hdec hch h
  case goto o => exact xso_goto _ hE kN kJ hdec hch h
  case tableswitch dd lo hi offs => exact xso_tableswitch _ _ _ _ hE kN kJ hdec hch h
  case lookupswitch dd ps => exact xso_lookupswitch _ _ hE kN kJ hdec hch h
  case getfield n => exact xso_getfield _ hE kN kJ hdec hch h
  case putfield n => exact xso_putfield _ hE kN kJ hdec hch h
  case arraylength => exact xso_arraylength hE kN kJ hdec hch h
  case iaload => exact xso_iaload hE kN kJ hdec hch h
  case baload => exact xso_baload hE kN kJ hdec hch h
  case caload => exact xso_caload hE kN kJ hdec hch h
  case iastore => exact xso_iastore hE kN kJ hdec hch h
  case bastore => exact xso_bastore hE kN kJ hdec hch h
  case castore => exact xso_castore hE kN kJ hdec hch h
  case aaload => exact xso_aaload hE kN kJ hdec hch h
  case invokevirtual n => exact xso_invokevirtual _ hE kN kJ hdec hch h
  case invokestatic n => exact xso_invokestatic _ hE kN kJ hdec hch h
  case ireturn => exact xso_ireturn hE kN kJ hdec hch h
  case lreturn => exact xso_lreturn hE kN kJ hdec hch h
  case areturn => exact xso_areturn hE kN kJ hdec hch h
  case return_ => exact xso_return_ hE kN kJ hdec hch h
  all_goals exact (show False from h).elim
end
section
/-! many steps at once, up to the next heads; a method's contract from its first place -/
def wpC (G : xG) (E : xE) (d : Nat) (Z : xZ) (Q : xP) : Nat → xK
  | 0, _, _, _, _ => False
  | n + 1, rest, lv, st, μ => match rest with
    | [] => False
    | e :: r => match xlook E.2.2.2.1 e.1 with
      | some b => WS G E (d + 1) Z Q e.1 (xmask b lv) st μ
      | none => xstep (MW G d) E Q e r lv st μ (wpC G E d Z Q n)
def xfrom : List xT → Nat → List xT
  | [], _ => []
  | e :: l, n => match Nat.beq e.1 n with
    | true => e :: l
    | false => xfrom l n
def xgo (G : xG) (E : xE) (d : Nat) (Z : xZ) (Q : xP) (n pc : Nat) (lv st : List xV) (μ : xM) : Prop := match xfrom E.2.2.1 pc with
  | e :: r => xstep (MW G d) E Q e r lv st μ (wpC G E d Z Q n)
  | [] => False
theorem WS_mask {G : xG} {E : xE} {d : Nat} {Z : xZ} {Q : xP} {pc : Nat} {lv st : List xV} {μ : xM} (b : List Bool) (h : WS G E d Z Q pc (xmask b lv) st μ) : WS G E d Z Q pc lv st μ := by
  obtain ⟨p, e, s, m, args, below, meth, c⟩ := Z
  intro hG hC H locs ls hP hS hl hlo hso
  exact h hG hC H locs ls hP hS (xLv_mask b hl) (xlok_mask b hlo) hso
theorem xcont_suf : ∀ (a l : List xT), xcont (a ++ l) = true → xcont l = true
  | [], l, h => h
  | e :: a, l, h => by
    have h : (_ && xcont (a ++ l)) = true := h
    rw [Bool.and_eq_true] at h
    exact xcont_suf a l h.2
theorem xcont_next {tb : List xT} (h : xcont tb = true) {e e' : xT} {r : List xT} (hs : e :: e' :: r <:+ tb) : e'.1 = e.1 + e.2.2.1 := by
  obtain ⟨a, rfl⟩ := hs
  have h1 := xcont_suf a _ h
  have h2 : (decide (e'.1 = e.1 + e.2.2.1) && xcont (e' :: r)) = true := h1
  rw [Bool.and_eq_true] at h2
  exact of_decide_eq_true h2.1
theorem wpC_nil {G : xG} {E : xE} {d : Nat} {Z : xZ} {Q : xP} {n : Nat} {lv st : List xV} {μ : xM} (h : wpC G E d Z Q n [] lv st μ) : False := by
  cases n <;> exact h
theorem wpC_sound {G : xG} {E : xE} {d : Nat} {Z : xZ} {Q : xP} (hE : xEok E) : ∀ (n : Nat) (e : xT) (r : List xT) (lv st : List xV) (μ : xM), e :: r <:+ E.2.2.1 → wpC G E d Z Q n (e :: r) lv st μ → WS G E (d + 1) Z Q e.1 lv st μ := by
  intro n
  induction n with
  | zero => intro e r lv st μ _ h; exact h.elim
  | succ n ih =>
    intro e r lv st μ hs h
    have h : (match xlook E.2.2.2.1 e.1 with
      | some b => WS G E (d + 1) Z Q e.1 (xmask b lv) st μ
      | none => xstep (MW G d) E Q e r lv st μ (wpC G E d Z Q n)) := h
    split at h
    · rename_i b hb
      exact WS_mask b h
    · obtain ⟨pc, i, len, tg, cst⟩ := e
      refine xstep_sound hE (hs.subset List.mem_cons_self) (fun lv st μ hk => ?_) (fun t e' r' hd lv st μ hk => ?_) h
      · cases r with
        | nil => exact (wpC_nil hk).elim
        | cons e' r' =>
          have h1 := xcont_next hE.2.2.1 hs
          have h2 := ih e' r' lv st μ ((List.suffix_cons _ _).trans hs) hk
          rw [h1] at h2
          exact h2
      · rw [hd] at hk
        exact ih e' r' lv st μ (by rw [← hd]; exact List.drop_suffix t _) hk
theorem xfrom_suf : ∀ (tb : List xT) (pc : Nat) (e : xT) (r : List xT), xfrom tb pc = e :: r → e :: r <:+ tb ∧ e.1 = pc
  | [], pc, e, r, h => by cases h
  | a :: l, pc, e, r, h => by
    cases hb : Nat.beq a.1 pc with
    | true =>
      have h : (match Nat.beq a.1 pc with | true => a :: l | false => xfrom l pc) = e :: r := h
      rw [hb] at h
      cases h
      exact ⟨List.suffix_refl _, Nat.eq_of_beq_eq_true hb⟩
    | false =>
      have h : (match Nat.beq a.1 pc with | true => a :: l | false => xfrom l pc) = e :: r := h
      rw [hb] at h
      obtain ⟨h1, h2⟩ := xfrom_suf l pc e r h
      exact ⟨h1.trans (List.suffix_cons _ _), h2⟩
/-- a stretch of a method, computed -/
theorem WS.go {G : xG} {E : xE} {d : Nat} {Z : xZ} {Q : xP} {pc : Nat} {lv st : List xV} {μ : xM} (hE : xEok E) (n : Nat) (h : xgo G E d Z Q n pc lv st μ) : WS G E (d + 1) Z Q pc lv st μ := by
  unfold xgo at h
  split at h
  · rename_i e r he
    obtain ⟨hs, hp⟩ := xfrom_suf _ _ _ _ he
    obtain ⟨pc', i, len, tg, cst⟩ := e
    have hp : pc' = pc := hp
    subst hp
    refine xstep_sound hE (hs.subset List.mem_cons_self) (fun lv st μ hk => ?_) (fun t e' r' hd lv st μ hk => ?_) h
    · cases r with
      | nil => exact (wpC_nil hk).elim
      | cons e' r' =>
        have h1 := xcont_next hE.2.2.1 hs
        have h2 := wpC_sound hE n e' r' lv st μ ((List.suffix_cons _ _).trans hs) hk
        rw [h1] at h2
        exact h2
    · rw [hd] at hk
      exact wpC_sound hE n e' r' lv st μ (by rw [← hd]; exact List.drop_suffix t _) hk
  · exact h.elim
-- the entry
def xent : List xV → List xV
  | [] => []
  | .inr (.inl x) :: l => vL x :: vN :: xent l
  | v :: l => v :: xent l
def xpad : Nat → List xV → List xV
  | 0, _ => []
  | n + 1, v :: l => v :: xpad n l
  | n + 1, [] => vN :: xpad n []
theorem xnth_pad : ∀ (n : Nat) (l : List xV) (i : Nat), xnth (xpad n l) i ≠ vN → xnth (xpad n l) i = xnth l i
  | 0, l, i, h => absurd (by cases i <;> rfl) h
  | n + 1, v :: l, 0, h => rfl
  | n + 1, v :: l, i + 1, h => xnth_pad n l i h
  | n + 1, [], 0, h => rfl
  | n + 1, [], i + 1, h => by
    have := xnth_pad n [] i h
    show xnth (xpad n []) i = vN
    rw [this]
    cases i <;> rfl
theorem xent_args (ad : xI → Nat) : ∀ (args : List xV) (b i : Nat), xnth (xent args) i ≠ vN → (b + i, xrv ad (xnth (xent args) i)) ∈ lv_args b (args.map (xrv ad))
  | [], b, i, h => absurd (by cases i <;> rfl) h
  | .inr (.inl x) :: l, b, 0, h => List.mem_cons_self
  | .inr (.inl x) :: l, b, 1, h => absurd rfl h
  | .inr (.inl x) :: l, b, i + 2, h => by
    have h1 := xent_args ad l (b + 2) i h
    rw [show b + (i + 2) = b + 2 + i by omega]
    exact List.mem_cons_of_mem _ h1
  | .inl x :: l, b, 0, h => List.mem_cons_self
  | .inl x :: l, b, i + 1, h => by
    have h1 := xent_args ad l (b + 1) i h
    rw [show b + (i + 1) = b + 1 + i by omega]
    exact List.mem_cons_of_mem _ h1
  | .inr (.inr none) :: l, b, 0, h => absurd rfl h
  | .inr (.inr none) :: l, b, i + 1, h => by
    have h1 := xent_args ad l (b + 1) i h
    rw [show b + (i + 1) = b + 1 + i by omega]
    exact List.mem_cons_of_mem _ h1
  | .inr (.inr (some q)) :: l, b, 0, h => List.mem_cons_self
  | .inr (.inr (some q)) :: l, b, i + 1, h => by
    have h1 := xent_args ad l (b + 1) i h
    rw [show b + (i + 1) = b + 1 + i by omega]
    exact List.mem_cons_of_mem _ h1
theorem xent_ok : ∀ (args : List xV), (∀ v ∈ args, xvok v) → ∀ i, xvok (xnth (xent args) i)
  | [], h, i => by cases i <;> exact trivial
  | .inr (.inl x) :: l, h, 0 => trivial
  | .inr (.inl x) :: l, h, 1 => trivial
  | .inr (.inl x) :: l, h, i + 2 => xent_ok l (fun v hv => h v (List.mem_cons_of_mem _ hv)) i
  | .inl x :: l, h, 0 => trivial
  | .inl x :: l, h, i + 1 => xent_ok l (fun v hv => h v (List.mem_cons_of_mem _ hv)) i
  | .inr (.inr none) :: l, h, 0 => trivial
  | .inr (.inr none) :: l, h, i + 1 => xent_ok l (fun v hv => h v (List.mem_cons_of_mem _ hv)) i
  | .inr (.inr (some q)) :: l, h, 0 => h _ List.mem_cons_self
  | .inr (.inr (some q)) :: l, h, i + 1 => xent_ok l (fun v hv => h v (List.mem_cons_of_mem _ hv)) i
theorem xent_len (ad : xI → Nat) : ∀ (args : List xV), (lg_sl (args.map (xrv ad))).length = (xent args).length
  | [] => rfl
  | .inr (.inl x) :: l => by
    have := xent_len ad l
    simp only [lg_sl, List.map_cons, List.flatMap_cons, List.length_append] at this ⊢
    rw [this]
    simp [xent, xrv, Value.category]
    omega
  | .inl x :: l => by
    have := xent_len ad l
    simp only [lg_sl, List.map_cons, List.flatMap_cons, List.length_append] at this ⊢
    rw [this]
    simp [xent, xrv, Value.category]
    omega
  | .inr (.inr none) :: l => by
    have := xent_len ad l
    simp only [lg_sl, List.map_cons, List.flatMap_cons, List.length_append] at this ⊢
    rw [this]
    simp [xent, xrv, Value.category]
    omega
  | .inr (.inr (some q)) :: l => by
    have := xent_len ad l
    simp only [lg_sl, List.map_cons, List.flatMap_cons, List.length_append] at this ⊢
    rw [this]
    simp [xent, xrv, Value.category]
    omega
/-- a method's contract, from its first place -/
theorem MW.of {G : xG} {E : xE} {d : Nat} {args : List xV} {μ : xM} {Q : xP} (hE : xEok E) (hn : (xent args).length ≤ E.2.1.2.2.1) (h : ∀ Z, WS G E d Z Q 0 (xpad E.2.1.2.2.1 (xent args)) [] μ) : MW G d E.2.1 args μ Q := by
  intro hG hok
  refine Met.ofW (cc := E.2.1.2.1) (maxL := E.2.1.2.2.1) (ret := E.2.1.2.2.2.1) (ws' := xgw) hE.2.2.2.2.2 rfl ?_
  intro p e s m args' below meth c s₁ B hml hv
  obtain ⟨rfl, hP, hK⟩ := hv
  have hown : s.vm.findClass (xcn E.1) = some m.cls := by
    rw [← hE.2.2.2.2.1]
    exact findClass_of_methodNamed B.named
  rw [lg_entry_eq]
  have hl := lv_entry (args.map (xrv G.2.1)) (n := E.2.1.2.2.1) (by rw [xent_len]; exact hn)
  refine h (p, e, s, m, _, below, meth, c) hG ⟨B.exec, B.bytes, B.returns, hml, hown, atoms_spec (ws := xws E.2.1) B.pre, hK, B.notSynchronized⟩ s.heap [] _ hP va_S.rf ⟨hl.1, hl.2.1, fun i hi => ?_⟩ (fun i => ?_) trivial
  · have h1 := xnth_pad _ _ i hi
    rw [h1] at hi ⊢
    have h2 := xent_args G.2.1 args 0 i hi
    rw [Nat.zero_add] at h2
    exact hl.2.2 _ h2
  · by_cases hi : xnth (xpad E.2.1.2.2.1 (xent args)) i = vN
    · rw [hi]; exact trivial
    · rw [xnth_pad _ _ i hi]
      exact xent_ok args hok i
end
