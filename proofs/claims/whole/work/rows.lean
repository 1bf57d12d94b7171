section
-- ===== PART A: goes FIRST, ahead of the names: the tables' words, and 'selects' of the private methods out of them =====
/-- a private method of a class that the tables say can be made, by its rows of tables_1 -/
def lw_okq (q : MethodName × Nat) : Prop := (q.1.cls ≠ "java/lang/invoke/MethodHandle" ∧ q.1.cls ≠ "java/lang/invoke/VarHandle") ∧ Cond.instantiable q.1.cls q.2 ∈ tables_1 ∧ Cond.privateMethod q.1 ∈ tables_1 ∧ Cond.instanceMethod q.1 ∈ tables_1
theorem lw_p0 : lw_okq (⟨"ConsYard$Symbols", "addSign", "(I)V"⟩, 3) := ⟨⟨by decide +kernel, by decide +kernel⟩, List.mem_of_getElem? (i := 104) (by decide +kernel), List.mem_of_getElem? (i := 159) (by decide +kernel), List.mem_of_getElem? (i := 160) (by decide +kernel)⟩
theorem lw_p1 : lw_okq (⟨"ConsYard$Cells", "takeBack", "()V"⟩, 10) := ⟨⟨by decide +kernel, by decide +kernel⟩, List.mem_of_getElem? (i := 174) (by decide +kernel), List.mem_of_getElem? (i := 182) (by decide +kernel), List.mem_of_getElem? (i := 183) (by decide +kernel)⟩
theorem lw_p2 : lw_okq (⟨"ConsYard$Cells", "collect", "(JJ)V"⟩, 10) := ⟨⟨by decide +kernel, by decide +kernel⟩, List.mem_of_getElem? (i := 174) (by decide +kernel), List.mem_of_getElem? (i := 394) (by decide +kernel), List.mem_of_getElem? (i := 395) (by decide +kernel)⟩
theorem lw_p3 : lw_okq (⟨"ConsYard$Cells", "reach", "(J)V"⟩, 10) := ⟨⟨by decide +kernel, by decide +kernel⟩, List.mem_of_getElem? (i := 174) (by decide +kernel), List.mem_of_getElem? (i := 398) (by decide +kernel), List.mem_of_getElem? (i := 399) (by decide +kernel)⟩
theorem lw_p4 : lw_okq (⟨"ConsYard$Cells", "inUse", "()I"⟩, 10) := ⟨⟨by decide +kernel, by decide +kernel⟩, List.mem_of_getElem? (i := 174) (by decide +kernel), List.mem_of_getElem? (i := 413) (by decide +kernel), List.mem_of_getElem? (i := 414) (by decide +kernel)⟩
theorem lw_p5 : lw_okq (⟨"ConsYard$Printer", "printAtom", "(J)V"⟩, 4) := ⟨⟨by decide +kernel, by decide +kernel⟩, List.mem_of_getElem? (i := 312) (by decide +kernel), List.mem_of_getElem? (i := 472) (by decide +kernel), List.mem_of_getElem? (i := 473) (by decide +kernel)⟩
theorem lw_p6 : lw_okq (⟨"ConsYard$Printer", "printNumber", "(I)V"⟩, 4) := ⟨⟨by decide +kernel, by decide +kernel⟩, List.mem_of_getElem? (i := 312) (by decide +kernel), List.mem_of_getElem? (i := 483) (by decide +kernel), List.mem_of_getElem? (i := 484) (by decide +kernel)⟩
theorem lw_p7 : lw_okq (⟨"ConsYard$Printer", "nextElement", "()J"⟩, 4) := ⟨⟨by decide +kernel, by decide +kernel⟩, List.mem_of_getElem? (i := 312) (by decide +kernel), List.mem_of_getElem? (i := 501) (by decide +kernel), List.mem_of_getElem? (i := 502) (by decide +kernel)⟩
theorem lw_p8 : lw_okq (⟨"ConsYard$Printer", "closeList", "(J)V"⟩, 4) := ⟨⟨by decide +kernel, by decide +kernel⟩, List.mem_of_getElem? (i := 312) (by decide +kernel), List.mem_of_getElem? (i := 511) (by decide +kernel), List.mem_of_getElem? (i := 512) (by decide +kernel)⟩
theorem lw_p9 : lw_okq (⟨"java/lang/Throwable", "fillInStackTrace", "(I)Ljava/lang/Throwable;"⟩, 6) := ⟨⟨by decide +kernel, by decide +kernel⟩, List.mem_of_getElem? (i := 568) (by decide +kernel), List.mem_of_getElem? (i := 566) (by decide +kernel), List.mem_of_getElem? (i := 567) (by decide +kernel)⟩
theorem lw_p10 : lw_okq (⟨"ConsYard$Reader", "fail", "(II)V"⟩, 13) := ⟨⟨by decide +kernel, by decide +kernel⟩, List.mem_of_getElem? (i := 218) (by decide +kernel), List.mem_of_getElem? (i := 609) (by decide +kernel), List.mem_of_getElem? (i := 610) (by decide +kernel)⟩
theorem lw_p11 : lw_okq (⟨"ConsYard$Reader", "readSymbol", "()I"⟩, 13) := ⟨⟨by decide +kernel, by decide +kernel⟩, List.mem_of_getElem? (i := 218) (by decide +kernel), List.mem_of_getElem? (i := 613) (by decide +kernel), List.mem_of_getElem? (i := 614) (by decide +kernel)⟩
theorem lw_p12 : lw_okq (⟨"ConsYard$Symbols", "isNamed", "(ILConsYard$Bytes;I)Z"⟩, 3) := ⟨⟨by decide +kernel, by decide +kernel⟩, List.mem_of_getElem? (i := 104) (by decide +kernel), List.mem_of_getElem? (i := 624) (by decide +kernel), List.mem_of_getElem? (i := 625) (by decide +kernel)⟩
theorem lw_p13 : lw_okq (⟨"ConsYard$Reader", "readToken", "()V"⟩, 13) := ⟨⟨by decide +kernel, by decide +kernel⟩, List.mem_of_getElem? (i := 218) (by decide +kernel), List.mem_of_getElem? (i := 633) (by decide +kernel), List.mem_of_getElem? (i := 634) (by decide +kernel)⟩
theorem lw_p14 : lw_okq (⟨"ConsYard$Reader", "openOne", "(I)V"⟩, 13) := ⟨⟨by decide +kernel, by decide +kernel⟩, List.mem_of_getElem? (i := 218) (by decide +kernel), List.mem_of_getElem? (i := 637) (by decide +kernel), List.mem_of_getElem? (i := 638) (by decide +kernel)⟩
theorem lw_p15 : lw_okq (⟨"ConsYard$Reader", "mayBegin", "()Z"⟩, 13) := ⟨⟨by decide +kernel, by decide +kernel⟩, List.mem_of_getElem? (i := 218) (by decide +kernel), List.mem_of_getElem? (i := 641) (by decide +kernel), List.mem_of_getElem? (i := 642) (by decide +kernel)⟩
def lw_privs_1 : List (MethodName × Nat) := [(⟨"ConsYard$Symbols", "addSign", "(I)V"⟩, 3), (⟨"ConsYard$Cells", "takeBack", "()V"⟩, 10), (⟨"ConsYard$Cells", "collect", "(JJ)V"⟩, 10), (⟨"ConsYard$Cells", "reach", "(J)V"⟩, 10), (⟨"ConsYard$Cells", "inUse", "()I"⟩, 10), (⟨"ConsYard$Printer", "printAtom", "(J)V"⟩, 4), (⟨"ConsYard$Printer", "printNumber", "(I)V"⟩, 4), (⟨"ConsYard$Printer", "nextElement", "()J"⟩, 4), (⟨"ConsYard$Printer", "closeList", "(J)V"⟩, 4), (⟨"java/lang/Throwable", "fillInStackTrace", "(I)Ljava/lang/Throwable;"⟩, 6), (⟨"ConsYard$Reader", "fail", "(II)V"⟩, 13), (⟨"ConsYard$Reader", "readSymbol", "()I"⟩, 13), (⟨"ConsYard$Symbols", "isNamed", "(ILConsYard$Bytes;I)Z"⟩, 3), (⟨"ConsYard$Reader", "readToken", "()V"⟩, 13), (⟨"ConsYard$Reader", "openOne", "(I)V"⟩, 13), (⟨"ConsYard$Reader", "mayBegin", "()Z"⟩, 13)]
theorem lw_r1 : ∀ q ∈ lw_privs_1, lw_okq q := List.forall_mem_cons.mpr ⟨lw_p0, List.forall_mem_cons.mpr ⟨lw_p1, List.forall_mem_cons.mpr ⟨lw_p2, List.forall_mem_cons.mpr ⟨lw_p3, List.forall_mem_cons.mpr ⟨lw_p4, List.forall_mem_cons.mpr ⟨lw_p5, List.forall_mem_cons.mpr ⟨lw_p6, List.forall_mem_cons.mpr ⟨lw_p7, List.forall_mem_cons.mpr ⟨lw_p8, List.forall_mem_cons.mpr ⟨lw_p9, List.forall_mem_cons.mpr ⟨lw_p10, List.forall_mem_cons.mpr ⟨lw_p11, List.forall_mem_cons.mpr ⟨lw_p12, List.forall_mem_cons.mpr ⟨lw_p13, List.forall_mem_cons.mpr ⟨lw_p14, List.forall_mem_cons.mpr ⟨lw_p15, fun _ h => absurd h List.not_mem_nil⟩⟩⟩⟩⟩⟩⟩⟩⟩⟩⟩⟩⟩⟩⟩⟩
theorem lw_p16 : lw_okq (⟨"ConsYard$Reader", "state", "()I"⟩, 13) := ⟨⟨by decide +kernel, by decide +kernel⟩, List.mem_of_getElem? (i := 218) (by decide +kernel), List.mem_of_getElem? (i := 645) (by decide +kernel), List.mem_of_getElem? (i := 646) (by decide +kernel)⟩
theorem lw_p17 : lw_okq (⟨"ConsYard$Reader", "closeList", "()V"⟩, 13) := ⟨⟨by decide +kernel, by decide +kernel⟩, List.mem_of_getElem? (i := 218) (by decide +kernel), List.mem_of_getElem? (i := 650) (by decide +kernel), List.mem_of_getElem? (i := 651) (by decide +kernel)⟩
theorem lw_p18 : lw_okq (⟨"ConsYard$Reader", "complete", "(JI)V"⟩, 13) := ⟨⟨by decide +kernel, by decide +kernel⟩, List.mem_of_getElem? (i := 218) (by decide +kernel), List.mem_of_getElem? (i := 664) (by decide +kernel), List.mem_of_getElem? (i := 665) (by decide +kernel)⟩
theorem lw_p19 : lw_okq (⟨"ConsYard$Reader", "setState", "(I)V"⟩, 13) := ⟨⟨by decide +kernel, by decide +kernel⟩, List.mem_of_getElem? (i := 218) (by decide +kernel), List.mem_of_getElem? (i := 670) (by decide +kernel), List.mem_of_getElem? (i := 671) (by decide +kernel)⟩
theorem lw_p20 : lw_okq (⟨"ConsYard$Reader", "readDot", "()V"⟩, 13) := ⟨⟨by decide +kernel, by decide +kernel⟩, List.mem_of_getElem? (i := 218) (by decide +kernel), List.mem_of_getElem? (i := 674) (by decide +kernel), List.mem_of_getElem? (i := 675) (by decide +kernel)⟩
theorem lw_p21 : lw_okq (⟨"ConsYard$Reader", "readAtom", "(I)V"⟩, 13) := ⟨⟨by decide +kernel, by decide +kernel⟩, List.mem_of_getElem? (i := 218) (by decide +kernel), List.mem_of_getElem? (i := 678) (by decide +kernel), List.mem_of_getElem? (i := 679) (by decide +kernel)⟩
theorem lw_p22 : lw_okq (⟨"ConsYard$Reader", "readNumber", "()J"⟩, 13) := ⟨⟨by decide +kernel, by decide +kernel⟩, List.mem_of_getElem? (i := 218) (by decide +kernel), List.mem_of_getElem? (i := 682) (by decide +kernel), List.mem_of_getElem? (i := 683) (by decide +kernel)⟩
theorem lw_p23 : lw_okq (⟨"ConsYard$Machine", "burn", "()Z"⟩, 13) := ⟨⟨by decide +kernel, by decide +kernel⟩, List.mem_of_getElem? (i := 264) (by decide +kernel), List.mem_of_getElem? (i := 716) (by decide +kernel), List.mem_of_getElem? (i := 717) (by decide +kernel)⟩
theorem lw_p24 : lw_okq (⟨"ConsYard$Machine", "fail", "(I)V"⟩, 13) := ⟨⟨by decide +kernel, by decide +kernel⟩, List.mem_of_getElem? (i := 264) (by decide +kernel), List.mem_of_getElem? (i := 720) (by decide +kernel), List.mem_of_getElem? (i := 721) (by decide +kernel)⟩
theorem lw_p25 : lw_okq (⟨"ConsYard$Machine", "evaluate", "()V"⟩, 13) := ⟨⟨by decide +kernel, by decide +kernel⟩, List.mem_of_getElem? (i := 264) (by decide +kernel), List.mem_of_getElem? (i := 724) (by decide +kernel), List.mem_of_getElem? (i := 725) (by decide +kernel)⟩
theorem lw_p26 : lw_okq (⟨"ConsYard$Machine", "evaluateAtom", "(J)V"⟩, 13) := ⟨⟨by decide +kernel, by decide +kernel⟩, List.mem_of_getElem? (i := 264) (by decide +kernel), List.mem_of_getElem? (i := 729) (by decide +kernel), List.mem_of_getElem? (i := 730) (by decide +kernel)⟩
theorem lw_p27 : lw_okq (⟨"ConsYard$Machine", "give", "(J)V"⟩, 13) := ⟨⟨by decide +kernel, by decide +kernel⟩, List.mem_of_getElem? (i := 264) (by decide +kernel), List.mem_of_getElem? (i := 737) (by decide +kernel), List.mem_of_getElem? (i := 738) (by decide +kernel)⟩
theorem lw_p28 : lw_okq (⟨"ConsYard$Machine", "emptyHand", "()V"⟩, 13) := ⟨⟨by decide +kernel, by decide +kernel⟩, List.mem_of_getElem? (i := 264) (by decide +kernel), List.mem_of_getElem? (i := 741) (by decide +kernel), List.mem_of_getElem? (i := 742) (by decide +kernel)⟩
theorem lw_p29 : lw_okq (⟨"ConsYard$Machine", "lookUp", "(J)J"⟩, 13) := ⟨⟨by decide +kernel, by decide +kernel⟩, List.mem_of_getElem? (i := 264) (by decide +kernel), List.mem_of_getElem? (i := 746) (by decide +kernel), List.mem_of_getElem? (i := 747) (by decide +kernel)⟩
theorem lw_p30 : lw_okq (⟨"ConsYard$Machine", "askHead", "(J)J"⟩, 13) := ⟨⟨by decide +kernel, by decide +kernel⟩, List.mem_of_getElem? (i := 264) (by decide +kernel), List.mem_of_getElem? (i := 751) (by decide +kernel), List.mem_of_getElem? (i := 752) (by decide +kernel)⟩
theorem lw_p31 : lw_okq (⟨"ConsYard$Machine", "askSecond", "(J)J"⟩, 13) := ⟨⟨by decide +kernel, by decide +kernel⟩, List.mem_of_getElem? (i := 264) (by decide +kernel), List.mem_of_getElem? (i := 758) (by decide +kernel), List.mem_of_getElem? (i := 759) (by decide +kernel)⟩
def lw_privs_2 : List (MethodName × Nat) := [(⟨"ConsYard$Reader", "state", "()I"⟩, 13), (⟨"ConsYard$Reader", "closeList", "()V"⟩, 13), (⟨"ConsYard$Reader", "complete", "(JI)V"⟩, 13), (⟨"ConsYard$Reader", "setState", "(I)V"⟩, 13), (⟨"ConsYard$Reader", "readDot", "()V"⟩, 13), (⟨"ConsYard$Reader", "readAtom", "(I)V"⟩, 13), (⟨"ConsYard$Reader", "readNumber", "()J"⟩, 13), (⟨"ConsYard$Machine", "burn", "()Z"⟩, 13), (⟨"ConsYard$Machine", "fail", "(I)V"⟩, 13), (⟨"ConsYard$Machine", "evaluate", "()V"⟩, 13), (⟨"ConsYard$Machine", "evaluateAtom", "(J)V"⟩, 13), (⟨"ConsYard$Machine", "give", "(J)V"⟩, 13), (⟨"ConsYard$Machine", "emptyHand", "()V"⟩, 13), (⟨"ConsYard$Machine", "lookUp", "(J)J"⟩, 13), (⟨"ConsYard$Machine", "askHead", "(J)J"⟩, 13), (⟨"ConsYard$Machine", "askSecond", "(J)J"⟩, 13)]
theorem lw_r2 : ∀ q ∈ lw_privs_2, lw_okq q := List.forall_mem_cons.mpr ⟨lw_p16, List.forall_mem_cons.mpr ⟨lw_p17, List.forall_mem_cons.mpr ⟨lw_p18, List.forall_mem_cons.mpr ⟨lw_p19, List.forall_mem_cons.mpr ⟨lw_p20, List.forall_mem_cons.mpr ⟨lw_p21, List.forall_mem_cons.mpr ⟨lw_p22, List.forall_mem_cons.mpr ⟨lw_p23, List.forall_mem_cons.mpr ⟨lw_p24, List.forall_mem_cons.mpr ⟨lw_p25, List.forall_mem_cons.mpr ⟨lw_p26, List.forall_mem_cons.mpr ⟨lw_p27, List.forall_mem_cons.mpr ⟨lw_p28, List.forall_mem_cons.mpr ⟨lw_p29, List.forall_mem_cons.mpr ⟨lw_p30, List.forall_mem_cons.mpr ⟨lw_p31, fun _ h => absurd h List.not_mem_nil⟩⟩⟩⟩⟩⟩⟩⟩⟩⟩⟩⟩⟩⟩⟩⟩
theorem lw_p32 : lw_okq (⟨"ConsYard$Machine", "askTail", "(J)J"⟩, 13) := ⟨⟨by decide +kernel, by decide +kernel⟩, List.mem_of_getElem? (i := 264) (by decide +kernel), List.mem_of_getElem? (i := 762) (by decide +kernel), List.mem_of_getElem? (i := 763) (by decide +kernel)⟩
theorem lw_p33 : lw_okq (⟨"ConsYard$Machine", "evaluateCond", "(J)V"⟩, 13) := ⟨⟨by decide +kernel, by decide +kernel⟩, List.mem_of_getElem? (i := 264) (by decide +kernel), List.mem_of_getElem? (i := 767) (by decide +kernel), List.mem_of_getElem? (i := 768) (by decide +kernel)⟩
theorem lw_p34 : lw_okq (⟨"ConsYard$Machine", "pushFrame", "(JJ)V"⟩, 13) := ⟨⟨by decide +kernel, by decide +kernel⟩, List.mem_of_getElem? (i := 264) (by decide +kernel), List.mem_of_getElem? (i := 771) (by decide +kernel), List.mem_of_getElem? (i := 772) (by decide +kernel)⟩
theorem lw_p35 : lw_okq (⟨"ConsYard$Machine", "evaluateNext", "(J)V"⟩, 13) := ⟨⟨by decide +kernel, by decide +kernel⟩, List.mem_of_getElem? (i := 264) (by decide +kernel), List.mem_of_getElem? (i := 780) (by decide +kernel), List.mem_of_getElem? (i := 781) (by decide +kernel)⟩
theorem lw_p36 : lw_okq (⟨"ConsYard$Machine", "evaluateFunction", "(J)V"⟩, 13) := ⟨⟨by decide +kernel, by decide +kernel⟩, List.mem_of_getElem? (i := 264) (by decide +kernel), List.mem_of_getElem? (i := 785) (by decide +kernel), List.mem_of_getElem? (i := 786) (by decide +kernel)⟩
theorem lw_p37 : lw_okq (⟨"ConsYard$Machine", "cons", "(JJ)J"⟩, 13) := ⟨⟨by decide +kernel, by decide +kernel⟩, List.mem_of_getElem? (i := 264) (by decide +kernel), List.mem_of_getElem? (i := 789) (by decide +kernel), List.mem_of_getElem? (i := 790) (by decide +kernel)⟩
theorem lw_p38 : lw_okq (⟨"ConsYard$Machine", "evaluateCall", "(JJ)V"⟩, 13) := ⟨⟨by decide +kernel, by decide +kernel⟩, List.mem_of_getElem? (i := 264) (by decide +kernel), List.mem_of_getElem? (i := 795) (by decide +kernel), List.mem_of_getElem? (i := 796) (by decide +kernel)⟩
theorem lw_p39 : lw_okq (⟨"ConsYard$Machine", "takeValue", "()V"⟩, 13) := ⟨⟨by decide +kernel, by decide +kernel⟩, List.mem_of_getElem? (i := 264) (by decide +kernel), List.mem_of_getElem? (i := 799) (by decide +kernel), List.mem_of_getElem? (i := 800) (by decide +kernel)⟩
theorem lw_p40 : lw_okq (⟨"ConsYard$Machine", "takeChoice", "(I)V"⟩, 13) := ⟨⟨by decide +kernel, by decide +kernel⟩, List.mem_of_getElem? (i := 264) (by decide +kernel), List.mem_of_getElem? (i := 804) (by decide +kernel), List.mem_of_getElem? (i := 805) (by decide +kernel)⟩
theorem lw_p41 : lw_okq (⟨"ConsYard$Machine", "popFrame", "(I)V"⟩, 13) := ⟨⟨by decide +kernel, by decide +kernel⟩, List.mem_of_getElem? (i := 264) (by decide +kernel), List.mem_of_getElem? (i := 808) (by decide +kernel), List.mem_of_getElem? (i := 809) (by decide +kernel)⟩
theorem lw_p42 : lw_okq (⟨"ConsYard$Machine", "takeArgument", "(I)V"⟩, 13) := ⟨⟨by decide +kernel, by decide +kernel⟩, List.mem_of_getElem? (i := 264) (by decide +kernel), List.mem_of_getElem? (i := 813) (by decide +kernel), List.mem_of_getElem? (i := 814) (by decide +kernel)⟩
theorem lw_p43 : lw_okq (⟨"ConsYard$Machine", "takeInHand", "(I)V"⟩, 13) := ⟨⟨by decide +kernel, by decide +kernel⟩, List.mem_of_getElem? (i := 264) (by decide +kernel), List.mem_of_getElem? (i := 817) (by decide +kernel), List.mem_of_getElem? (i := 818) (by decide +kernel)⟩
theorem lw_p44 : lw_okq (⟨"ConsYard$Machine", "isBuiltIn", "(J)Z"⟩, 13) := ⟨⟨by decide +kernel, by decide +kernel⟩, List.mem_of_getElem? (i := 264) (by decide +kernel), List.mem_of_getElem? (i := 821) (by decide +kernel), List.mem_of_getElem? (i := 822) (by decide +kernel)⟩
theorem lw_p45 : lw_okq (⟨"ConsYard$Machine", "applyBuiltIn", "()V"⟩, 13) := ⟨⟨by decide +kernel, by decide +kernel⟩, List.mem_of_getElem? (i := 264) (by decide +kernel), List.mem_of_getElem? (i := 827) (by decide +kernel), List.mem_of_getElem? (i := 828) (by decide +kernel)⟩
theorem lw_p46 : lw_okq (⟨"ConsYard$Machine", "givePart", "(JZ)V"⟩, 13) := ⟨⟨by decide +kernel, by decide +kernel⟩, List.mem_of_getElem? (i := 264) (by decide +kernel), List.mem_of_getElem? (i := 834) (by decide +kernel), List.mem_of_getElem? (i := 835) (by decide +kernel)⟩
theorem lw_p47 : lw_okq (⟨"ConsYard$Machine", "giveList", "()V"⟩, 13) := ⟨⟨by decide +kernel, by decide +kernel⟩, List.mem_of_getElem? (i := 264) (by decide +kernel), List.mem_of_getElem? (i := 841) (by decide +kernel), List.mem_of_getElem? (i := 842) (by decide +kernel)⟩
def lw_privs_3 : List (MethodName × Nat) := [(⟨"ConsYard$Machine", "askTail", "(J)J"⟩, 13), (⟨"ConsYard$Machine", "evaluateCond", "(J)V"⟩, 13), (⟨"ConsYard$Machine", "pushFrame", "(JJ)V"⟩, 13), (⟨"ConsYard$Machine", "evaluateNext", "(J)V"⟩, 13), (⟨"ConsYard$Machine", "evaluateFunction", "(J)V"⟩, 13), (⟨"ConsYard$Machine", "cons", "(JJ)J"⟩, 13), (⟨"ConsYard$Machine", "evaluateCall", "(JJ)V"⟩, 13), (⟨"ConsYard$Machine", "takeValue", "()V"⟩, 13), (⟨"ConsYard$Machine", "takeChoice", "(I)V"⟩, 13), (⟨"ConsYard$Machine", "popFrame", "(I)V"⟩, 13), (⟨"ConsYard$Machine", "takeArgument", "(I)V"⟩, 13), (⟨"ConsYard$Machine", "takeInHand", "(I)V"⟩, 13), (⟨"ConsYard$Machine", "isBuiltIn", "(J)Z"⟩, 13), (⟨"ConsYard$Machine", "applyBuiltIn", "()V"⟩, 13), (⟨"ConsYard$Machine", "givePart", "(JZ)V"⟩, 13), (⟨"ConsYard$Machine", "giveList", "()V"⟩, 13)]
theorem lw_r3 : ∀ q ∈ lw_privs_3, lw_okq q := List.forall_mem_cons.mpr ⟨lw_p32, List.forall_mem_cons.mpr ⟨lw_p33, List.forall_mem_cons.mpr ⟨lw_p34, List.forall_mem_cons.mpr ⟨lw_p35, List.forall_mem_cons.mpr ⟨lw_p36, List.forall_mem_cons.mpr ⟨lw_p37, List.forall_mem_cons.mpr ⟨lw_p38, List.forall_mem_cons.mpr ⟨lw_p39, List.forall_mem_cons.mpr ⟨lw_p40, List.forall_mem_cons.mpr ⟨lw_p41, List.forall_mem_cons.mpr ⟨lw_p42, List.forall_mem_cons.mpr ⟨lw_p43, List.forall_mem_cons.mpr ⟨lw_p44, List.forall_mem_cons.mpr ⟨lw_p45, List.forall_mem_cons.mpr ⟨lw_p46, List.forall_mem_cons.mpr ⟨lw_p47, fun _ h => absurd h List.not_mem_nil⟩⟩⟩⟩⟩⟩⟩⟩⟩⟩⟩⟩⟩⟩⟩⟩
theorem lw_p48 : lw_okq (⟨"ConsYard$Machine", "giveReckoned", "(IJJ)V"⟩, 13) := ⟨⟨by decide +kernel, by decide +kernel⟩, List.mem_of_getElem? (i := 264) (by decide +kernel), List.mem_of_getElem? (i := 846) (by decide +kernel), List.mem_of_getElem? (i := 847) (by decide +kernel)⟩
theorem lw_p49 : lw_okq (⟨"ConsYard$Machine", "apply", "()V"⟩, 13) := ⟨⟨by decide +kernel, by decide +kernel⟩, List.mem_of_getElem? (i := 264) (by decide +kernel), List.mem_of_getElem? (i := 852) (by decide +kernel), List.mem_of_getElem? (i := 853) (by decide +kernel)⟩
theorem lw_p50 : lw_okq (⟨"ConsYard$Machine", "applySymbol", "(J)V"⟩, 13) := ⟨⟨by decide +kernel, by decide +kernel⟩, List.mem_of_getElem? (i := 264) (by decide +kernel), List.mem_of_getElem? (i := 856) (by decide +kernel), List.mem_of_getElem? (i := 857) (by decide +kernel)⟩
theorem lw_p51 : lw_okq (⟨"ConsYard$Machine", "applyLambda", "(J)V"⟩, 13) := ⟨⟨by decide +kernel, by decide +kernel⟩, List.mem_of_getElem? (i := 264) (by decide +kernel), List.mem_of_getElem? (i := 861) (by decide +kernel), List.mem_of_getElem? (i := 862) (by decide +kernel)⟩
theorem lw_p52 : lw_okq (⟨"ConsYard$Machine", "lookAtVariables", "(J)I"⟩, 13) := ⟨⟨by decide +kernel, by decide +kernel⟩, List.mem_of_getElem? (i := 264) (by decide +kernel), List.mem_of_getElem? (i := 865) (by decide +kernel), List.mem_of_getElem? (i := 866) (by decide +kernel)⟩
theorem lw_p53 : lw_okq (⟨"ConsYard$Machine", "askVariable", "(J)V"⟩, 13) := ⟨⟨by decide +kernel, by decide +kernel⟩, List.mem_of_getElem? (i := 264) (by decide +kernel), List.mem_of_getElem? (i := 869) (by decide +kernel), List.mem_of_getElem? (i := 870) (by decide +kernel)⟩
theorem lw_p54 : lw_okq (⟨"ConsYard$Machine", "askThird", "(J)J"⟩, 13) := ⟨⟨by decide +kernel, by decide +kernel⟩, List.mem_of_getElem? (i := 264) (by decide +kernel), List.mem_of_getElem? (i := 873) (by decide +kernel), List.mem_of_getElem? (i := 874) (by decide +kernel)⟩
theorem lw_p55 : lw_okq (⟨"ConsYard$Machine", "applyLabel", "(J)V"⟩, 13) := ⟨⟨by decide +kernel, by decide +kernel⟩, List.mem_of_getElem? (i := 264) (by decide +kernel), List.mem_of_getElem? (i := 878) (by decide +kernel), List.mem_of_getElem? (i := 879) (by decide +kernel)⟩
theorem lw_p56 : lw_okq (⟨"ConsYard$Machine", "applyFunarg", "(J)V"⟩, 13) := ⟨⟨by decide +kernel, by decide +kernel⟩, List.mem_of_getElem? (i := 264) (by decide +kernel), List.mem_of_getElem? (i := 882) (by decide +kernel), List.mem_of_getElem? (i := 883) (by decide +kernel)⟩
theorem lw_p57 : lw_okq (⟨"ConsYard$Machine", "letGo", "()V"⟩, 13) := ⟨⟨by decide +kernel, by decide +kernel⟩, List.mem_of_getElem? (i := 264) (by decide +kernel), List.mem_of_getElem? (i := 886) (by decide +kernel), List.mem_of_getElem? (i := 887) (by decide +kernel)⟩
theorem lw_p58 : lw_okq (⟨"ConsYardModel", "begins", "(IZ)Z"⟩, 48) := ⟨⟨by decide +kernel, by decide +kernel⟩, List.mem_of_getElem? (i := 916) (by decide +kernel), List.mem_of_getElem? (i := 1107) (by decide +kernel), List.mem_of_getElem? (i := 1108) (by decide +kernel)⟩
theorem lw_p59 : lw_okq (⟨"ConsYardModel", "nothing", "()V"⟩, 48) := ⟨⟨by decide +kernel, by decide +kernel⟩, List.mem_of_getElem? (i := 916) (by decide +kernel), List.mem_of_getElem? (i := 1111) (by decide +kernel), List.mem_of_getElem? (i := 1112) (by decide +kernel)⟩
theorem lw_p60 : lw_okq (⟨"ConsYardModel", "blanks", "()V"⟩, 48) := ⟨⟨by decide +kernel, by decide +kernel⟩, List.mem_of_getElem? (i := 916) (by decide +kernel), List.mem_of_getElem? (i := 1115) (by decide +kernel), List.mem_of_getElem? (i := 1116) (by decide +kernel)⟩
theorem lw_p61 : lw_okq (⟨"ConsYardModel", "byteAt", "(I)I"⟩, 48) := ⟨⟨by decide +kernel, by decide +kernel⟩, List.mem_of_getElem? (i := 916) (by decide +kernel), List.mem_of_getElem? (i := 1119) (by decide +kernel), List.mem_of_getElem? (i := 1120) (by decide +kernel)⟩
theorem lw_p62 : lw_okq (⟨"ConsYardModel", "failsAt", "(II)Ljava/lang/IllegalStateException;"⟩, 48) := ⟨⟨by decide +kernel, by decide +kernel⟩, List.mem_of_getElem? (i := 916) (by decide +kernel), List.mem_of_getElem? (i := 1126) (by decide +kernel), List.mem_of_getElem? (i := 1127) (by decide +kernel)⟩
theorem lw_p63 : lw_okq (⟨"ConsYardModel", "fails", "(I)Ljava/lang/IllegalStateException;"⟩, 48) := ⟨⟨by decide +kernel, by decide +kernel⟩, List.mem_of_getElem? (i := 916) (by decide +kernel), List.mem_of_getElem? (i := 1130) (by decide +kernel), List.mem_of_getElem? (i := 1131) (by decide +kernel)⟩
def lw_privs_4 : List (MethodName × Nat) := [(⟨"ConsYard$Machine", "giveReckoned", "(IJJ)V"⟩, 13), (⟨"ConsYard$Machine", "apply", "()V"⟩, 13), (⟨"ConsYard$Machine", "applySymbol", "(J)V"⟩, 13), (⟨"ConsYard$Machine", "applyLambda", "(J)V"⟩, 13), (⟨"ConsYard$Machine", "lookAtVariables", "(J)I"⟩, 13), (⟨"ConsYard$Machine", "askVariable", "(J)V"⟩, 13), (⟨"ConsYard$Machine", "askThird", "(J)J"⟩, 13), (⟨"ConsYard$Machine", "applyLabel", "(J)V"⟩, 13), (⟨"ConsYard$Machine", "applyFunarg", "(J)V"⟩, 13), (⟨"ConsYard$Machine", "letGo", "()V"⟩, 13), (⟨"ConsYardModel", "begins", "(IZ)Z"⟩, 48), (⟨"ConsYardModel", "nothing", "()V"⟩, 48), (⟨"ConsYardModel", "blanks", "()V"⟩, 48), (⟨"ConsYardModel", "byteAt", "(I)I"⟩, 48), (⟨"ConsYardModel", "failsAt", "(II)Ljava/lang/IllegalStateException;"⟩, 48), (⟨"ConsYardModel", "fails", "(I)Ljava/lang/IllegalStateException;"⟩, 48)]
theorem lw_r4 : ∀ q ∈ lw_privs_4, lw_okq q := List.forall_mem_cons.mpr ⟨lw_p48, List.forall_mem_cons.mpr ⟨lw_p49, List.forall_mem_cons.mpr ⟨lw_p50, List.forall_mem_cons.mpr ⟨lw_p51, List.forall_mem_cons.mpr ⟨lw_p52, List.forall_mem_cons.mpr ⟨lw_p53, List.forall_mem_cons.mpr ⟨lw_p54, List.forall_mem_cons.mpr ⟨lw_p55, List.forall_mem_cons.mpr ⟨lw_p56, List.forall_mem_cons.mpr ⟨lw_p57, List.forall_mem_cons.mpr ⟨lw_p58, List.forall_mem_cons.mpr ⟨lw_p59, List.forall_mem_cons.mpr ⟨lw_p60, List.forall_mem_cons.mpr ⟨lw_p61, List.forall_mem_cons.mpr ⟨lw_p62, List.forall_mem_cons.mpr ⟨lw_p63, fun _ h => absurd h List.not_mem_nil⟩⟩⟩⟩⟩⟩⟩⟩⟩⟩⟩⟩⟩⟩⟩⟩
theorem lw_p64 : lw_okq (⟨"ConsYardModel", "symbol", "()J"⟩, 48) := ⟨⟨by decide +kernel, by decide +kernel⟩, List.mem_of_getElem? (i := 916) (by decide +kernel), List.mem_of_getElem? (i := 1134) (by decide +kernel), List.mem_of_getElem? (i := 1135) (by decide +kernel)⟩
theorem lw_p65 : lw_okq (⟨"ConsYardModel", "whole", "()J"⟩, 48) := ⟨⟨by decide +kernel, by decide +kernel⟩, List.mem_of_getElem? (i := 916) (by decide +kernel), List.mem_of_getElem? (i := 1144) (by decide +kernel), List.mem_of_getElem? (i := 1145) (by decide +kernel)⟩
theorem lw_p66 : lw_okq (⟨"ConsYardModel", "reads", "()J"⟩, 48) := ⟨⟨by decide +kernel, by decide +kernel⟩, List.mem_of_getElem? (i := 916) (by decide +kernel), List.mem_of_getElem? (i := 1148) (by decide +kernel), List.mem_of_getElem? (i := 1149) (by decide +kernel)⟩
theorem lw_p67 : lw_okq (⟨"ConsYardModel", "closes", "()J"⟩, 48) := ⟨⟨by decide +kernel, by decide +kernel⟩, List.mem_of_getElem? (i := 916) (by decide +kernel), List.mem_of_getElem? (i := 1152) (by decide +kernel), List.mem_of_getElem? (i := 1153) (by decide +kernel)⟩
theorem lw_p68 : lw_okq (⟨"ConsYardModel", "cons", "(JJJ)J"⟩, 48) := ⟨⟨by decide +kernel, by decide +kernel⟩, List.mem_of_getElem? (i := 916) (by decide +kernel), List.mem_of_getElem? (i := 1156) (by decide +kernel), List.mem_of_getElem? (i := 1157) (by decide +kernel)⟩
theorem lw_p69 : lw_okq (⟨"ConsYardModel", "reach", "(JJJ)V"⟩, 48) := ⟨⟨by decide +kernel, by decide +kernel⟩, List.mem_of_getElem? (i := 916) (by decide +kernel), List.mem_of_getElem? (i := 1160) (by decide +kernel), List.mem_of_getElem? (i := 1161) (by decide +kernel)⟩
theorem lw_p70 : lw_okq (⟨"ConsYardModel", "reachFunctions", "()V"⟩, 48) := ⟨⟨by decide +kernel, by decide +kernel⟩, List.mem_of_getElem? (i := 916) (by decide +kernel), List.mem_of_getElem? (i := 1164) (by decide +kernel), List.mem_of_getElem? (i := 1165) (by decide +kernel)⟩
theorem lw_p71 : lw_okq (⟨"ConsYardModel", "visit", "(J)V"⟩, 48) := ⟨⟨by decide +kernel, by decide +kernel⟩, List.mem_of_getElem? (i := 916) (by decide +kernel), List.mem_of_getElem? (i := 1168) (by decide +kernel), List.mem_of_getElem? (i := 1169) (by decide +kernel)⟩
theorem lw_p72 : lw_okq (⟨"ConsYardModel", "walks", "()V"⟩, 48) := ⟨⟨by decide +kernel, by decide +kernel⟩, List.mem_of_getElem? (i := 916) (by decide +kernel), List.mem_of_getElem? (i := 1176) (by decide +kernel), List.mem_of_getElem? (i := 1177) (by decide +kernel)⟩
theorem lw_p73 : lw_okq (⟨"ConsYardModel", "mayBegin", "()Z"⟩, 48) := ⟨⟨by decide +kernel, by decide +kernel⟩, List.mem_of_getElem? (i := 916) (by decide +kernel), List.mem_of_getElem? (i := 1180) (by decide +kernel), List.mem_of_getElem? (i := 1181) (by decide +kernel)⟩
theorem lw_p74 : lw_okq (⟨"ConsYardModel", "isAtom", "()Z"⟩, 48) := ⟨⟨by decide +kernel, by decide +kernel⟩, List.mem_of_getElem? (i := 916) (by decide +kernel), List.mem_of_getElem? (i := 1184) (by decide +kernel), List.mem_of_getElem? (i := 1185) (by decide +kernel)⟩
theorem lw_p75 : lw_okq (⟨"ConsYardModel", "number", "()J"⟩, 48) := ⟨⟨by decide +kernel, by decide +kernel⟩, List.mem_of_getElem? (i := 916) (by decide +kernel), List.mem_of_getElem? (i := 1188) (by decide +kernel), List.mem_of_getElem? (i := 1189) (by decide +kernel)⟩
theorem lw_p76 : lw_okq (⟨"ConsYardModel", "quotes", "(JI)J"⟩, 48) := ⟨⟨by decide +kernel, by decide +kernel⟩, List.mem_of_getElem? (i := 916) (by decide +kernel), List.mem_of_getElem? (i := 1198) (by decide +kernel), List.mem_of_getElem? (i := 1199) (by decide +kernel)⟩
theorem lw_p77 : lw_okq (⟨"ConsYardModel", "failed", "(Z)I"⟩, 48) := ⟨⟨by decide +kernel, by decide +kernel⟩, List.mem_of_getElem? (i := 916) (by decide +kernel), List.mem_of_getElem? (i := 1203) (by decide +kernel), List.mem_of_getElem? (i := 1204) (by decide +kernel)⟩
theorem lw_p78 : lw_okq (⟨"ConsYardModel", "prints", "(J)V"⟩, 48) := ⟨⟨by decide +kernel, by decide +kernel⟩, List.mem_of_getElem? (i := 916) (by decide +kernel), List.mem_of_getElem? (i := 1211) (by decide +kernel), List.mem_of_getElem? (i := 1212) (by decide +kernel)⟩
theorem lw_p79 : lw_okq (⟨"ConsYardModel", "puts", "(I)V"⟩, 48) := ⟨⟨by decide +kernel, by decide +kernel⟩, List.mem_of_getElem? (i := 916) (by decide +kernel), List.mem_of_getElem? (i := 1215) (by decide +kernel), List.mem_of_getElem? (i := 1216) (by decide +kernel)⟩
def lw_privs_5 : List (MethodName × Nat) := [(⟨"ConsYardModel", "symbol", "()J"⟩, 48), (⟨"ConsYardModel", "whole", "()J"⟩, 48), (⟨"ConsYardModel", "reads", "()J"⟩, 48), (⟨"ConsYardModel", "closes", "()J"⟩, 48), (⟨"ConsYardModel", "cons", "(JJJ)J"⟩, 48), (⟨"ConsYardModel", "reach", "(JJJ)V"⟩, 48), (⟨"ConsYardModel", "reachFunctions", "()V"⟩, 48), (⟨"ConsYardModel", "visit", "(J)V"⟩, 48), (⟨"ConsYardModel", "walks", "()V"⟩, 48), (⟨"ConsYardModel", "mayBegin", "()Z"⟩, 48), (⟨"ConsYardModel", "isAtom", "()Z"⟩, 48), (⟨"ConsYardModel", "number", "()J"⟩, 48), (⟨"ConsYardModel", "quotes", "(JI)J"⟩, 48), (⟨"ConsYardModel", "failed", "(Z)I"⟩, 48), (⟨"ConsYardModel", "prints", "(J)V"⟩, 48), (⟨"ConsYardModel", "puts", "(I)V"⟩, 48)]
theorem lw_r5 : ∀ q ∈ lw_privs_5, lw_okq q := List.forall_mem_cons.mpr ⟨lw_p64, List.forall_mem_cons.mpr ⟨lw_p65, List.forall_mem_cons.mpr ⟨lw_p66, List.forall_mem_cons.mpr ⟨lw_p67, List.forall_mem_cons.mpr ⟨lw_p68, List.forall_mem_cons.mpr ⟨lw_p69, List.forall_mem_cons.mpr ⟨lw_p70, List.forall_mem_cons.mpr ⟨lw_p71, List.forall_mem_cons.mpr ⟨lw_p72, List.forall_mem_cons.mpr ⟨lw_p73, List.forall_mem_cons.mpr ⟨lw_p74, List.forall_mem_cons.mpr ⟨lw_p75, List.forall_mem_cons.mpr ⟨lw_p76, List.forall_mem_cons.mpr ⟨lw_p77, List.forall_mem_cons.mpr ⟨lw_p78, List.forall_mem_cons.mpr ⟨lw_p79, fun _ h => absurd h List.not_mem_nil⟩⟩⟩⟩⟩⟩⟩⟩⟩⟩⟩⟩⟩⟩⟩⟩
theorem lw_p80 : lw_okq (⟨"ConsYardModel", "tailOf", "(J)J"⟩, 48) := ⟨⟨by decide +kernel, by decide +kernel⟩, List.mem_of_getElem? (i := 916) (by decide +kernel), List.mem_of_getElem? (i := 1219) (by decide +kernel), List.mem_of_getElem? (i := 1220) (by decide +kernel)⟩
theorem lw_p81 : lw_okq (⟨"ConsYardModel", "headOf", "(J)J"⟩, 48) := ⟨⟨by decide +kernel, by decide +kernel⟩, List.mem_of_getElem? (i := 916) (by decide +kernel), List.mem_of_getElem? (i := 1223) (by decide +kernel), List.mem_of_getElem? (i := 1224) (by decide +kernel)⟩
theorem lw_p82 : lw_okq (⟨"ConsYardModel", "atom", "(J)V"⟩, 48) := ⟨⟨by decide +kernel, by decide +kernel⟩, List.mem_of_getElem? (i := 916) (by decide +kernel), List.mem_of_getElem? (i := 1227) (by decide +kernel), List.mem_of_getElem? (i := 1228) (by decide +kernel)⟩
theorem lw_p83 : lw_okq (⟨"ConsYardModel", "burn", "()V"⟩, 48) := ⟨⟨by decide +kernel, by decide +kernel⟩, List.mem_of_getElem? (i := 916) (by decide +kernel), List.mem_of_getElem? (i := 1238) (by decide +kernel), List.mem_of_getElem? (i := 1239) (by decide +kernel)⟩
theorem lw_p84 : lw_okq (⟨"ConsYardModel", "evaluates", "()I"⟩, 48) := ⟨⟨by decide +kernel, by decide +kernel⟩, List.mem_of_getElem? (i := 916) (by decide +kernel), List.mem_of_getElem? (i := 1242) (by decide +kernel), List.mem_of_getElem? (i := 1243) (by decide +kernel)⟩
theorem lw_p85 : lw_okq (⟨"ConsYardModel", "pairOf", "(J)J"⟩, 48) := ⟨⟨by decide +kernel, by decide +kernel⟩, List.mem_of_getElem? (i := 916) (by decide +kernel), List.mem_of_getElem? (i := 1251) (by decide +kernel), List.mem_of_getElem? (i := 1252) (by decide +kernel)⟩
theorem lw_p86 : lw_okq (⟨"ConsYardModel", "second", "(J)J"⟩, 48) := ⟨⟨by decide +kernel, by decide +kernel⟩, List.mem_of_getElem? (i := 916) (by decide +kernel), List.mem_of_getElem? (i := 1255) (by decide +kernel), List.mem_of_getElem? (i := 1256) (by decide +kernel)⟩
theorem lw_p87 : lw_okq (⟨"ConsYardModel", "frame", "(ZJJ)V"⟩, 48) := ⟨⟨by decide +kernel, by decide +kernel⟩, List.mem_of_getElem? (i := 916) (by decide +kernel), List.mem_of_getElem? (i := 1260) (by decide +kernel), List.mem_of_getElem? (i := 1261) (by decide +kernel)⟩
theorem lw_p88 : lw_okq (⟨"ConsYardModel", "returns", "()I"⟩, 48) := ⟨⟨by decide +kernel, by decide +kernel⟩, List.mem_of_getElem? (i := 916) (by decide +kernel), List.mem_of_getElem? (i := 1266) (by decide +kernel), List.mem_of_getElem? (i := 1267) (by decide +kernel)⟩
theorem lw_p89 : lw_okq (⟨"ConsYardModel", "applies", "()I"⟩, 48) := ⟨⟨by decide +kernel, by decide +kernel⟩, List.mem_of_getElem? (i := 916) (by decide +kernel), List.mem_of_getElem? (i := 1270) (by decide +kernel), List.mem_of_getElem? (i := 1271) (by decide +kernel)⟩
theorem lw_p90 : lw_okq (⟨"ConsYardModel", "built", "(I)I"⟩, 48) := ⟨⟨by decide +kernel, by decide +kernel⟩, List.mem_of_getElem? (i := 916) (by decide +kernel), List.mem_of_getElem? (i := 1274) (by decide +kernel), List.mem_of_getElem? (i := 1275) (by decide +kernel)⟩
theorem lw_p91 : lw_okq (⟨"ConsYardModel", "gives", "(J)I"⟩, 48) := ⟨⟨by decide +kernel, by decide +kernel⟩, List.mem_of_getElem? (i := 916) (by decide +kernel), List.mem_of_getElem? (i := 1278) (by decide +kernel), List.mem_of_getElem? (i := 1279) (by decide +kernel)⟩
theorem lw_p92 : lw_okq (⟨"ConsYardModel", "says", "(Z)I"⟩, 48) := ⟨⟨by decide +kernel, by decide +kernel⟩, List.mem_of_getElem? (i := 916) (by decide +kernel), List.mem_of_getElem? (i := 1282) (by decide +kernel), List.mem_of_getElem? (i := 1283) (by decide +kernel)⟩
theorem lw_p93 : lw_okq (⟨"ConsYardModel", "counts", "(IJJ)I"⟩, 48) := ⟨⟨by decide +kernel, by decide +kernel⟩, List.mem_of_getElem? (i := 916) (by decide +kernel), List.mem_of_getElem? (i := 1286) (by decide +kernel), List.mem_of_getElem? (i := 1287) (by decide +kernel)⟩
theorem lw_p94 : lw_okq (⟨"ConsYardModel", "binds", "()I"⟩, 48) := ⟨⟨by decide +kernel, by decide +kernel⟩, List.mem_of_getElem? (i := 916) (by decide +kernel), List.mem_of_getElem? (i := 1291) (by decide +kernel), List.mem_of_getElem? (i := 1292) (by decide +kernel)⟩
theorem lw_p95 : lw_okq (⟨"ConsYardModel", "third", "(J)J"⟩, 48) := ⟨⟨by decide +kernel, by decide +kernel⟩, List.mem_of_getElem? (i := 916) (by decide +kernel), List.mem_of_getElem? (i := 1295) (by decide +kernel), List.mem_of_getElem? (i := 1296) (by decide +kernel)⟩
def lw_privs_6 : List (MethodName × Nat) := [(⟨"ConsYardModel", "tailOf", "(J)J"⟩, 48), (⟨"ConsYardModel", "headOf", "(J)J"⟩, 48), (⟨"ConsYardModel", "atom", "(J)V"⟩, 48), (⟨"ConsYardModel", "burn", "()V"⟩, 48), (⟨"ConsYardModel", "evaluates", "()I"⟩, 48), (⟨"ConsYardModel", "pairOf", "(J)J"⟩, 48), (⟨"ConsYardModel", "second", "(J)J"⟩, 48), (⟨"ConsYardModel", "frame", "(ZJJ)V"⟩, 48), (⟨"ConsYardModel", "returns", "()I"⟩, 48), (⟨"ConsYardModel", "applies", "()I"⟩, 48), (⟨"ConsYardModel", "built", "(I)I"⟩, 48), (⟨"ConsYardModel", "gives", "(J)I"⟩, 48), (⟨"ConsYardModel", "says", "(Z)I"⟩, 48), (⟨"ConsYardModel", "counts", "(IJJ)I"⟩, 48), (⟨"ConsYardModel", "binds", "()I"⟩, 48), (⟨"ConsYardModel", "third", "(J)J"⟩, 48)]
theorem lw_r6 : ∀ q ∈ lw_privs_6, lw_okq q := List.forall_mem_cons.mpr ⟨lw_p80, List.forall_mem_cons.mpr ⟨lw_p81, List.forall_mem_cons.mpr ⟨lw_p82, List.forall_mem_cons.mpr ⟨lw_p83, List.forall_mem_cons.mpr ⟨lw_p84, List.forall_mem_cons.mpr ⟨lw_p85, List.forall_mem_cons.mpr ⟨lw_p86, List.forall_mem_cons.mpr ⟨lw_p87, List.forall_mem_cons.mpr ⟨lw_p88, List.forall_mem_cons.mpr ⟨lw_p89, List.forall_mem_cons.mpr ⟨lw_p90, List.forall_mem_cons.mpr ⟨lw_p91, List.forall_mem_cons.mpr ⟨lw_p92, List.forall_mem_cons.mpr ⟨lw_p93, List.forall_mem_cons.mpr ⟨lw_p94, List.forall_mem_cons.mpr ⟨lw_p95, fun _ h => absurd h List.not_mem_nil⟩⟩⟩⟩⟩⟩⟩⟩⟩⟩⟩⟩⟩⟩⟩⟩
theorem lw_p96 : lw_okq (⟨"ConsYardModel", "variable", "(J)V"⟩, 48) := ⟨⟨by decide +kernel, by decide +kernel⟩, List.mem_of_getElem? (i := 916) (by decide +kernel), List.mem_of_getElem? (i := 1299) (by decide +kernel), List.mem_of_getElem? (i := 1300) (by decide +kernel)⟩
theorem lw_p97 : lw_okq (⟨"ConsYardModel", "ofFunctions", "()I"⟩, 48) := ⟨⟨by decide +kernel, by decide +kernel⟩, List.mem_of_getElem? (i := 916) (by decide +kernel), List.mem_of_getElem? (i := 1312) (by decide +kernel), List.mem_of_getElem? (i := 1313) (by decide +kernel)⟩
def lw_privs_7 : List (MethodName × Nat) := [(⟨"ConsYardModel", "variable", "(J)V"⟩, 48), (⟨"ConsYardModel", "ofFunctions", "()I"⟩, 48)]
theorem lw_r7 : ∀ q ∈ lw_privs_7, lw_okq q := List.forall_mem_cons.mpr ⟨lw_p96, List.forall_mem_cons.mpr ⟨lw_p97, fun _ h => absurd h List.not_mem_nil⟩⟩
def lw_privs : List (MethodName × Nat) := lw_privs_1 ++ (lw_privs_2 ++ (lw_privs_3 ++ (lw_privs_4 ++ (lw_privs_5 ++ (lw_privs_6 ++ (lw_privs_7))))))
def lw_tbl : List Cond := k2_sels lw_privs ++ tables_1
theorem lw_privs_ok : ∀ q ∈ lw_privs, lw_okq q := by
  show ∀ q ∈ lw_privs_1 ++ (lw_privs_2 ++ (lw_privs_3 ++ (lw_privs_4 ++ (lw_privs_5 ++ (lw_privs_6 ++ (lw_privs_7)))))), lw_okq q
  exact List.forall_mem_append.mpr ⟨lw_r1, List.forall_mem_append.mpr ⟨lw_r2, List.forall_mem_append.mpr ⟨lw_r3, List.forall_mem_append.mpr ⟨lw_r4, List.forall_mem_append.mpr ⟨lw_r5, List.forall_mem_append.mpr ⟨lw_r6, lw_r7⟩⟩⟩⟩⟩⟩
end
section
/-! A throw that the method's own table takes: the row's own kind may be linked only now. -/
def fx_To (e : Env) (s : State) (f : JFrame) (a : Addr) (h : Handler) (vm' : Vm) : Prop :=
  ∀ (Q : Handler → Pre) (E : CtlPost) (d : Bool) (acts : List Action), wp (findHandler f a) Q E e d acts s ↔ Q h d acts (s.setVm vm')
theorem fx_go {Q : Handler → Pre} {E : CtlPost} {e : Env} {d : Bool} {acts : List Action} {s : State} {f : JFrame} {a : Addr} {x : ExceptionTableEntry} {t : List ExceptionTableEntry} {c : ClassId} {cell : Cell} (hx : covers x f.pc = true) (h0 : x.catchType ≠ 0)
    (hl : s.vm.ClassLinks e.platform f.method.cls x.catchType c) (hcell : s.heap[a]? = some cell) (hobj : ∀ k, cell.vm ≠ .statics k)
    (hk : ∃ k, s.vm.classes[cell.cls]? = some k) (hc : ∃ k, s.vm.classes[c]? = some k) (hfit : s.vm.assignable cell.cls c = true) :
    wp (findHandler.go f a (x :: t)) Q E e d acts s ↔ Q (.found x.handlerPc) d acts (s.setVm (s.vm.noted f.method.cls x.catchType (.cls c))) := by
  simp only [covers] at hx
  obtain ⟨ha, ht⟩ := (resolveClass_links e.toSetting hl).op (op := VmOp.resolveClass f.method.cls x.catchType) rfl
  have hal : s.vm.Alike (s.vm.noted f.method.cls x.catchType (.cls c)) := (Vm.Alike.refl s.vm).noted _ _ _
  obtain ⟨k1, hk1⟩ := hk
  obtain ⟨k2, hk2⟩ := hc
  obtain ⟨k1', hk1', -⟩ := hal.2.2 _ _ hk1
  obtain ⟨k2', hk2', -⟩ := hal.2.2 _ _ hk2
  have hfit' : (s.vm.noted f.method.cls x.catchType (.cls c)).assignable cell.cls c = true := by rw [hal.assignable]; exact hfit
  simp [findHandler.go, hx, h0, ha, ht, hcell, hobj, hk1', hk2', hfit', VmOp.dirties, VmOp.acts]
theorem fx_find {e : Env} {s : State} {f : JFrame} {a : Addr} {meth : Method} {code : Code} (hm : s.vm.method? f.method = some meth) (hc : meth.code = some code)
    (pre : List ExceptionTableEntry) (x : ExceptionTableEntry) (rest : List ExceptionTableEntry) (hsplit : code.exceptionTable.toList = pre ++ x :: rest)
    (hskip : ∀ y ∈ pre, covers y f.pc = false) (hx : covers x f.pc = true) (h0 : x.catchType ≠ 0) {c : ClassId} {cell : Cell}
    (hl : s.vm.ClassLinks e.platform f.method.cls x.catchType c) (hcell : s.heap[a]? = some cell) (hobj : ∀ k, cell.vm ≠ .statics k)
    (hk : ∃ k, s.vm.classes[cell.cls]? = some k) (hcl : ∃ k, s.vm.classes[c]? = some k) (hfit : s.vm.assignable cell.cls c = true) :
    fx_To e s f a (.found x.handlerPc) (s.vm.noted f.method.cls x.catchType (.cls c)) := by
  intro Q E d acts
  rw [Jvm.W.findHandler_eq hm hc, hsplit]
  clear hsplit
  induction pre with
  | nil => exact fx_go hx h0 hl hcell hobj hk hcl hfit
  | cons y ys ih =>
    rw [List.cons_append, Jvm.W.findHandler_go_skip (hskip y List.mem_cons_self)]
    exact ih (fun z hz => hskip z (List.mem_cons_of_mem _ hz))
theorem fx_step {e : Env} {s : State} {a : Addr} {f : JFrame} {r : List Frame} {pc : Nat} {vm' : Vm} (hfind : fx_To e s f a (.found pc) vm') :
    (stepThrowing e s a (.java f :: r)).Is ((s.setVm vm').setFrames (.java { f with pc := pc, stack := [.ref a] } :: r)) [] := by
  simp only [stepThrowing, searchFrame, vmDo]
  generalize hr : Sem.go _ e false [] s = res
  obtain ⟨as, rfl, ha⟩ := Sem.eq_ok_of hr (a := Handler.found pc) (s' := s.setVm vm') (acts' := []) (by simp [hfind _ _ _ _])
  exact ⟨rfl, ha⟩
theorem fx_frames (u : State) (vm' : Vm) (F G : List Frame) : ((u.setFrames F).setVm vm').setFrames G = (u.setVm vm').setFrames G := by
  have h1 : (u.setFrames F).setVm vm' = (u.setVm vm').setFrames F := rfl
  rw [h1, State.setFrames_setFrames]
theorem fx_caught {tb : Tables} {e : Env} {s target : State} {g : JFrame} {c : Code} {below : List Frame} {a : Addr} (h : At s g.method c below) {pc : Nat} {vm' : Vm}
    (hfind : fx_To e ((s.setTop g).pushFrame (.throwing a)) g a (.found pc) vm') (hrest : Steps tb e below ((s.setVm vm').setTop { g with pc := pc, stack := [.ref a] }) target) :
    Steps tb e below ((s.setTop g).pushFrame (.throwing a)) target := by
  obtain ⟨hgo, hw⟩ := h.throwing a
  refine Steps.head hgo hw ?_
  rw [stepThread_throwing (frames_entered h.top _), (fx_step (s := (s.setTop g).pushFrame (.throwing a)) hfind).1]
  obtain ⟨g₀, hg⟩ := Option.isSome_iff_exists.mp h.top
  obtain ⟨r, hr⟩ := State.topJava?_eq_some.mp hg
  have hr' : (s.setVm vm').frames = .java g₀ :: r := hr
  rw [State.setTop_of_frames _ hr'] at hrest
  rw [hr, List.tail_cons, State.pushFrame, fx_frames, State.setTop_of_frames _ hr, fx_frames]
  exact hrest
theorem fx_catch {p : Program} {l : Launch} {e : Env} {R : Room} {s : State} {m : MethodId} {args : Array Value} {below : List Frame} {meth : Method} {c : Code} {T : State} {locs : List Loc} {cells slots : Nat}
    (X : Stand p l e R s m args below meth c T locs cells slots) (a : Addr) {g : JFrame} (hg : g.method = m) {cell : Cell} (hcell : T.heap[a]? = some cell) (hobj : cell.vm.isStatics = false)
    (hk0 : ∃ k, s.vm.classes[cell.cls]? = some k) (pre : List ExceptionTableEntry) (x : ExceptionTableEntry) (rest : List ExceptionTableEntry) (hsplit : c.exceptionTable.toList = pre ++ x :: rest)
    (hskip : ∀ y ∈ pre, covers y g.pc = false) (hx : covers x g.pc = true) (h0 : x.catchType ≠ 0) {cc : ClassId} (hl : s.vm.ClassLinks e.platform m.cls x.catchType cc) (hfit : s.vm.assignable cell.cls cc = true) :
    ∃ vm', Stand p l e R s m args below meth c (T.setVm vm') locs cells slots ∧ Steps p.tables e below ((T.setTop g).pushFrame (.throwing a)) ((T.setVm vm').setTop { g with pc := x.handlerPc, stack := [.ref a] }) := by
  subst hg
  obtain ⟨k0, hk0⟩ := hk0
  obtain ⟨k0', hk0', -⟩ := X.warmed.alike.2.2 _ _ hk0
  obtain ⟨dk, _, _, kt, hd, _, _, _, _, hkt, _, hopen⟩ := hl.here
  obtain ⟨kt', hkt', -⟩ := X.warmed.alike.2.2 _ _ hkt
  have hvm : ((T.setTop g).pushFrame (.throwing a)).vm = T.vm := Stand.throwing_vm T g a
  have hhp : ((T.setTop g).pushFrame (.throwing a)).heap = T.heap := Stand.throwing_heap T g a
  have hf := fx_find (e := e) (s := (T.setTop g).pushFrame (.throwing a)) (f := g) (a := a) (meth := meth) (code := c) (by rw [hvm]; exact X.method') X.code pre x rest hsplit hskip hx h0 (c := cc) (cell := cell)
    (by rw [hvm]; exact X.warmed.classLinks hl) (by rw [hhp]; exact hcell) (fun k hk => by rw [hk] at hobj; cases hobj) (by rw [hvm]; exact ⟨k0', hk0'⟩) (by rw [hvm]; exact ⟨kt', hkt'⟩) (by rw [hvm, X.warmed.alike.assignable]; exact hfit)
  rw [hvm] at hf
  exact ⟨_, X.noted (X.warmed.noted hd hopen (State.rightAt_cls hl)), fx_caught X.here hf (Steps.refl _)⟩
end
section
/-! ===== BEGIN words of one list among another's, by their places ===== -/
theorem goodIn_r {big : List Cond} (ws : List Cond) (ps : List Nat) (hp : ws = ps.filterMap (fun i => big[i]?)) (h : ws.all goodWord = true) : GoodIn big ws := by
  intro w hw
  have h1 := List.all_eq_true.mp h w hw
  rw [hp] at hw
  obtain ⟨i, -, hi⟩ := List.mem_filterMap.mp hw
  have hm : w ∈ big := by first | exact List.mem_of_getElem? hi | exact List.getElem?_mem hi
  exact ⟨hm, good_of_word h1⟩
theorem goodIn_app {big a b : List Cond} (ha : GoodIn big a) (hb : GoodIn big b) : GoodIn big (a ++ b) := fun w h => (List.mem_append.mp h).elim (ha w) (hb w)
theorem goodIn_ca {big a b : List Cond} {c : Cond} (ha : GoodIn big (c :: a)) (hb : GoodIn big b) : GoodIn big (c :: (a ++ b)) := fun w h => (List.mem_cons.mp h).elim (fun e => ha w (List.mem_cons.mpr (Or.inl e))) (fun h => (List.mem_append.mp h).elim (fun h => ha w (List.mem_cons.mpr (Or.inr h))) (hb w))
theorem goodIn_sub {big ws : List Cond} (hm : ∀ w ∈ ws, w ∈ big) (h : ws.all goodWord = true) : GoodIn big ws := fun w hw => ⟨hm w hw, good_of_word (List.all_eq_true.mp h w hw)⟩
/-! ===== END ===== -/

/-! ===== BEGIN exceptions that leave a method, and their catching by the caller (launches without stack traces) ===== -/
section VXA
/-! The laws vx_back, vx_callV, vx_callS, vx_callSW, vx_throw0, vx_throwS follow proofs of the library, with one case more: JvmDerived/Free/Laws.lean (Back.of_free), Shelf42/LK1.lean (callV, callS), Shelf/KitTraced.lean (throwNew0V, throwNewS). -/
/-- where a method has thrown q: the class by its name, the cell, what was written, the world -/
def vx_T (XC : String → State → State → Prop) (st : State) (q : Addr) (t : State) (mc ms : Nat) (free : Addr → Prop) : Prop :=
  ∃ (E : String) (ce : Cell) (L : List Loc), XC E st t ∧ t.heap[q]? = some ce ∧ ce.vm = .none ∧ st.vm.findClass E = some ce.cls ∧ st.WarmedH t.vm ∧ st.sameButNew ({ t with vm := st.vm } : State) L mc ms ∧ ∀ z ∈ L, free z.base
def vx_Q (Qc : Array Value → State → Outcome → State → Prop) (XC : String → State → State → Prop) (mc ms : Nat) (free : Addr → Prop) : Array Value → State → Outcome → State → Prop := fun a st o t =>
  (Qc a st o t ∧ ∃ L, FrameEnd st o t L mc ms ∧ ∀ q ∈ L, free q.base) ∨ ∃ q, o = .threw q ∧ vx_T XC st q t mc ms free
/-- a callee that returns or throws -/
def vx_Met (l : Launch) (y : MethodName) (ws : List Cond) (rm : Room) (Pc : Array Value → State → Prop) (Qc : Array Value → State → Outcome → State → Prop) (XC : String → State → State → Prop) (mc ms : Nat) (free : Addr → Prop) : Prop :=
  MetFree l y (headSpec ws rm) Pc (fun _ _ _ _ _ => True) (vx_Q Qc XC mc ms free)
def vx_Post (XC : String → State → State → Prop) (mc ms : Nat) (free : Addr → Prop) : Pt → Array Value → Addr → Pt → Prop := fun A a q B =>
  ∃ (g : JFrame) (mk : MethodId) (t : State) (L : List Loc) (E : String) (ce : Cell), B.U.heap = t.heap ∧ B.U.vm = t.vm ∧ XC E (A.U.calling g mk a) t ∧ t.heap[q]? = some ce ∧ ce.vm = .none ∧ A.U.vm.findClass E = some ce.cls ∧ B.locs = A.locs ++ L ∧ (∀ z ∈ L, free z.base) ∧ B.cells = A.cells + mc ∧ B.slots = A.slots + ms
def vx_Back (l : Launch) (R : Room) (p : Program) (e : Env) (below : List Frame) (s : State) (sargs : Array Value) (y : MethodName) (len W9 : Nat)
    (Pre : Pt → Array Value → Prop) (Post : Pt → Array Value → Option Value → Pt → Prop) (PostX : Pt → Array Value → Addr → Pt → Prop) : Prop :=
  ∀ (m : MethodId) (meth : Method) (c : Code) (A : Pt) (g : JFrame) (ig : Instr) (mk : MethodId) (a : Array Value),
    Stand p l e R s m sargs below meth c A.U A.locs A.cells A.slots → g.method = m → g.locals.size = c.maxLocals → decode c.code g.pc = .ok (ig, len) →
    2 * g.monitorRoom + (g.stack.map fun v => v.category).sum ≤ W9 → A.U.methodNamed? y = some mk → Pre A a →
    (∃ (v : Option Value) (B : Pt), Stand p l e R s m sargs below meth c B.U B.locs B.cells B.slots ∧ Post A a v B ∧
      Steps p.tables e below (doInvoke e (A.U.setTop g) [] mk a).1 (B.U.setTop { g with pc := g.pc + len, stack := v.toList ++ g.stack })) ∨
    (∃ (q : Addr) (B : Pt), Stand p l e R s m sargs below meth c B.U B.locs B.cells B.slots ∧ PostX A a q B ∧
      Steps p.tables e below (doInvoke e (A.U.setTop g) [] mk a).1 ((B.U.setTop g).pushFrame (.throwing q)))
section Payer
variable {l : Launch} {R : Room} {p : Program} {e : Env} {below : List Frame} {s : State} {sargs : Array Value} {y : MethodName} {len W9 : Nat}
theorem vx_back {ws : List Cond} {rm : Room} {Pc : Array Value → State → Prop} {Qc : Array Value → State → Outcome → State → Prop} {XC : String → State → State → Prop} {mc ms : Nat} {free : Addr → Prop} {bytes : ByteArray} {maxL : Nat} {ret : Option FieldType}
    (hM : vx_Met l y ws rm Pc Qc XC mc ms free) (hblind : FrameBlind Pc) (hrc : rm.cells = mc) (hrs : rm.slots = ms)
    (hframes : rm.frames + 1 ≤ R.frames) (hlocals : W9 + (maxL + 11) + rm.locals ≤ R.locals)
    (hws : ∀ w ∈ ws, ∀ a' U, s.WarmedH U.vm → w.before a' U = true) (hcode : Cond.code y bytes maxL ret ∈ ws) (hinit : ∀ a' U, s.WarmedH U.vm → (Cond.initialized y.cls).before a' U = true) :
    vx_Back l R p e below s sargs y len W9 (PreOf R mc ms Pc) (PostOf Qc mc ms free) (vx_Post XC mc ms free) := by
  intro m meth c A g ig mk a X hg hsize hdg hW hn hp
  have h1 : (headSpec ws rm).pre.before a A.U = true := atoms_intro fun w hw => hws w hw _ _ X.warmed
  have h2 : (Cond.code y bytes maxL ret).before a A.U = true := hws _ hcode _ _ X.warmed
  have h3 : (Cond.initialized y.cls).before a A.U = true := hinit _ _ X.warmed
  have h4 : A.cells + (headSpec ws rm).room.cells ≤ R.cells := by rw [show (headSpec ws rm).room.cells = mc from hrc]; exact hp.1
  have h5 : A.slots + (headSpec ws rm).room.slots ≤ R.slots := by rw [show (headSpec ws rm).room.slots = ms from hrs]; exact hp.2.1
  have hPc : Pc a (A.U.calling g mk a) := hblind _ _ _ _ hp.2.2
  obtain ⟨U, Ls, c0, s0⟩ := A
  dsimp only [Pt.U, Pt.locs, Pt.cells, Pt.slots] at h1 h2 h3 h4 h5 X hn hPc ⊢
  obtain ⟨methY, cY, hmY, hcY, -, hlY, -, -, -, -⟩ := Cond.code_spec hn h2
  obtain ⟨kY, hkY, -⟩ := className_of_methodNamed hn
  have hinitY : kY.init = .initialized := Cond.initialized_spec (findClass_of_methodNamed hn) hkY h3
  have h : At U g.method c below := by rw [hg]; exact X.here
  have hlocals9 : W9 + (maxL + 11) + (headSpec ws rm).room.locals ≤ R.locals := hlocals
  have happ : (headSpec ws rm).appliesLoose y e.platform (U.calling g mk a) = true :=
    Spec.appliesLoose_calling (g := g) h hdg hn hkY hinitY
      (X.room_calling (g := g) (R' := (headSpec ws rm).room) hsize hmY hcY hframes (by rw [hlY]; omega) h4 h5) h1
  obtain ⟨mid, hmid⟩ := h.above
  have hfr : (U.setTop g).frames = (.java g :: mid) ++ below := by rw [State.frames_setTop' g h.top, hmid]; rfl
  obtain ⟨o, s₂, hsteps, -, hend, hq⟩ := Steps.callFree hM p X.admits X.cas X.clock (acts := []) hfr happ hPc trivial
  have hq' : vx_Q Qc XC mc ms free a (U.calling g mk a) o s₂ := hq
  rw [State.frames_setTop' g h.top] at hend
  obtain ⟨g₀, hg0⟩ := Option.isSome_iff_exists.mp h.top
  obtain ⟨r, hr⟩ := State.topJava?_eq_some.mp hg0
  have hr' : (({ U with heap := s₂.heap, slotsUsed := s₂.slotsUsed } : State).setVm s₂.vm).frames = .java g₀ :: r := hr
  rcases hq' with ⟨hqc, L, hfe, hL⟩ | ⟨q, rfl, E, ce, L, hx, hce, hcv, hcl, hW₂, hsm, hL⟩
  · obtain ⟨⟨v, rfl⟩, hW₂, e2, q2, q3, q4, q5, q6⟩ := id hfe
    have e3 : s₂ = ({ (U.calling g mk a).setFrames s₂.frames with heap := s₂.heap, slotsUsed := s₂.slotsUsed } : State).setVm s₂.vm := by
      have : s₂ = ({ s₂ with vm := (U.calling g mk a).vm } : State).setVm s₂.vm := rfl
      rw [e2] at this
      exact this
    obtain ⟨c₂, i₂, len₂, hc₂, hd₂, hf₂⟩ := hend
    have hW' : U.WarmedH s₂.vm := hW₂
    have hcc : c₂ = c := by
      have h1 : s₂.code? g.method = U.code? g.method := by
        rw [State.code?_eq, State.code?_eq, hW'.alike.method?]
      exact Option.some.inj (hc₂.symm.trans (h1.trans h.code))
    subst hcc
    have hlen : len₂ = len := by rw [hdg] at hd₂; cases hd₂; rfl
    subst hlen
    have hs₂ : s₂ = (({ U with heap := s₂.heap, slotsUsed := s₂.slotsUsed } : State).setVm s₂.vm).setTop { g with pc := g.pc + len₂, stack := v.toList ++ g.stack } := by
      refine e3.trans ?_
      rw [hf₂, State.calling_eq h.top, State.setFrames_setFrames, State.setTop_of_frames _ hr', hr]
      rfl
    have hsame : U.sameButNew ({ U with heap := s₂.heap, slotsUsed := s₂.slotsUsed } : State) L mc ms := by
      refine ⟨?_, q2, q3, q4, q5, q6⟩
      obtain ⟨t, ht, -⟩ := State.frames_cons hr
      show ({ U with heap := s₂.heap, slotsUsed := s₂.slotsUsed } : State) = { U.setFrames U.frames with heap := s₂.heap, slotsUsed := s₂.slotsUsed }
      rw [State.setFrames_self ht]
    subst hg
    refine Or.inl ⟨v, ⟨(({ U with heap := s₂.heap, slotsUsed := s₂.slotsUsed } : State).setVm s₂.vm), Ls ++ L, c0 + mc, s0 + ms⟩,
      ⟨X.admits, X.cas, X.clock, X.frames, X.room, X.hears, X.method, X.code, (X.here.setHeapUsed s₂.heap s₂.slotsUsed).setVm hW'.alike, X.tail, State.WarmedH.trans X.warmed hW', X.limits, X.bytes, X.same.trans (hsame.setVm s.vm)⟩,
      ⟨g, mk, s₂, L, rfl, rfl, hqc, rfl, hL, rfl, rfl⟩, ?_⟩
    show Steps p.tables e below _ ((({ U with heap := s₂.heap, slotsUsed := s₂.slotsUsed } : State).setVm s₂.vm).setTop { g with pc := g.pc + len₂, stack := v.toList ++ g.stack })
    rw [← hs₂]
    exact hsteps
  · obtain ⟨e2, q2, q3, q4, q5, q6⟩ := id hsm
    have e3 : s₂ = ({ (U.calling g mk a).setFrames s₂.frames with heap := s₂.heap, slotsUsed := s₂.slotsUsed } : State).setVm s₂.vm := by
      have : s₂ = ({ s₂ with vm := (U.calling g mk a).vm } : State).setVm s₂.vm := rfl
      rw [e2] at this
      exact this
    have hf₂ : s₂.frames = .throwing q :: .java g :: U.frames.tail := hend
    have hW' : U.WarmedH s₂.vm := hW₂
    have hs₂ : s₂ = ((({ U with heap := s₂.heap, slotsUsed := s₂.slotsUsed } : State).setVm s₂.vm).setTop g).pushFrame (.throwing q) := by
      refine e3.trans ?_
      rw [hf₂, State.calling_eq h.top, State.setFrames_setFrames, State.pushFrame, State.frames_setTop _ hr', State.setTop_of_frames _ hr', State.setFrames_setFrames, hr]
      rfl
    have hsame : U.sameButNew ({ U with heap := s₂.heap, slotsUsed := s₂.slotsUsed } : State) L mc ms := by
      refine ⟨?_, q2, q3, q4, q5, q6⟩
      obtain ⟨t, ht, -⟩ := State.frames_cons hr
      show ({ U with heap := s₂.heap, slotsUsed := s₂.slotsUsed } : State) = { U.setFrames U.frames with heap := s₂.heap, slotsUsed := s₂.slotsUsed }
      rw [State.setFrames_self ht]
    subst hg
    refine Or.inr ⟨q, ⟨(({ U with heap := s₂.heap, slotsUsed := s₂.slotsUsed } : State).setVm s₂.vm), Ls ++ L, c0 + mc, s0 + ms⟩,
      ⟨X.admits, X.cas, X.clock, X.frames, X.room, X.hears, X.method, X.code, (X.here.setHeapUsed s₂.heap s₂.slotsUsed).setVm hW'.alike, X.tail, State.WarmedH.trans X.warmed hW', X.limits, X.bytes, X.same.trans (hsame.setVm s.vm)⟩,
      ⟨g, mk, s₂, L, E, ce, rfl, rfl, hx, hce, hcv, hcl, rfl, hL, rfl, rfl⟩, ?_⟩
    show Steps p.tables e below _ (((({ U with heap := s₂.heap, slotsUsed := s₂.slotsUsed } : State).setVm s₂.vm).setTop g).pushFrame (.throwing q))
    rw [← hs₂]
    exact hsteps
end Payer
section Calls
variable {p : Program} {l : Launch} {e : Env} {R : Room} {s : State} {m : MethodId} {args : Array Value} {below : List Frame} {meth : Method} {c : Code} {T : State} {locs : List Loc} {cells slots : Nat}
theorem vx_callV (X : Stand p l e R s m args below meth c T locs cells slots) (hexec : p.tables.exec = Jvm.exec) {own C : String} {index : Nat} {y : MethodName} {bytes : ByteArray} {maxL : Nat} {ret : Option FieldType}
    (hown : s.vm.findClass own = some m.cls) (hlink : (Cond.methodLink own index y).before args s = true) (hinst : (Cond.instanceMethod y).before args s = true) (hsel : (Cond.selects C y y).before args s = true)
    (hcode : (Cond.code y bytes maxL ret).before args s = true) (hy : y.cls ≠ "java/lang/invoke/MethodHandle" ∧ y.cls ≠ "java/lang/invoke/VarHandle")
    {W9 : Nat} {Pre : Pt → Array Value → Prop} {Post : Pt → Array Value → Option Value → Pt → Prop} {PostX : Pt → Array Value → Addr → Pt → Prop} (hK : vx_Back l R p e below s args y 3 W9 Pre Post PostX)
    {b : Addr} {cellB : Cell} (hcell : T.heap[b]? = some cellB) (hobj : cellB.vm.isStatics = false) (hcls : s.vm.findClass C = some cellB.cls)
    {g : JFrame} (hg : g.method = m) (hsize : g.locals.size = c.maxLocals) {argsL rest : List Value} (hlen : ∀ sig, parseMethodDescriptor y.desc = some sig → argsL.length = sig.parameters.length)
    (hstack : g.stack = argsL.reverse ++ .ref b :: rest) (hW : 2 * g.monitorRoom + (rest.map fun v => v.category).sum ≤ W9) (hdg : decode c.code g.pc = .ok (.invokevirtual index, 3))
    (hpre : ∀ vm₁, s.WarmedH vm₁ → Pre ⟨T.setVm vm₁, locs, cells, slots⟩ (Value.ref b :: argsL).toArray) :
    (∃ (v : Option Value) (vm₁ : Vm) (B : Pt), s.WarmedH vm₁ ∧ Stand p l e R s m args below meth c B.U B.locs B.cells B.slots ∧ Post ⟨T.setVm vm₁, locs, cells, slots⟩ (Value.ref b :: argsL).toArray v B ∧
      ∀ target, Steps p.tables e below (B.U.setTop { g with pc := g.pc + 3, stack := v.toList ++ rest }) target → Steps p.tables e below (T.setTop g) target) ∨
    (∃ (q : Addr) (vm₁ : Vm) (B : Pt), s.WarmedH vm₁ ∧ Stand p l e R s m args below meth c B.U B.locs B.cells B.slots ∧ PostX ⟨T.setVm vm₁, locs, cells, slots⟩ (Value.ref b :: argsL).toArray q B ∧
      Steps p.tables e below (T.setTop g) ((B.U.setTop { g with stack := rest }).pushFrame (.throwing q))) := by
  obtain ⟨mk, methM, hnamed, hmethM, hstM, habM⟩ := Cond.instanceMethod_spec hinst
  obtain ⟨methM', cM, hmethM', -, -, -, -, -, -, hsigM⟩ := Cond.code_spec hnamed hcode
  cases hmethM.symm.trans hmethM'
  obtain ⟨c2, r2, m2, q1, q2, q3, q4, kP, hkP, hkPi⟩ := Cond.selects_spec hsel
  cases hcls.symm.trans q1
  cases (State.methodFound?_of_named hnamed hy).symm.trans q2
  cases hnamed.symm.trans q3
  have hselP : selectMethod e.platform s.vm cellB.cls mk = .method mk := by rw [Launch.admits_selectMethod X.admits]; exact q4
  obtain ⟨vm₁, X₁, hstep₁⟩ := X.invokevirtual hexec hown hlink hnamed hmethM hstM hkP hkPi hy (a := b) (cell := cellB) hcell
    (fun z h => by rw [h] at hobj; cases hobj) hselP hmethM habM hkP hkPi (g := g) hg (argsL := argsL) (rest := rest) (hlen _ hsigM) hstack hdg
  rcases hK m meth c ⟨T.setVm vm₁, locs, cells, slots⟩ { g with stack := rest } (.invokevirtual index) mk (Value.ref b :: argsL).toArray X₁ hg hsize hdg hW (X₁.named hnamed) (hpre vm₁ X₁.warmed) with ⟨v, B, X', hpost, hsteps⟩ | ⟨q, B, X', hpost, hsteps⟩
  · exact Or.inl ⟨v, vm₁, B, X₁.warmed, X', hpost, fun target h => hstep₁ _ fun acts => by rw [doInvoke_state]; exact hsteps.trans h⟩
  · exact Or.inr ⟨q, vm₁, B, X₁.warmed, X', hpost, hstep₁ _ fun acts => by rw [doInvoke_state]; exact hsteps⟩
theorem vx_callS (X : Stand p l e R s m args below meth c T locs cells slots) (hexec : p.tables.exec = Jvm.exec) {own : String} {index : Nat} {y : MethodName} {bytes : ByteArray} {maxL : Nat} {ret : Option FieldType}
    (hown : s.vm.findClass own = some m.cls) (hlink : (Cond.methodLink own index y).before args s = true) (hstat : (Cond.static y).before args s = true) (hinit : (Cond.initialized y.cls).before args s = true)
    (hcode : (Cond.code y bytes maxL ret).before args s = true) (hy : y.cls ≠ "java/lang/invoke/MethodHandle" ∧ y.cls ≠ "java/lang/invoke/VarHandle")
    {W9 : Nat} {Pre : Pt → Array Value → Prop} {Post : Pt → Array Value → Option Value → Pt → Prop} {PostX : Pt → Array Value → Addr → Pt → Prop} (hK : vx_Back l R p e below s args y 3 W9 Pre Post PostX)
    {g : JFrame} (hg : g.method = m) (hsize : g.locals.size = c.maxLocals) {argsL rest : List Value} (hlen : ∀ sig, parseMethodDescriptor y.desc = some sig → argsL.length = sig.parameters.length)
    (hstack : g.stack = argsL.reverse ++ rest) (hW : 2 * g.monitorRoom + (rest.map fun v => v.category).sum ≤ W9) (hdg : decode c.code g.pc = .ok (.invokestatic index, 3))
    (hpre : ∀ vm₁, s.WarmedH vm₁ → Pre ⟨T.setVm vm₁, locs, cells, slots⟩ argsL.toArray) :
    (∃ (v : Option Value) (vm₁ : Vm) (B : Pt), s.WarmedH vm₁ ∧ Stand p l e R s m args below meth c B.U B.locs B.cells B.slots ∧ Post ⟨T.setVm vm₁, locs, cells, slots⟩ argsL.toArray v B ∧
      ∀ target, Steps p.tables e below (B.U.setTop { g with pc := g.pc + 3, stack := v.toList ++ rest }) target → Steps p.tables e below (T.setTop g) target) ∨
    (∃ (q : Addr) (vm₁ : Vm) (B : Pt), s.WarmedH vm₁ ∧ Stand p l e R s m args below meth c B.U B.locs B.cells B.slots ∧ PostX ⟨T.setVm vm₁, locs, cells, slots⟩ argsL.toArray q B ∧
      Steps p.tables e below (T.setTop g) ((B.U.setTop { g with stack := rest }).pushFrame (.throwing q))) := by
  obtain ⟨mk, hnamed⟩ := Cond.code_named hcode
  obtain ⟨methM, cM, hmethM, -, -, -, -, -, -, hsigM⟩ := Cond.code_spec hnamed hcode
  have hstatic : methM.isStatic = true := Cond.static_spec hnamed hmethM hstat
  obtain ⟨kP, hkP, -⟩ := className_of_methodNamed hnamed
  have hinitP : kP.init = .initialized := Cond.initialized_spec (findClass_of_methodNamed hnamed) hkP hinit
  obtain ⟨vm₁, X₁, hstep₁⟩ := X.invokestatic hexec hown hlink hnamed hmethM hstatic hkP hinitP hy (g := g) hg (argsL := argsL) (rest := rest) (hlen _ hsigM) hstack hdg
  rcases hK m meth c ⟨T.setVm vm₁, locs, cells, slots⟩ { g with stack := rest } (.invokestatic index) mk argsL.toArray X₁ hg hsize hdg hW (X₁.named hnamed) (hpre vm₁ X₁.warmed) with ⟨v, B, X', hpost, hsteps⟩ | ⟨q, B, X', hpost, hsteps⟩
  · exact Or.inl ⟨v, vm₁, B, X₁.warmed, X', hpost, fun target h => hstep₁ _ fun acts => by rw [doInvoke_state]; exact hsteps.trans h⟩
  · exact Or.inr ⟨q, vm₁, B, X₁.warmed, X', hpost, hstep₁ _ fun acts => by rw [doInvoke_state]; exact hsteps⟩
end Calls
theorem vx_cls {s : State} {T : State} {vm₁ : Vm} {E : String} {k : ClassId} (hW : s.WarmedH vm₁) (h : (T.setVm vm₁).vm.findClass E = some k) : s.vm.findClass E = some k := by
  have h1 : vm₁.findClass E = some k := h
  rw [hW.alike.findClass] at h1
  exact h1
/-- the method's frame g, with q thrown over it -/
def vx_W (p : Program) (l : Launch) (e : Env) (R : Room) (s : State) (m : MethodId) (args : Array Value) (below : List Frame) (meth : Method) (c : Code) (H : Heap) (locs : List Loc) (cells slots : Nat) (Q : State → Prop) (g : JFrame) (q : Addr) : Prop :=
  ∀ T : State, T.heap = H → Stand p l e R s m args below meth c T locs cells slots → ∃ t, Steps p.tables e below ((T.setTop g).pushFrame (.throwing q)) t ∧ Q t
def vx_Run (p : Program) (l : Launch) (e : Env) (R : Room) (s : State) (m : MethodId) (args : Array Value) (below : List Frame) (meth : Method) (c : Code) (H : Heap) (locs : List Loc) (cells slots mc ms : Nat) (g : JFrame) (rest : List Value) (Qa : State → Outcome → State → Prop) (XC : String → State → State → Prop) (free : Addr → Prop) : Prop :=
  ∀ T : State, T.heap = H → Stand p l e R s m args below meth c T locs cells slots →
    (∃ (v : Option Value) (st₀ t T' : State) (L : List Loc), st₀.heap = H ∧ Stand p l e R s m args below meth c T' (locs ++ L) (cells + mc) (slots + ms) ∧ (∀ q ∈ L, free q.base) ∧ T'.heap = t.heap ∧ T'.vm = t.vm ∧ Qa st₀ (.returned v) t ∧
      Goes p e below T g T' { g with pc := g.pc + 3, stack := v.toList ++ rest }) ∨
    (∃ (q : Addr) (st₀ t T' : State) (L : List Loc) (E : String) (ce : Cell), st₀.heap = H ∧ Stand p l e R s m args below meth c T' (locs ++ L) (cells + mc) (slots + ms) ∧ (∀ z ∈ L, free z.base) ∧ T'.heap = t.heap ∧ T'.vm = t.vm ∧ XC E st₀ t ∧ t.heap[q]? = some ce ∧ ce.vm = .none ∧ s.vm.findClass E = some ce.cls ∧
      Steps p.tables e below (T.setTop g) ((T'.setTop { g with stack := rest }).pushFrame (.throwing q)))
def vx_X {S : Type} (px : S → Prop) (B : String → S → State → Prop) (A : Nat → Prop) : String → State → State → Prop := fun E st t => ∃ u : S, px u ∧ B E u t ∧ va_F A st t
section Runs
variable {p : Program} {l : Launch} {e : Env} {R : Room} {s : State} {m : MethodId} {args : Array Value} {below : List Frame} {meth : Method} {c : Code} {H : Heap} {locs : List Loc} {cells slots : Nat}
variable {y : MethodName} {bytes cc : ByteArray} {maxL nL mc ms n index : Nat} {ret : Option FieldType} {ws : List Cond} {rm : Room} {Pc : Array Value → State → Prop} {Qc : Array Value → State → Outcome → State → Prop} {XC : String → State → State → Prop} {free : Addr → Prop} {Ts : List Cond} {own C : String} {b : Addr} {As rest : List Value} {g : JFrame}
theorem vx_callBack (cb : CallB R s args own index y bytes maxL ret ws rm mc ms n) (hM : vx_Met l y ws rm Pc Qc XC mc ms free) (hbl : FrameBlind Pc) : vx_Back l R p e below s args y 3 8 (PreOf R mc ms Pc) (PostOf Qc mc ms free) (vx_Post XC mc ms free) := by
  obtain ⟨hrc, hrs, hfr, hlo, hws, hcw, -, hini, -⟩ := cb
  exact vx_back (bytes := bytes) (maxL := maxL) (ret := ret) hM hbl hrc hrs hfr hlo hws hcw (fun a' U hW => word_at hW (Or.inl (by first | rfl | simp [Cond.onTables, Cond.keeps, Cond.steady])) hini)
theorem vx_runV (S : CallFix p m c cc nL s args Ts own) (hM : vx_Met l y ws rm Pc Qc XC mc ms free) (cw : CallW R s args own C index y bytes maxL ret ws rm mc ms n) (hp : PreV s H C b Pc As)
    (hg : g.method = m) (hn : As.length = n) (hsize : g.locals.size = nL) (hstack : g.stack = As.reverse ++ .ref b :: rest) (hW : 2 * g.monitorRoom + (rest.map fun v => v.category).sum ≤ 8) (hdg : decode cc g.pc = .ok (.invokevirtual index, 3)) (hf : cells + mc ≤ R.cells ∧ slots + ms ≤ R.slots) :
    vx_Run p l e R s m args below meth c H locs cells slots mc ms g rest (Qc (Value.ref b :: As).toArray) XC free := by
  have hK : vx_Back l R p e below s args y 3 8 (PreOf R mc ms Pc) (PostOf Qc mc ms free) (vx_Post XC mc ms free) := vx_callBack cw.1 hM hp.1
  obtain ⟨⟨-, -, -, -, -, -, hcode, -, hy, hlen, hl⟩, hin, hse⟩ := cw
  obtain ⟨hx, hb, hml, ho, -⟩ := S
  obtain ⟨-, ⟨cellB, hcB, hoB, hclB⟩, hPc⟩ := hp
  intro T hT X
  rcases vx_callV X hx (C := C) (bytes := bytes) (maxL := maxL) (ret := ret) ho hl hin hse hcode hy hK (by rw [hT]; exact hcB) hoB hclB hg (hsize.trans hml.symm) (argsL := As) (rest := rest) (fun sig h => hn.trans (hlen sig h)) hstack hW (by rw [hb]; exact hdg)
    (fun vm₁ hW₁ => ⟨hf.1, hf.2, hPc (T.setVm vm₁) hT hW₁⟩) with ⟨v, vm₁, ⟨U', l2, c2, s2⟩, hW₁, X', ⟨g', mk, t, L, e1, e2, hq, h1, hL, h2, h3⟩, st⟩ | ⟨q, vm₁, ⟨U', l2, c2, s2⟩, hW₁, X', ⟨g', mk, t, L, E, ce, e1, e2, hq, hce, hcv, hcl, h1, hL, h2, h3⟩, st⟩
  · dsimp only [Pt.U, Pt.locs, Pt.cells, Pt.slots] at X' e1 e2 h1 h2 h3 st
    subst h1; subst h2; subst h3
    exact Or.inl ⟨v, (T.setVm vm₁).calling g' mk (Value.ref b :: As).toArray, t, U', L, hT, X', hL, e1, e2, hq, st⟩
  · dsimp only [Pt.U, Pt.locs, Pt.cells, Pt.slots] at X' e1 e2 h1 h2 h3 st hcl
    subst h1; subst h2; subst h3
    exact Or.inr ⟨q, (T.setVm vm₁).calling g' mk (Value.ref b :: As).toArray, t, U', L, E, ce, hT, X', hL, e1, e2, hq, hce, hcv, vx_cls hW₁ hcl, st⟩
theorem vx_runS (S : CallFix p m c cc nL s args Ts own) (hM : vx_Met l y ws rm Pc Qc XC mc ms free) (cw : CallB R s args own index y bytes maxL ret ws rm mc ms n ∧ (Cond.static y).before args s = true) (hp : PreS s H Pc As)
    (hg : g.method = m) (hn : As.length = n) (hsize : g.locals.size = nL) (hstack : g.stack = As.reverse ++ rest) (hW : 2 * g.monitorRoom + (rest.map fun v => v.category).sum ≤ 8) (hdg : decode cc g.pc = .ok (.invokestatic index, 3)) (hf : cells + mc ≤ R.cells ∧ slots + ms ≤ R.slots) :
    vx_Run p l e R s m args below meth c H locs cells slots mc ms g rest (Qc As.toArray) XC free := by
  have hK : vx_Back l R p e below s args y 3 8 (PreOf R mc ms Pc) (PostOf Qc mc ms free) (vx_Post XC mc ms free) := vx_callBack cw.1 hM hp.1
  obtain ⟨⟨-, -, -, -, -, -, hcode, hini, hy, hlen, hl⟩, hstt⟩ := cw
  obtain ⟨hx, hb, hml, ho, -⟩ := S
  intro T hT X
  rcases vx_callS X hx (bytes := bytes) (maxL := maxL) (ret := ret) ho hl hstt hini hcode hy hK hg (hsize.trans hml.symm) (argsL := As) (rest := rest) (fun sig h => hn.trans (hlen sig h)) hstack hW (by rw [hb]; exact hdg)
    (fun vm₁ hW₁ => ⟨hf.1, hf.2, hp.2 (T.setVm vm₁) hT hW₁⟩) with ⟨v, vm₁, ⟨U', l2, c2, s2⟩, hW₁, X', ⟨g', mk, t, L, e1, e2, hq, h1, hL, h2, h3⟩, st⟩ | ⟨q, vm₁, ⟨U', l2, c2, s2⟩, hW₁, X', ⟨g', mk, t, L, E, ce, e1, e2, hq, hce, hcv, hcl, h1, hL, h2, h3⟩, st⟩
  · dsimp only [Pt.U, Pt.locs, Pt.cells, Pt.slots] at X' e1 e2 h1 h2 h3 st
    subst h1; subst h2; subst h3
    exact Or.inl ⟨v, (T.setVm vm₁).calling g' mk As.toArray, t, U', L, hT, X', hL, e1, e2, hq, st⟩
  · dsimp only [Pt.U, Pt.locs, Pt.cells, Pt.slots] at X' e1 e2 h1 h2 h3 st hcl
    subst h1; subst h2; subst h3
    exact Or.inr ⟨q, (T.setVm vm₁).calling g' mk As.toArray, t, U', L, E, ce, hT, X', hL, e1, e2, hq, hce, hcv, vx_cls hW₁ hcl, st⟩
end Runs
section Rows
variable {p : Program} {l : Launch} {e : Env} {R : Room} {s : State} {m : MethodId} {args : Array Value} {below : List Frame} {meth : Method} {c : Code} {H : Heap} {locs : List Loc} {cells slots : Nat} {Q : State → Prop}
variable {mc ms : Nat} {free : Addr → Prop} {A0 A1 : Nat → Prop} {H0 : Heap} {a : Array Value} {pc : Nat} {ls : Array Slot} {st0 rest : List Value}
theorem vx_keep {st₀ t T' : State} {L : List Loc} (h0 : st₀.heap = H) (e1 : T'.heap = t.heap) (hS : va_S A0 H0 H locs) (hA : ∀ q, q < H.size → A1 q → A0 q) (hf : ∀ q, free q → A0 q) (hL : ∀ q ∈ L, free q.base) (hF : va_F A1 st₀ t) :
    H.size ≤ T'.heap.size ∧ (∀ q : Nat, q < H.size → ¬ A1 q → T'.heap[q]? = H[q]?) ∧ va_S A0 H0 T'.heap (locs ++ L) := by
  obtain ⟨hz, hk⟩ := hF
  rw [h0] at hz hk
  exact ⟨by rw [e1]; exact hz, fun q h1 h2 => by rw [e1]; exact hk q h1 h2,
    ⟨Nat.le_trans hS.1 (by rw [e1]; exact hz), fun q h1 h2 => by rw [e1, hk q (Nat.lt_of_lt_of_le h1 hS.1) (fun z => h2 (hA q (Nat.lt_of_lt_of_le h1 hS.1) z))]; exact hS.2.1 q h1 h2, fun q hq => by
      rcases List.mem_append.mp hq with h | h
      · exact hS.2.2 q h
      · exact hf _ (hL q h)⟩⟩
theorem vx_calli {S SX : Type} {post : Int32 → S → Prop} {px : SX → Prop} {B : S → State → Prop} {BX : String → SX → State → Prop} {AX : Nat → Prop} (hr : vx_Run p l e R s m args below meth c H locs cells slots mc ms (F0 m pc ls st0) rest (va_Qi post B A1 a) (vx_X px BX AX) free) (hS : va_S A0 H0 H locs) (hA : ∀ q, q < H.size → A1 q → A0 q) (hf : ∀ q, free q → A0 q) (hAX : ∀ q, q < H.size → AX q → A0 q)
    (kx : ∀ (E : String) (ce : Cell) (q9 : Addr) (u : SX) (t : State) (H1 : Heap) (locs1 : List Loc), t.heap = H1 → s.vm.Alike t.vm → px u → BX E u t → H.size ≤ H1.size → (∀ q : Nat, q < H.size → ¬ AX q → H1[q]? = H[q]?) → va_S A0 H0 H1 locs1 → H1[q9]? = some ce → ce.vm = .none → s.vm.findClass E = some ce.cls → vx_W p l e R s m args below meth c H1 locs1 (cells + mc) (slots + ms) Q (F0 m pc ls rest) q9)
    (kk : ∀ (r : Int32) (u : S) (t : State) (H1 : Heap) (locs1 : List Loc), t.heap = H1 → s.vm.Alike t.vm → post r u → B u t → H.size ≤ H1.size → (∀ q : Nat, q < H.size → ¬ A1 q → H1[q]? = H[q]?) → va_S A0 H0 H1 locs1 → W p l e R s m args below meth c H1 locs1 (cells + mc) (slots + ms) Q (F0 m (pc + 3) ls (.int r :: rest))) : W p l e R s m args below meth c H locs cells slots Q (F0 m pc ls st0) := by
  intro T hT X
  rcases hr T hT X with ⟨v, st₀, t, T', L, h0, X', hL, e1, e2, ⟨⟨r, u, hv, hp, hb⟩, hF⟩, st⟩ | ⟨q, st₀, t, T', L, E, ce, h0, X', hL, e1, e2, ⟨u, hp, hb, hF⟩, hce, hcv, hcl, st⟩
  · cases hv
    obtain ⟨k1, k2, k3⟩ := vx_keep h0 e1 hS hA hf hL hF
    obtain ⟨t2, a1, b1⟩ := kk r u t T'.heap (locs ++ L) e1.symm (by rw [← e2]; exact X'.warmed.alike) hp hb k1 k2 k3 T' rfl X'
    exact ⟨t2, st t2 a1, b1⟩
  · obtain ⟨k1, k2, k3⟩ := vx_keep h0 e1 hS hAX hf hL hF
    obtain ⟨t2, a1, b1⟩ := kx E ce q u t T'.heap (locs ++ L) e1.symm (by rw [← e2]; exact X'.warmed.alike) hp hb k1 k2 k3 (by rw [e1]; exact hce) hcv hcl T' rfl X'
    exact ⟨t2, st.trans a1, b1⟩
theorem vx_calll {S SX : Type} {post : Int64 → S → Prop} {px : SX → Prop} {B : S → State → Prop} {BX : String → SX → State → Prop} {AX : Nat → Prop} (hr : vx_Run p l e R s m args below meth c H locs cells slots mc ms (F0 m pc ls st0) rest (va_Ql post B A1 a) (vx_X px BX AX) free) (hS : va_S A0 H0 H locs) (hA : ∀ q, q < H.size → A1 q → A0 q) (hf : ∀ q, free q → A0 q) (hAX : ∀ q, q < H.size → AX q → A0 q)
    (kx : ∀ (E : String) (ce : Cell) (q9 : Addr) (u : SX) (t : State) (H1 : Heap) (locs1 : List Loc), t.heap = H1 → s.vm.Alike t.vm → px u → BX E u t → H.size ≤ H1.size → (∀ q : Nat, q < H.size → ¬ AX q → H1[q]? = H[q]?) → va_S A0 H0 H1 locs1 → H1[q9]? = some ce → ce.vm = .none → s.vm.findClass E = some ce.cls → vx_W p l e R s m args below meth c H1 locs1 (cells + mc) (slots + ms) Q (F0 m pc ls rest) q9)
    (kk : ∀ (r : Int64) (u : S) (t : State) (H1 : Heap) (locs1 : List Loc), t.heap = H1 → s.vm.Alike t.vm → post r u → B u t → H.size ≤ H1.size → (∀ q : Nat, q < H.size → ¬ A1 q → H1[q]? = H[q]?) → va_S A0 H0 H1 locs1 → W p l e R s m args below meth c H1 locs1 (cells + mc) (slots + ms) Q (F0 m (pc + 3) ls (.long r :: rest))) : W p l e R s m args below meth c H locs cells slots Q (F0 m pc ls st0) := by
  intro T hT X
  rcases hr T hT X with ⟨v, st₀, t, T', L, h0, X', hL, e1, e2, ⟨⟨r, u, hv, hp, hb⟩, hF⟩, st⟩ | ⟨q, st₀, t, T', L, E, ce, h0, X', hL, e1, e2, ⟨u, hp, hb, hF⟩, hce, hcv, hcl, st⟩
  · cases hv
    obtain ⟨k1, k2, k3⟩ := vx_keep h0 e1 hS hA hf hL hF
    obtain ⟨t2, a1, b1⟩ := kk r u t T'.heap (locs ++ L) e1.symm (by rw [← e2]; exact X'.warmed.alike) hp hb k1 k2 k3 T' rfl X'
    exact ⟨t2, st t2 a1, b1⟩
  · obtain ⟨k1, k2, k3⟩ := vx_keep h0 e1 hS hAX hf hL hF
    obtain ⟨t2, a1, b1⟩ := kx E ce q u t T'.heap (locs ++ L) e1.symm (by rw [← e2]; exact X'.warmed.alike) hp hb k1 k2 k3 (by rw [e1]; exact hce) hcv hcl T' rfl X'
    exact ⟨t2, st.trans a1, b1⟩
theorem vx_callf {S SX : Type} {post : UInt32 → S → Prop} {px : SX → Prop} {B : S → State → Prop} {BX : String → SX → State → Prop} {AX : Nat → Prop} (hr : vx_Run p l e R s m args below meth c H locs cells slots mc ms (F0 m pc ls st0) rest (va_Qf post B A1 a) (vx_X px BX AX) free) (hS : va_S A0 H0 H locs) (hA : ∀ q, q < H.size → A1 q → A0 q) (hf : ∀ q, free q → A0 q) (hAX : ∀ q, q < H.size → AX q → A0 q)
    (kx : ∀ (E : String) (ce : Cell) (q9 : Addr) (u : SX) (t : State) (H1 : Heap) (locs1 : List Loc), t.heap = H1 → s.vm.Alike t.vm → px u → BX E u t → H.size ≤ H1.size → (∀ q : Nat, q < H.size → ¬ AX q → H1[q]? = H[q]?) → va_S A0 H0 H1 locs1 → H1[q9]? = some ce → ce.vm = .none → s.vm.findClass E = some ce.cls → vx_W p l e R s m args below meth c H1 locs1 (cells + mc) (slots + ms) Q (F0 m pc ls rest) q9)
    (kk : ∀ (r : UInt32) (u : S) (t : State) (H1 : Heap) (locs1 : List Loc), t.heap = H1 → s.vm.Alike t.vm → post r u → B u t → H.size ≤ H1.size → (∀ q : Nat, q < H.size → ¬ A1 q → H1[q]? = H[q]?) → va_S A0 H0 H1 locs1 → W p l e R s m args below meth c H1 locs1 (cells + mc) (slots + ms) Q (F0 m (pc + 3) ls (.float r :: rest))) : W p l e R s m args below meth c H locs cells slots Q (F0 m pc ls st0) := by
  intro T hT X
  rcases hr T hT X with ⟨v, st₀, t, T', L, h0, X', hL, e1, e2, ⟨⟨r, u, hv, hp, hb⟩, hF⟩, st⟩ | ⟨q, st₀, t, T', L, E, ce, h0, X', hL, e1, e2, ⟨u, hp, hb, hF⟩, hce, hcv, hcl, st⟩
  · cases hv
    obtain ⟨k1, k2, k3⟩ := vx_keep h0 e1 hS hA hf hL hF
    obtain ⟨t2, a1, b1⟩ := kk r u t T'.heap (locs ++ L) e1.symm (by rw [← e2]; exact X'.warmed.alike) hp hb k1 k2 k3 T' rfl X'
    exact ⟨t2, st t2 a1, b1⟩
  · obtain ⟨k1, k2, k3⟩ := vx_keep h0 e1 hS hAX hf hL hF
    obtain ⟨t2, a1, b1⟩ := kx E ce q u t T'.heap (locs ++ L) e1.symm (by rw [← e2]; exact X'.warmed.alike) hp hb k1 k2 k3 (by rw [e1]; exact hce) hcv hcl T' rfl X'
    exact ⟨t2, st.trans a1, b1⟩
theorem vx_calld {S SX : Type} {post : UInt64 → S → Prop} {px : SX → Prop} {B : S → State → Prop} {BX : String → SX → State → Prop} {AX : Nat → Prop} (hr : vx_Run p l e R s m args below meth c H locs cells slots mc ms (F0 m pc ls st0) rest (va_Qd post B A1 a) (vx_X px BX AX) free) (hS : va_S A0 H0 H locs) (hA : ∀ q, q < H.size → A1 q → A0 q) (hf : ∀ q, free q → A0 q) (hAX : ∀ q, q < H.size → AX q → A0 q)
    (kx : ∀ (E : String) (ce : Cell) (q9 : Addr) (u : SX) (t : State) (H1 : Heap) (locs1 : List Loc), t.heap = H1 → s.vm.Alike t.vm → px u → BX E u t → H.size ≤ H1.size → (∀ q : Nat, q < H.size → ¬ AX q → H1[q]? = H[q]?) → va_S A0 H0 H1 locs1 → H1[q9]? = some ce → ce.vm = .none → s.vm.findClass E = some ce.cls → vx_W p l e R s m args below meth c H1 locs1 (cells + mc) (slots + ms) Q (F0 m pc ls rest) q9)
    (kk : ∀ (r : UInt64) (u : S) (t : State) (H1 : Heap) (locs1 : List Loc), t.heap = H1 → s.vm.Alike t.vm → post r u → B u t → H.size ≤ H1.size → (∀ q : Nat, q < H.size → ¬ A1 q → H1[q]? = H[q]?) → va_S A0 H0 H1 locs1 → W p l e R s m args below meth c H1 locs1 (cells + mc) (slots + ms) Q (F0 m (pc + 3) ls (.double r :: rest))) : W p l e R s m args below meth c H locs cells slots Q (F0 m pc ls st0) := by
  intro T hT X
  rcases hr T hT X with ⟨v, st₀, t, T', L, h0, X', hL, e1, e2, ⟨⟨r, u, hv, hp, hb⟩, hF⟩, st⟩ | ⟨q, st₀, t, T', L, E, ce, h0, X', hL, e1, e2, ⟨u, hp, hb, hF⟩, hce, hcv, hcl, st⟩
  · cases hv
    obtain ⟨k1, k2, k3⟩ := vx_keep h0 e1 hS hA hf hL hF
    obtain ⟨t2, a1, b1⟩ := kk r u t T'.heap (locs ++ L) e1.symm (by rw [← e2]; exact X'.warmed.alike) hp hb k1 k2 k3 T' rfl X'
    exact ⟨t2, st t2 a1, b1⟩
  · obtain ⟨k1, k2, k3⟩ := vx_keep h0 e1 hS hAX hf hL hF
    obtain ⟨t2, a1, b1⟩ := kx E ce q u t T'.heap (locs ++ L) e1.symm (by rw [← e2]; exact X'.warmed.alike) hp hb k1 k2 k3 (by rw [e1]; exact hce) hcv hcl T' rfl X'
    exact ⟨t2, st.trans a1, b1⟩
theorem vx_callv {S SX : Type} {post : S → Prop} {px : SX → Prop} {B : S → State → Prop} {BX : String → SX → State → Prop} {AX : Nat → Prop} (hr : vx_Run p l e R s m args below meth c H locs cells slots mc ms (F0 m pc ls st0) rest (va_Qv post B A1 a) (vx_X px BX AX) free) (hS : va_S A0 H0 H locs) (hA : ∀ q, q < H.size → A1 q → A0 q) (hf : ∀ q, free q → A0 q) (hAX : ∀ q, q < H.size → AX q → A0 q)
    (kx : ∀ (E : String) (ce : Cell) (q9 : Addr) (u : SX) (t : State) (H1 : Heap) (locs1 : List Loc), t.heap = H1 → s.vm.Alike t.vm → px u → BX E u t → H.size ≤ H1.size → (∀ q : Nat, q < H.size → ¬ AX q → H1[q]? = H[q]?) → va_S A0 H0 H1 locs1 → H1[q9]? = some ce → ce.vm = .none → s.vm.findClass E = some ce.cls → vx_W p l e R s m args below meth c H1 locs1 (cells + mc) (slots + ms) Q (F0 m pc ls rest) q9)
    (kk : ∀ (u : S) (t : State) (H1 : Heap) (locs1 : List Loc), t.heap = H1 → s.vm.Alike t.vm → post u → B u t → H.size ≤ H1.size → (∀ q : Nat, q < H.size → ¬ A1 q → H1[q]? = H[q]?) → va_S A0 H0 H1 locs1 → W p l e R s m args below meth c H1 locs1 (cells + mc) (slots + ms) Q (F0 m (pc + 3) ls (rest))) : W p l e R s m args below meth c H locs cells slots Q (F0 m pc ls st0) := by
  intro T hT X
  rcases hr T hT X with ⟨v, st₀, t, T', L, h0, X', hL, e1, e2, ⟨⟨u, hv, hp, hb⟩, hF⟩, st⟩ | ⟨q, st₀, t, T', L, E, ce, h0, X', hL, e1, e2, ⟨u, hp, hb, hF⟩, hce, hcv, hcl, st⟩
  · cases hv
    obtain ⟨k1, k2, k3⟩ := vx_keep h0 e1 hS hA hf hL hF
    obtain ⟨t2, a1, b1⟩ := kk u t T'.heap (locs ++ L) e1.symm (by rw [← e2]; exact X'.warmed.alike) hp hb k1 k2 k3 T' rfl X'
    exact ⟨t2, st t2 a1, b1⟩
  · obtain ⟨k1, k2, k3⟩ := vx_keep h0 e1 hS hAX hf hL hF
    obtain ⟨t2, a1, b1⟩ := kx E ce q u t T'.heap (locs ++ L) e1.symm (by rw [← e2]; exact X'.warmed.alike) hp hb k1 k2 k3 (by rw [e1]; exact hce) hcv hcl T' rfl X'
    exact ⟨t2, st.trans a1, b1⟩
/-- caught by the row x of this method's table, which names the thrown thing's own kind; the rows ahead don't lie there -/
theorem vx_catch {own : String} {E : String} {ce : Cell} {q : Addr} (hown : s.vm.findClass own = some m.cls) (pre : List ExceptionTableEntry) (x : ExceptionTableEntry) (suf : List ExceptionTableEntry) (hsplit : c.exceptionTable.toList = pre ++ x :: suf)
    (hpass : ∀ z ∈ pre, covers z pc = false) (hx : covers x pc = true) (h0 : x.catchType ≠ 0)
    (hlink : (Cond.classLink own x.catchType E).before args s = true) (hcell : H[q]? = some ce) (hv : ce.vm = .none) (hcl : s.vm.findClass E = some ce.cls)
    (kk : W p l e R s m args below meth c H locs cells slots Q (F0 m x.handlerPc ls [.ref q])) : vx_W p l e R s m args below meth c H locs cells slots Q (F0 m pc ls rest) q := by
  intro T hT X
  have hpl : e.platform.magicAccessors = ({} : Platform).magicAccessors := by rw [X.admits.platform]
  obtain ⟨c5, hc5, hcl5⟩ := Cond.classLink_spec hown hlink e.platform hpl
  cases Option.some.inj (hcl.symm.trans hc5)
  obtain ⟨vm', X', st⟩ := fx_catch X q (g := F0 m pc ls rest) rfl (by rw [hT]; exact hcell) (by rw [hv]; rfl) (by obtain ⟨k9, h9, -⟩ := Vm.findClass_spec hcl; exact ⟨k9, h9⟩) pre x suf hsplit hpass hx h0 hcl5 (va_asg _ _)
  obtain ⟨t, a1, b1⟩ := kk (T.setVm vm') hT X'
  exact ⟨t, st.trans a1, b1⟩
end Rows
section Ends
variable {p : Program} {l : Launch} {e : Env} {R : Room} {s : State} {m : MethodId} {args : Array Value} {below : List Frame} {meth : Method} {c : Code} {H : Heap} {locs : List Loc} {cells slots : Nat} {Q : State → Prop}
variable {mc ms : Nat} {free : Addr → Prop} {A0 A1 : Nat → Prop} {H0 : Heap} {a : Array Value} {ls : Array Slot} {st0 rest : List Value}
variable {Qc : Array Value → State → Outcome → State → Prop} {XC : String → State → State → Prop}
/-- what a body that may throw owes at its end -/
def vx_MQ (below : List Frame) (Qc : Array Value → State → Outcome → State → Prop) (XC : String → State → State → Prop) (a : Array Value) (s : State) (mc ms : Nat) (free : Addr → Prop) : State → Prop := fun t =>
  ∃ o, t.status = .running ∧ Ended t below o ∧ vx_Q Qc XC mc ms free a s o t
theorem vx_ret {g : JFrame} {mc ms : Nat} (k : W p l e R s m args below meth c H locs cells slots (MQ below Qc args s mc ms free) g) : W p l e R s m args below meth c H locs cells slots (vx_MQ below Qc XC args s mc ms free) g := by
  intro T hT X
  obtain ⟨t, a1, o, b1, b2, b3, b4⟩ := k T hT X
  exact ⟨t, a1, o, b1, b2, Or.inl ⟨b3, b4⟩⟩
/-- not caught here: it goes on to the caller -/
theorem vx_widen {g : JFrame} {q : Addr} {k n : Nat} (h1 : cells ≤ k) (h2 : slots ≤ n) (kk : vx_W p l e R s m args below meth c H locs k n Q g q) : vx_W p l e R s m args below meth c H locs cells slots Q g q := fun T hT X => kk T hT (stand_widen X h1 h2)
theorem vx_out {pc : Nat} {E : String} {ce : Cell} {q : Addr} {mc ms : Nat} (hout : ∀ x ∈ c.exceptionTable.toList, covers x pc = false) (hlocks : meth.locks = false) (hcell : H[q]? = some ce) (hv : ce.vm = .none) (hcl : s.vm.findClass E = some ce.cls)
    (hx : ∀ t : State, t.heap = H → s.vm.Alike t.vm → XC E s t) (hf : ∀ z ∈ locs, free z.base) (hc : cells ≤ mc) (hs : slots ≤ ms) :
    vx_W p l e R s m args below meth c H locs cells slots (vx_MQ below Qc XC args s mc ms free) (F0 m pc ls rest) q := by
  intro T hT X
  obtain ⟨st1, hrun, hend, hW, hsm⟩ := X.leaveThrown q (g := F0 m pc ls rest) rfl rfl rfl hout hlocks
  have hcell9 : (T.setFrames (.throwing q :: below)).heap[q]? = some ce := by
    show T.heap[q]? = some ce
    rw [hT]; exact hcell
  exact ⟨_, st1, .threw q, hrun, hend, Or.inr ⟨q, rfl, E, ce, locs, hx _ hT hW.alike, hcell9, hv, hcl, hW, hsm.mono hc hs, hf⟩⟩
theorem vx_frame {U : State} {k n : Nat} (h : s.sameButNew ({ U with vm := s.vm } : State) locs k n) : s.heap.size ≤ U.heap.size ∧ ∀ q : Nat, q < s.heap.size → (∀ z ∈ locs, z.base ≠ q) → U.heap[q]? = s.heap[q]? := by
  obtain ⟨-, h2, -, -, -, h6⟩ := h
  refine ⟨h2, fun q hq hz => ?_⟩
  obtain ⟨c9, e1, e2, e3, e4⟩ := h6 q _ (Array.getElem?_eq_getElem hq)
  have hs : c9.slots = (s.heap[q]).slots := Array.ext_getElem? fun i => e4 i fun hm => hz _ hm rfl
  have h9 : c9 = s.heap[q] := by
    rw [hs] at e2
    exact e2
  have e5 : U.heap[q]? = some c9 := e1
  rw [e5, h9, Array.getElem?_eq_getElem hq]
/-- the words of a throw but the four that speak of the heap -/
def vx_no (w : Cond) : Bool := decide (w ≠ .isRef (.static Bundle.tN "UNASSIGNED_STACK" Bundle.steD)) && decide (w ≠ .isRef (.static Bundle.tN "SUPPRESSED_SENTINEL" Bundle.listD)) && decide (w ≠ .laysStatic Bundle.tN "UNASSIGNED_STACK" Bundle.steD) && decide (w ≠ .laysStatic Bundle.tN "SUPPRESSED_SENTINEL" Bundle.listD)
def vx_at0 (own : String) (ic : Nat) (X : String) (names : List String) : List Cond := (Bundle.ownAtoms0 own ic X names).filter vx_no
def vx_atS (own : String) (ic : Nat) (X : String) (names : List String) : List Cond := (Bundle.ownAtoms own ic X names).filter vx_no
/-- a word that the tables alone decide, or a good one -/
def vx_ot (w : Cond) : Bool := w.onTables || goodWord w
theorem vx_ot_at {args a' : Array Value} {s U : State} {w : Cond} (hW : s.WarmedH U.vm) (hvm : s.vm = U.vm) (hg : vx_ot w = true) (h : w.before args s = true) : w.before a' U = true := by
  simp only [vx_ot, Bool.or_eq_true] at hg
  rcases hg with hg | hg
  · exact va_tabs hg hvm h
  · exact word_at hW (good_of_word hg) h
/-- a list's words: the good ones out of the method's own list, the others by premises of their own -/
theorem vx_hat {args : Array Value} {s : State} {L B : List Cond} (h1 : ∀ w ∈ L.filter goodWord, w.before args s = true) (h2 : ∀ w ∈ L.filter (fun w => !goodWord w), w ∈ B) (h3 : ∀ w ∈ B, w.before args s = true) : ∀ w ∈ L, w.before args s = true := by
  intro w hw
  by_cases g : goodWord w = true
  · exact h1 w (List.mem_filter.mpr ⟨hw, g⟩)
  · refine h3 w (h2 w (List.mem_filter.mpr ⟨hw, ?_⟩))
    show (!goodWord w) = true
    cases hgw : goodWord w
    · rfl
    · exact absurd hgw g
theorem vx_c {args : Array Value} {s : State} {w : Cond} {B : List Cond} (h : w.before args s = true) (t : ∀ w ∈ B, w.before args s = true) : ∀ w' ∈ w :: B, w'.before args s = true := fun w' h' => (List.mem_cons.mp h').elim (fun e => by rw [e]; exact h) (t w')
theorem vx_n {args : Array Value} {s : State} : ∀ w ∈ ([] : List Cond), w.before args s = true := fun _ h => nomatch h
theorem vx_own {args : Array Value} {s : State} {L : List Cond} (h1 : ∀ w ∈ L.filter vx_no, w.before args s = true)
    (hU : (Cond.isRef (.static Bundle.tN "UNASSIGNED_STACK" Bundle.steD)).before args s = true) (hN : (Cond.isRef (.static Bundle.tN "SUPPRESSED_SENTINEL" Bundle.listD)).before args s = true)
    (lU : (Cond.laysStatic Bundle.tN "UNASSIGNED_STACK" Bundle.steD).before args s = true) (lN : (Cond.laysStatic Bundle.tN "SUPPRESSED_SENTINEL" Bundle.listD).before args s = true) : ∀ w ∈ L, w.before args s = true := by
  intro w hw
  by_cases e1 : w = .isRef (.static Bundle.tN "UNASSIGNED_STACK" Bundle.steD)
  · rw [e1]; exact hU
  · by_cases e2 : w = .isRef (.static Bundle.tN "SUPPRESSED_SENTINEL" Bundle.listD)
    · rw [e2]; exact hN
    · by_cases e3 : w = .laysStatic Bundle.tN "UNASSIGNED_STACK" Bundle.steD
      · rw [e3]; exact lU
      · by_cases e4 : w = .laysStatic Bundle.tN "SUPPRESSED_SENTINEL" Bundle.listD
        · rw [e4]; exact lN
        · exact h1 w (List.mem_filter.mpr ⟨hw, by unfold vx_no; rw [decide_eq_true e1, decide_eq_true e2, decide_eq_true e3, decide_eq_true e4]; rfl⟩)
/-- where a static field lies, its class's statics cell in H -/
def vx_L (C n d : String) (A : Nat → Prop) (U : State) (H : Heap) : Prop := ∃ (c : ClassId) (k : Class) (i : Nat) (f : Field) (a : Nat) (cell : Cell), U.vm.findClass C = some c ∧ U.fieldFound? C n d = some (c, k, i, f) ∧ f.isStatic = true ∧ k.statics = some a ∧ H[a]? = some cell ∧ cell.vm.isStatics = true ∧ cell.cls = c ∧ f.slot < cell.slots.size ∧ k.staticTypes[f.slot]? = some f.type ∧ ¬ A a
theorem vx_L.moved {C n d : String} {A : Nat → Prop} {u U : State} {H : Heap} (hvm : u.vm.Alike U.vm) (h : vx_L C n d A u H) : vx_L C n d A U H := by
  obtain ⟨c, k, i, f, a, cell, h1, h2, h3, h4, h5, h6, h7, h8, h9, h10⟩ := h
  obtain ⟨k', hi', he⟩ := State.fieldFound?_setVm hvm h2
  exact ⟨c, k', i, f, a, cell, by rw [hvm.findClass]; exact h1, hi', h3, by rw [he]; exact h4, h5, h6, h7, h8, by rw [he]; exact h9, h10⟩
theorem vx_L.kept {C n d : String} {A : Nat → Prop} {U : State} {H H1 : Heap} (h : vx_L C n d A U H) (hq : ∀ a : Nat, a < H.size → ¬ A a → H1[a]? = H[a]?) : vx_L C n d A U H1 := by
  obtain ⟨c, k, i, f, a, cell, h1, h2, h3, h4, h5, h6, h7, h8, h9, h10⟩ := h
  exact ⟨c, k, i, f, a, cell, h1, h2, h3, h4, by rw [hq a (Array.getElem?_eq_some_iff.mp h5).1 h10]; exact h5, h6, h7, h8, h9, h10⟩
theorem vx_L.narrow {C n d : String} {A B : Nat → Prop} {U : State} {H : Heap} (h : vx_L C n d A U H) (hAB : ∀ q, B q → A q) : vx_L C n d B U H := by
  obtain ⟨c, k, i, f, a, cell, h1, h2, h3, h4, h5, h6, h7, h8, h9, h10⟩ := h
  exact ⟨c, k, i, f, a, cell, h1, h2, h3, h4, h5, h6, h7, h8, h9, fun z => h10 (hAB _ z)⟩
theorem vx_L.word {C n d : String} {A : Nat → Prop} {s : State} {args : Array Value} (h : vx_L C n d A s s.heap) : (Cond.laysStatic C n d).before args s = true := by
  obtain ⟨c, k, i, f, a, cell, h1, h2, h3, h4, h5, h6, h7, h8, h9, -⟩ := h
  show (Cond.laysStatic C n d).holds args s none s [] = true
  exact Cond.laysStatic_of h1 h2 h3 h4 h5 h6 h7 h8 h9
/-- .. and what it holds: null or some reference -/
def vx_Zq (C n d : String) (A : Nat → Prop) (U : State) (H : Heap) : Prop := va_Zq C n d A U H ∧ vx_L C n d A U H
theorem vx_Zq.moved {C n d : String} {A : Nat → Prop} {u U : State} {H : Heap} (hvm : u.vm.Alike U.vm) (h : vx_Zq C n d A u H) : vx_Zq C n d A U H := ⟨va_Zq.moved hvm h.1, vx_L.moved hvm h.2⟩
theorem vx_Zq.kept {C n d : String} {A : Nat → Prop} {U : State} {H H1 : Heap} (h : vx_Zq C n d A U H) (hq : ∀ a : Nat, a < H.size → ¬ A a → H1[a]? = H[a]?) : vx_Zq C n d A U H1 := ⟨va_Zq.kept h.1 hq, vx_L.kept h.2 hq⟩
theorem vx_Zq.narrow {C n d : String} {A B : Nat → Prop} {U : State} {H : Heap} (h : vx_Zq C n d A U H) (hAB : ∀ q, B q → A q) : vx_Zq C n d B U H := ⟨va_Zq.narrow h.1 hAB, vx_L.narrow h.2 hAB⟩
theorem vx_Zqof {args : Array Value} {s : State} {C n d : String} {A : Nat → Prop} (hl : (Cond.laysStatic C n d).before args s = true) (hini : (Cond.initialized C).before args s = true) (h : (Cond.isRef (.static C n d)).before args s = true) (hA : ∀ a : Nat, a < s.heap.size → ¬ A a) : vx_Zq C n d A s s.heap := by
  refine ⟨va_Zqof hl hini h hA, ?_⟩
  obtain ⟨c, k, i, f, a, cell, h1, h2, h3, h4, h5, h6, h7, h8, h9⟩ := Cond.laysStatic_spec hl
  exact ⟨c, k, i, f, a, cell, h1, h2, h3, h4, h5, h6, h7, h8, h9, hA a (Array.getElem?_eq_some_iff.mp h5).1⟩
theorem vx_isRef {C n d : String} {v : Value} {A : Nat → Prop} {s : State} {args : Array Value} (h : va_Z C n d v A s s.heap) (hv : v.isRef = true) : (Cond.isRef (.static C n d)).before args s = true := by
  obtain ⟨cf, kf, fi, f, a, cell, h1, h2, h3, h4, h5, h6, h7, -⟩ := h
  have he : (Term.static C n d).eval args s none [] s = some v := by
    simp [Term.eval, State.fieldNamed?, h1, h2, h4, h5, h6, h7]
  simp only [Cond.before, Cond.holds, Cond.value, he]
  cases v <;> simp_all [Value.isRef]
theorem vx_isRefq {C n d : String} {A : Nat → Prop} {s : State} {args : Array Value} (h : va_Zq C n d A s s.heap) : (Cond.isRef (.static C n d)).before args s = true := by
  rcases h with h | ⟨t, h⟩
  · exact vx_isRef h rfl
  · exact vx_isRef h rfl
/-- the same frame, seen from here: as if the method were called anew in this heap -/
theorem vx_rebase {T : State} (X : Stand p l e R s m args below meth c T locs cells slots) {R' : Room} (hf : R'.frames ≤ R.frames) (hl : R'.locals ≤ R.locals) (hc : cells + R'.cells ≤ R.cells) (hs : slots + R'.slots ≤ R.slots) :
    Stand p l e R' ((T.setVm s.vm).setFrames (.invoking m args :: below)) m args below meth c T [] 0 0 := by
  have htop : (T.setVm s.vm).topJava?.isSome := X.here.top
  have hF : ((T.setVm s.vm).setFrames (.invoking m args :: below)).frames = .invoking m args :: below := State.frames_setFrames _ (State.cur_lt_of_top htop)
  obtain ⟨g₀, hg0⟩ := Option.isSome_iff_exists.mp htop
  obtain ⟨r, hr⟩ := State.topJava?_eq_some.mp hg0
  have hl9 : e.platform.stackLimits (T.setVm s.vm).me = e.platform.stackLimits s.me := X.limits
  have hb9 : (T.setVm s.vm).me.stackBytes = s.me.stackBytes := X.bytes
  refine ⟨X.admits, X.cas, X.clock, hF, ?_, X.hears, X.method, X.code, X.here, X.tail, X.warmed, ?_, ?_, ?_⟩
  · have h := X.room
    have hU : ((T.setVm s.vm).setFrames (.invoking m args :: below)).localsInUse = s.localsInUse := by
      rw [State.localsInUse_invoking hF (meth := meth) (c := c) X.method X.code, State.localsInUse_invoking X.frames X.method X.code]
    simp only [State.hasRoom, Bool.and_eq_true, decide_eq_true_eq] at h ⊢
    obtain ⟨⟨⟨⟨h1, h2, h3, h4, h5, h6⟩, h7⟩, h8⟩, h9⟩ := h
    rw [X.frames, List.length_cons] at h2 h3
    have q1 := X.heapSize
    have q2 := X.used
    simp only [hF, hU, List.length_cons, State.stackLimits_setFrames, State.stackBytes_setFrames, hl9, hb9]
    refine ⟨⟨⟨⟨by omega, by omega, by omega, by omega, by omega, h6⟩, ?_⟩, ?_⟩, X.book⟩
    · show T.heap.size + R'.cells ≤ e.platform.maxCells
      omega
    · show T.slotsUsed + R'.slots ≤ e.platform.maxSlots
      omega
  · rw [State.stackLimits_setFrames]; rfl
  · rw [State.stackBytes_setFrames]; rfl
  · refine ⟨?_, Nat.le_refl _, Nat.le_refl _, ?_, ?_, fun a c9 h9 => ⟨c9, h9, rfl, rfl, fun _ _ => rfl⟩⟩
    · obtain ⟨t, ht, -⟩ := State.frames_cons hr
      show T.setVm s.vm = { ((T.setVm s.vm).setFrames (.invoking m args :: below)).setFrames (T.setVm s.vm).frames with heap := T.heap, slotsUsed := T.slotsUsed }
      rw [State.setFrames_setFrames, State.setFrames_self ht]
      rfl
    · show T.slotsUsed = T.slotsUsed + ((T.heap.toList.drop T.heap.size).map (·.slots.size)).sum
      rw [List.drop_eq_nil_of_le (Nat.le_of_eq Array.length_toList)]
      rfl
    · show ((T.heap.toList.drop T.heap.size).map (·.slots.size)).sum ≤ 0
      rw [List.drop_eq_nil_of_le (Nat.le_of_eq Array.length_toList)]
      exact Nat.le_refl _
/-- 'throw new E()': new; dup; invokespecial; athrow -/
theorem vx_throw0 {cc : ByteArray} {pc : Nat} (hexec : p.tables.exec = Jvm.exec) (hb : c.code = cc) (hl : l.stackTraces = false) {own cls : String} {names : List String} {ik ic mc ms : Nat} {A : Nat → Prop}
    (hown : s.vm.findClass own = some m.cls) (hcls : Bundle.fit cls = true) (hnames : ∀ n ∈ names, Bundle.fit n = true)
    (hk : (Cond.classLink own ik cls).before args s = true) (hini : (Cond.initialized cls).before args s = true) (hat : ∀ w ∈ vx_at0 own ic cls names, w.before args s = true)
    (hgood : ∀ w ∈ Cond.classLink own ik cls :: Cond.initialized cls :: vx_at0 own ic cls names, vx_ot w = true)
    (hU : vx_Zq Bundle.tN "UNASSIGNED_STACK" Bundle.steD A s s.heap) (hN : vx_Zq Bundle.tN "SUPPRESSED_SENTINEL" Bundle.listD A s s.heap) (hS : va_S A s.heap H locs) (hsize : ls.size = c.maxLocals)
    (d0 : decode cc pc = .ok (.new ik, 3)) (d3 : decode cc (pc + 3) = .ok (.dup, 1)) (d4 : decode cc (pc + 4) = .ok (.invokespecial ic, 3)) (d7 : decode cc (pc + 7) = .ok (.athrow, 1))
    (hout : ∀ x ∈ c.exceptionTable.toList, covers x (pc + 7) = false)
    (hRframes : names.length + 3 < R.frames) (hRlocals : (rest.map fun v => v.category).sum + (13 * (names.length + 1) + 42) ≤ R.locals) (hRcells : cells + 1 ≤ R.cells) (hRslots : slots + 6 ≤ R.slots) (hlocks : meth.locks = false)
    (hx : ∀ t : State, s.vm.Alike t.vm → H.size ≤ t.heap.size → (∀ q : Nat, q < H.size → t.heap[q]? = H[q]?) → XC cls s t)
    (hf : ∀ z ∈ locs, free z.base) (hc : cells + 1 ≤ mc) (hs : slots + 6 ≤ ms) :
    W p l e R s m args below meth c H locs cells slots (vx_MQ below Qc XC args s mc ms free) (F0 m pc ls rest) := by
  intro T hT X
  have htr : e.platform.stackTraces = false := (show e.platform.stackTraces = l.stackTraces by rw [X.admits.platform]).trans hl
  have Y := vx_rebase X (R' := { frames := R.frames, locals := R.locals, cells := 1, slots := 6 }) (Nat.le_refl _) (Nat.le_refl _) hRcells hRslots
  obtain ⟨s', hA⟩ : ∃ z, z = (T.setVm s.vm).setFrames (.invoking m args :: below) := ⟨_, rfl⟩
  rw [← hA] at Y
  have hvm : s'.vm = s.vm := by rw [hA]; rfl
  have hhp : s'.heap = H := by rw [hA]; exact hT
  have hW0 : s.WarmedH s'.vm := by rw [hvm]; exact State.WarmedH.refl s
  have hat' : ∀ w ∈ vx_at0 own ic cls names, w.before args s' = true := fun w hw => vx_ot_at hW0 hvm.symm (hgood w (List.mem_cons_of_mem _ (List.mem_cons_of_mem _ hw))) (hat w hw)
  have hk' : (Cond.classLink own ik cls).before args s' = true := vx_ot_at hW0 hvm.symm (hgood _ List.mem_cons_self) hk
  have hini' : (Cond.initialized cls).before args s' = true := vx_ot_at hW0 hvm.symm (hgood _ (List.mem_cons_of_mem _ List.mem_cons_self)) hini
  have hU' : vx_Zq Bundle.tN "UNASSIGNED_STACK" Bundle.steD A s' s'.heap := by rw [hhp]; exact vx_Zq.moved hW0.alike (hU.kept hS.2.1)
  have hN' : vx_Zq Bundle.tN "SUPPRESSED_SENTINEL" Bundle.listD A s' s'.heap := by rw [hhp]; exact vx_Zq.moved hW0.alike (hN.kept hS.2.1)
  have h : ∀ w ∈ Bundle.ownAtoms0 own ic cls names, w.before args s' = true := vx_own hat' (vx_isRefq hU'.1) (vx_isRefq hN'.1) hU'.2.word hN'.2.word
  have hown' : s'.vm.findClass own = some m.cls := by rw [hvm]; exact hown
  have hins : (Cond.instantiable cls 6).before args s' = true := h _ (by simp [Bundle.ownAtoms0])
  obtain ⟨vm₁, cX, kX, hfX, hkX, -, -, X₁, st1⟩ := Y.newCold hexec (own := own) (C := cls) (index := ik) (n := 6) hown' hk' hins hini'
    (g := F0 m pc ls rest) rfl (by rw [hb]; exact d0) (Nat.le_refl _) (Nat.le_refl _)
  generalize hT1 : (T.setVm vm₁).pushCell { cls := cX, slots := kX.instanceTypes.map defaultValue, vm := .none } = T1 at X₁ st1
  have hcat : (Value.ref T.heap.size).category = 1 := rfl
  have hcellA : T1.heap[T.heap.size]? = some (freshCell cX kX) := by rw [← hT1]; exact State.heap_pushCell_size _ _
  have d3' : decode c.code (pc + 3) = .ok (.dup, 1) := by rw [hb]; exact d3
  obtain ⟨U, hsteps, hrun, hend, hW, hsame, ce, hce, hO⟩ := X₁.ctorThrow0 hexec htr (own := own) (cls := cls) (names := names) (ic := ic) hown' hcls hnames h (fun x hx => nomatch hx) hfX hkX hcellA (by rw [hhp, hT]; exact Nat.le_refl _)
    (g := { method := m, pc := pc + 4, locals := ls, stack := .ref T.heap.size :: .ref T.heap.size :: rest, locked := none }) rfl hsize rfl rfl (rest := rest) rfl
    (by rw [hb]; exact d4) (by rw [hb]; exact d7) hout hRframes (by simp only [List.map_cons, List.sum_cons, hcat]; omega) hlocks
  obtain ⟨f1, f2⟩ := vx_frame hsame
  rw [hhp] at f1 f2
  have hWs : s.WarmedH U.vm := State.WarmedH.trans hW0 hW
  have hcl : s.vm.findClass cls = some ce.cls := by
    have h9 := hO.cls
    rw [hvm] at h9
    exact h9
  have hall : s.sameButNew ({ U with vm := s.vm } : State) locs mc ms := by
    subst hA
    obtain ⟨e1, e2⟩ := hsame
    rw [State.setFrames_setFrames] at e1
    have h2 : (T.setVm s.vm).sameButNew ({ U with vm := s.vm } : State) [] (0 + 1) (0 + 6) := ⟨e1, e2⟩
    have h3 := X.same.trans h2
    rw [List.append_nil] at h3
    exact h3.mono hc hs
  refine ⟨U, ?_, .threw T.heap.size, hrun, hend, Or.inr ⟨T.heap.size, rfl, cls, ce, locs, hx U hWs.alike f1 (fun q hq => f2 q hq (fun z hz => nomatch hz)), hce, hO.vm, hcl, hWs, hall, hf⟩⟩
  refine st1 _ ?_
  show Steps p.tables e below (T1.setTop { method := m, pc := pc + 3, locals := ls, stack := .ref T.heap.size :: rest, locked := none }) _
  jvm_step X₁.here [X₁.here.top, hexec, d3', Value.category]
  exact hsteps
/-- 'throw new E("text")': new; dup; ldc; invokespecial; athrow -/
theorem vx_throwS {cc : ByteArray} {pc : Nat} (hexec : p.tables.exec = Jvm.exec) (hb : c.code = cc) (hl : l.stackTraces = false) {own cls text : String} {names : List String} {ik is ic mc ms sa : Nat} {A : Nat → Prop}
    (hown : s.vm.findClass own = some m.cls) (hcls : Bundle.fit cls = true) (hnames : ∀ n ∈ names, Bundle.fit n = true)
    (hk : (Cond.classLink own ik cls).before args s = true) (hini : (Cond.initialized cls).before args s = true) (hstr : vk_R own is text sa s) (hat : ∀ w ∈ vx_atS own ic cls names, w.before args s = true)
    (hgood : ∀ w ∈ Cond.classLink own ik cls :: Cond.initialized cls :: vx_atS own ic cls names, vx_ot w = true)
    (hU : vx_Zq Bundle.tN "UNASSIGNED_STACK" Bundle.steD A s s.heap) (hN : vx_Zq Bundle.tN "SUPPRESSED_SENTINEL" Bundle.listD A s s.heap) (hS : va_S A s.heap H locs) (hsize : ls.size = c.maxLocals)
    (d0 : decode cc pc = .ok (.new ik, 3)) (d3 : decode cc (pc + 3) = .ok (.dup, 1)) (d4 : decode cc (pc + 4) = .ok (.ldc is, 2)) (d6 : decode cc (pc + 6) = .ok (.invokespecial ic, 3)) (d9 : decode cc (pc + 9) = .ok (.athrow, 1))
    (hout : ∀ x ∈ c.exceptionTable.toList, covers x (pc + 9) = false)
    (hRframes : names.length + 3 < R.frames) (hRlocals : (rest.map fun v => v.category).sum + (13 * (names.length + 1) + 43) ≤ R.locals) (hRcells : cells + 1 ≤ R.cells) (hRslots : slots + 6 ≤ R.slots) (hlocks : meth.locks = false)
    (hx : ∀ t : State, s.vm.Alike t.vm → H.size ≤ t.heap.size → (∀ q : Nat, q < H.size → t.heap[q]? = H[q]?) → XC cls s t)
    (hf : ∀ z ∈ locs, free z.base) (hc : cells + 1 ≤ mc) (hs : slots + 6 ≤ ms) :
    W p l e R s m args below meth c H locs cells slots (vx_MQ below Qc XC args s mc ms free) (F0 m pc ls rest) := by
  intro T hT X
  have htr : e.platform.stackTraces = false := (show e.platform.stackTraces = l.stackTraces by rw [X.admits.platform]).trans hl
  have Y := vx_rebase X (R' := { frames := R.frames, locals := R.locals, cells := 1, slots := 6 }) (Nat.le_refl _) (Nat.le_refl _) hRcells hRslots
  obtain ⟨s', hA⟩ : ∃ z, z = (T.setVm s.vm).setFrames (.invoking m args :: below) := ⟨_, rfl⟩
  rw [← hA] at Y
  have hvm : s'.vm = s.vm := by rw [hA]; rfl
  have hhp : s'.heap = H := by rw [hA]; exact hT
  have hW0 : s.WarmedH s'.vm := by rw [hvm]; exact State.WarmedH.refl s
  have hat' : ∀ w ∈ vx_atS own ic cls names, w.before args s' = true := fun w hw => vx_ot_at hW0 hvm.symm (hgood w (List.mem_cons_of_mem _ (List.mem_cons_of_mem _ hw))) (hat w hw)
  have hk' : (Cond.classLink own ik cls).before args s' = true := vx_ot_at hW0 hvm.symm (hgood _ List.mem_cons_self) hk
  have hini' : (Cond.initialized cls).before args s' = true := vx_ot_at hW0 hvm.symm (hgood _ (List.mem_cons_of_mem _ List.mem_cons_self)) hini
  have hU' : vx_Zq Bundle.tN "UNASSIGNED_STACK" Bundle.steD A s' s'.heap := by rw [hhp]; exact vx_Zq.moved hW0.alike (hU.kept hS.2.1)
  have hN' : vx_Zq Bundle.tN "SUPPRESSED_SENTINEL" Bundle.listD A s' s'.heap := by rw [hhp]; exact vx_Zq.moved hW0.alike (hN.kept hS.2.1)
  have h : ∀ w ∈ Bundle.ownAtoms own ic cls names, w.before args s' = true := vx_own hat' (vx_isRefq hU'.1) (vx_isRefq hN'.1) hU'.2.word hN'.2.word
  have hown' : s'.vm.findClass own = some m.cls := by rw [hvm]; exact hown
  have hins : (Cond.instantiable cls 6).before args s' = true := h _ (by simp [Bundle.ownAtoms])
  obtain ⟨vm₁, cX, kX, hfX, hkX, -, -, X₁, st1⟩ := Y.newCold hexec (own := own) (C := cls) (index := ik) (n := 6) hown' hk' hins hini'
    (g := F0 m pc ls rest) rfl (by rw [hb]; exact d0) (Nat.le_refl _) (Nat.le_refl _)
  generalize hT1 : (T.setVm vm₁).pushCell { cls := cX, slots := kX.instanceTypes.map defaultValue, vm := .none } = T1 at X₁ st1
  have hcat : (Value.ref T.heap.size).category = 1 := rfl
  have hcellA : T1.heap[T.heap.size]? = some (freshCell cX kX) := by rw [← hT1]; exact State.heap_pushCell_size _ _
  have d3' : decode c.code (pc + 3) = .ok (.dup, 1) := by rw [hb]; exact d3
  have d4' : decode c.code (pc + 4) = .ok (.ldc is, 2) := by rw [hb]; exact d4
  have hstr' : vk_R own is text sa s' := vk_R.warm hW0 hstr
  obtain ⟨U, hsteps, hrun, hend, hW, hsame, ce, hce, hO⟩ := X₁.ctorThrowS hexec htr (own := own) (cls := cls) (names := names) (ic := ic) hown' hcls hnames h (fun x hx => nomatch hx) hfX hkX hcellA (by rw [hhp, hT]; exact Nat.le_refl _) (msg := .ref sa) rfl
    (g := { method := m, pc := pc + 6, locals := ls, stack := .ref sa :: .ref T.heap.size :: .ref T.heap.size :: rest, locked := none }) rfl hsize rfl rfl (rest := rest) rfl
    (by rw [hb]; exact d6) (by rw [hb]; exact d9) hout hRframes (by simp only [List.map_cons, List.sum_cons, hcat]; omega) hlocks
  obtain ⟨f1, f2⟩ := vx_frame hsame
  rw [hhp] at f1 f2
  have hWs : s.WarmedH U.vm := State.WarmedH.trans hW0 hW
  have hcl : s.vm.findClass cls = some ce.cls := by
    have h9 := hO.cls
    rw [hvm] at h9
    exact h9
  have hall : s.sameButNew ({ U with vm := s.vm } : State) locs mc ms := by
    subst hA
    obtain ⟨e1, e2⟩ := hsame
    rw [State.setFrames_setFrames] at e1
    have h2 : (T.setVm s.vm).sameButNew ({ U with vm := s.vm } : State) [] (0 + 1) (0 + 6) := ⟨e1, e2⟩
    have h3 := X.same.trans h2
    rw [List.append_nil] at h3
    exact h3.mono hc hs
  refine ⟨U, ?_, .threw T.heap.size, hrun, hend, Or.inr ⟨T.heap.size, rfl, cls, ce, locs, hx U hWs.alike f1 (fun q hq => f2 q hq (fun z hz => nomatch hz)), hce, hO.vm, hcl, hWs, hall, hf⟩⟩
  refine st1 _ ?_
  show Steps p.tables e below (T1.setTop { method := m, pc := pc + 3, locals := ls, stack := .ref T.heap.size :: rest, locked := none }) _
  jvm_step X₁.here [X₁.here.top, hexec, d3', Value.category]
  exact X₁.ldcString hexec (own := own) (text := text) (index := is) (a := sa) hown' hstr'.1 hstr'.2
    (g := { method := m, pc := pc + 4, locals := ls, stack := .ref T.heap.size :: .ref T.heap.size :: rest, locked := none }) rfl d4' _ hsteps
/-- 'throw new E("text")', the text by a wide index -/
theorem vx_throwSW {cc : ByteArray} {pc : Nat} (hexec : p.tables.exec = Jvm.exec) (hb : c.code = cc) (hl : l.stackTraces = false) {own cls text : String} {names : List String} {ik is ic mc ms sa : Nat} {A : Nat → Prop}
    (hown : s.vm.findClass own = some m.cls) (hcls : Bundle.fit cls = true) (hnames : ∀ n ∈ names, Bundle.fit n = true)
    (hk : (Cond.classLink own ik cls).before args s = true) (hini : (Cond.initialized cls).before args s = true) (hstr : vk_R own is text sa s) (hat : ∀ w ∈ vx_atS own ic cls names, w.before args s = true)
    (hgood : ∀ w ∈ Cond.classLink own ik cls :: Cond.initialized cls :: vx_atS own ic cls names, vx_ot w = true)
    (hU : vx_Zq Bundle.tN "UNASSIGNED_STACK" Bundle.steD A s s.heap) (hN : vx_Zq Bundle.tN "SUPPRESSED_SENTINEL" Bundle.listD A s s.heap) (hS : va_S A s.heap H locs) (hsize : ls.size = c.maxLocals)
    (d0 : decode cc pc = .ok (.new ik, 3)) (d3 : decode cc (pc + 3) = .ok (.dup, 1)) (d4 : decode cc (pc + 4) = .ok (.ldc_w is, 3)) (d7 : decode cc (pc + 7) = .ok (.invokespecial ic, 3)) (d10 : decode cc (pc + 10) = .ok (.athrow, 1))
    (hout : ∀ x ∈ c.exceptionTable.toList, covers x (pc + 10) = false)
    (hRframes : names.length + 3 < R.frames) (hRlocals : (rest.map fun v => v.category).sum + (13 * (names.length + 1) + 43) ≤ R.locals) (hRcells : cells + 1 ≤ R.cells) (hRslots : slots + 6 ≤ R.slots) (hlocks : meth.locks = false)
    (hx : ∀ t : State, s.vm.Alike t.vm → H.size ≤ t.heap.size → (∀ q : Nat, q < H.size → t.heap[q]? = H[q]?) → XC cls s t)
    (hf : ∀ z ∈ locs, free z.base) (hc : cells + 1 ≤ mc) (hs : slots + 6 ≤ ms) :
    W p l e R s m args below meth c H locs cells slots (vx_MQ below Qc XC args s mc ms free) (F0 m pc ls rest) := by
  intro T hT X
  have htr : e.platform.stackTraces = false := (show e.platform.stackTraces = l.stackTraces by rw [X.admits.platform]).trans hl
  have Y := vx_rebase X (R' := { frames := R.frames, locals := R.locals, cells := 1, slots := 6 }) (Nat.le_refl _) (Nat.le_refl _) hRcells hRslots
  obtain ⟨s', hA⟩ : ∃ z, z = (T.setVm s.vm).setFrames (.invoking m args :: below) := ⟨_, rfl⟩
  rw [← hA] at Y
  have hvm : s'.vm = s.vm := by rw [hA]; rfl
  have hhp : s'.heap = H := by rw [hA]; exact hT
  have hW0 : s.WarmedH s'.vm := by rw [hvm]; exact State.WarmedH.refl s
  have hat' : ∀ w ∈ vx_atS own ic cls names, w.before args s' = true := fun w hw => vx_ot_at hW0 hvm.symm (hgood w (List.mem_cons_of_mem _ (List.mem_cons_of_mem _ hw))) (hat w hw)
  have hk' : (Cond.classLink own ik cls).before args s' = true := vx_ot_at hW0 hvm.symm (hgood _ List.mem_cons_self) hk
  have hini' : (Cond.initialized cls).before args s' = true := vx_ot_at hW0 hvm.symm (hgood _ (List.mem_cons_of_mem _ List.mem_cons_self)) hini
  have hU' : vx_Zq Bundle.tN "UNASSIGNED_STACK" Bundle.steD A s' s'.heap := by rw [hhp]; exact vx_Zq.moved hW0.alike (hU.kept hS.2.1)
  have hN' : vx_Zq Bundle.tN "SUPPRESSED_SENTINEL" Bundle.listD A s' s'.heap := by rw [hhp]; exact vx_Zq.moved hW0.alike (hN.kept hS.2.1)
  have h : ∀ w ∈ Bundle.ownAtoms own ic cls names, w.before args s' = true := vx_own hat' (vx_isRefq hU'.1) (vx_isRefq hN'.1) hU'.2.word hN'.2.word
  have hown' : s'.vm.findClass own = some m.cls := by rw [hvm]; exact hown
  have hins : (Cond.instantiable cls 6).before args s' = true := h _ (by simp [Bundle.ownAtoms])
  obtain ⟨vm₁, cX, kX, hfX, hkX, -, -, X₁, st1⟩ := Y.newCold hexec (own := own) (C := cls) (index := ik) (n := 6) hown' hk' hins hini'
    (g := F0 m pc ls rest) rfl (by rw [hb]; exact d0) (Nat.le_refl _) (Nat.le_refl _)
  generalize hT1 : (T.setVm vm₁).pushCell { cls := cX, slots := kX.instanceTypes.map defaultValue, vm := .none } = T1 at X₁ st1
  have hcat : (Value.ref T.heap.size).category = 1 := rfl
  have hcellA : T1.heap[T.heap.size]? = some (freshCell cX kX) := by rw [← hT1]; exact State.heap_pushCell_size _ _
  have d3' : decode c.code (pc + 3) = .ok (.dup, 1) := by rw [hb]; exact d3
  have d4' : decode c.code (pc + 4) = .ok (.ldc_w is, 3) := by rw [hb]; exact d4
  have hstr' : vk_R own is text sa s' := vk_R.warm hW0 hstr
  obtain ⟨U, hsteps, hrun, hend, hW, hsame, ce, hce, hO⟩ := X₁.ctorThrowS hexec htr (own := own) (cls := cls) (names := names) (ic := ic) hown' hcls hnames h (fun x hx => nomatch hx) hfX hkX hcellA (by rw [hhp, hT]; exact Nat.le_refl _) (msg := .ref sa) rfl
    (g := { method := m, pc := pc + 7, locals := ls, stack := .ref sa :: .ref T.heap.size :: .ref T.heap.size :: rest, locked := none }) rfl hsize rfl rfl (rest := rest) rfl
    (by rw [hb]; exact d7) (by rw [hb]; exact d10) hout hRframes (by simp only [List.map_cons, List.sum_cons, hcat]; omega) hlocks
  obtain ⟨f1, f2⟩ := vx_frame hsame
  rw [hhp] at f1 f2
  have hWs : s.WarmedH U.vm := State.WarmedH.trans hW0 hW
  have hcl : s.vm.findClass cls = some ce.cls := by
    have h9 := hO.cls
    rw [hvm] at h9
    exact h9
  have hall : s.sameButNew ({ U with vm := s.vm } : State) locs mc ms := by
    subst hA
    obtain ⟨e1, e2⟩ := hsame
    rw [State.setFrames_setFrames] at e1
    have h2 : (T.setVm s.vm).sameButNew ({ U with vm := s.vm } : State) [] (0 + 1) (0 + 6) := ⟨e1, e2⟩
    have h3 := X.same.trans h2
    rw [List.append_nil] at h3
    exact h3.mono hc hs
  refine ⟨U, ?_, .threw T.heap.size, hrun, hend, Or.inr ⟨T.heap.size, rfl, cls, ce, locs, hx U hWs.alike f1 (fun q hq => f2 q hq (fun z hz => nomatch hz)), hce, hO.vm, hcl, hWs, hall, hf⟩⟩
  refine st1 _ ?_
  show Steps p.tables e below (T1.setTop { method := m, pc := pc + 3, locals := ls, stack := .ref T.heap.size :: rest, locked := none }) _
  jvm_step X₁.here [X₁.here.top, hexec, d3', Value.category]
  exact X₁.ldcStringW hexec (own := own) (text := text) (index := is) (a := sa) hown' hstr'.1 hstr'.2
    (g := { method := m, pc := pc + 4, locals := ls, stack := .ref T.heap.size :: .ref T.heap.size :: rest, locked := none }) rfl d4' _ hsteps
end Ends
section Bodies
variable {l : Launch}
theorem vx_ofW {y : MethodName} {ws ws' : List Cond} {rm : Room} {Pc : Array Value → State → Prop} {Qc : Array Value → State → Outcome → State → Prop} {XC : String → State → State → Prop} {mc ms : Nat} {free : Addr → Prop} {cc : ByteArray} {maxL : Nat} {ret : Option FieldType}
    (hy : plainName y.cls = true) (hw : ws = Cond.code y cc maxL ret :: ws')
    (body : ∀ p e s m args below meth c s₁, BodyLoose p l y (headSpec ws rm) cc maxL ret e s m args below meth c s₁ → c.maxLocals = maxL → (∀ x ∈ c.exceptionTable.toList, False) → Pc args s →
      W p l e (headSpec ws rm).room s m args below meth c s.heap [] 0 0 (vx_MQ below Qc XC args s mc ms free) (entryFrame m args maxL)) : vx_Met l y ws rm Pc Qc XC mc ms free := by
  refine MetFree.of_bodyS (code := cc) (maxLocals := maxL) (ret := ret) hy ?_ ?_
  · intro args s m h hn
    obtain ⟨meth, c, h1, h2, h3, h4, h5, h6, -, -⟩ := Cond.code_spec hn (atoms_spec (ws := ws) h _ (by rw [hw]; exact List.mem_cons_self))
    exact ⟨meth, c, h1, h2, h3, h4, h5, h6⟩
  · intro p e s m args below meth c s₁ B hml hP _
    have hh0 : s₁.heap = s.heap := by rw [B.state]; rfl
    have ht : ∀ x ∈ c.exceptionTable.toList, False := by
      obtain ⟨meth9, c9, h1, h2, -, -, -, -, h7, -⟩ := Cond.code_spec B.named (atoms_spec (ws := ws) B.pre _ (by rw [hw]; exact List.mem_cons_self))
      cases Option.some.inj (h1.symm.trans B.method)
      cases Option.some.inj (h2.symm.trans (Stand.of_body B).code)
      intro x hx
      rw [Array.isEmpty_iff.mp h7] at hx
      cases hx
    obtain ⟨t, a1, o, b1, b2, b3⟩ := body p e s m args below meth c s₁ B hml ht hP s₁ hh0 (Stand.of_body B)
    exact ⟨t, o, a1, b1, b2, b3⟩
/-- the table of a body with handlers -/
theorem vx_table {p : Program} {x y : MethodName} {S : Spec} {cc bytes : ByteArray} {maxL maxL' : Nat} {ret ret' : Option FieldType} {e : Env} {s s₁ : State} {m : MethodId} {args : Array Value} {below : List Frame} {meth : Method} {c : Code} {hh : List (Nat × Nat × Nat × Nat)}
    (B : BodyLoose p l y S cc maxL ret e s m args below meth c s₁) (h : (Cond.codeWith y bytes maxL' ret' hh).before args s = true) : c.exceptionTable.toList = tableOf hh := by
  obtain ⟨m9, meth9, c9, hn9, h1, h2, -, -, h6, -⟩ := Cond.codeWith_spec h
  cases Option.some.inj (hn9.symm.trans B.named)
  cases Option.some.inj (h1.symm.trans B.method)
  cases Option.some.inj (h2.symm.trans (Stand.of_body B).code)
  rw [← h6, table_eq]
end Bodies
end VXA
/-! ===== END ===== -/
/-! ===== BEGIN a static call of a method with an exception table ===== -/
section VXS
variable {p : Program} {l : Launch} {e : Env} {R : Room} {s : State} {m : MethodId} {args : Array Value} {below : List Frame} {meth : Method} {c : Code} {T : State} {H : Heap} {locs : List Loc} {cells slots : Nat}
abbrev vx_CSW (R : Room) (s : State) (args : Array Value) (own : String) (index : Nat) (y : MethodName) (bytes : ByteArray) (maxL : Nat) (ret : Option FieldType) (hh : List (Nat × Nat × Nat × Nat)) (ws : List Cond) (rm : Room) (mc ms n : Nat) : Prop :=
  (rm.cells = mc ∧ rm.slots = ms ∧ rm.frames + 1 ≤ R.frames ∧ 8 + (maxL + 11) + rm.locals ≤ R.locals ∧ (∀ w ∈ ws, ∀ (a' : Array Value) (U : State), s.WarmedH U.vm → w.before a' U = true) ∧ Cond.codeWith y bytes maxL ret hh ∈ ws) ∧
  (Cond.codeWith y bytes maxL ret hh).before args s = true ∧ (Cond.initialized y.cls).before args s = true ∧ (y.cls ≠ "java/lang/invoke/MethodHandle" ∧ y.cls ≠ "java/lang/invoke/VarHandle") ∧
  (∀ sig, parseMethodDescriptor y.desc = some sig → n = sig.parameters.length) ∧ (Cond.methodLink own index y).before args s = true ∧ (Cond.static y).before args s = true
theorem vx_cwSW {own : String} {index maxL mc ms : Nat} {y : MethodName} {bytes : ByteArray} {ret : Option FieldType} {hh : List (Nat × Nat × Nat × Nat)} {Ts ws ws' : List Cond} {rm : Room} (n : Nat) (ht : ∀ w ∈ Ts, w.before args s = true) (hT : GoodIn Ts (va_wsS own index y ws)) (hw : ws = Cond.codeWith y bytes maxL ret hh :: ws') (hrc : rm.cells = mc) (hrs : rm.slots = ms)
    (hd : y.cls ≠ "java/lang/invoke/MethodHandle" ∧ y.cls ≠ "java/lang/invoke/VarHandle" ∧ (parseMethodDescriptor y.desc).map (fun d => d.parameters.length) = some n) (hR : rm.frames + 1 ≤ R.frames ∧ 8 + (maxL + 11) + rm.locals ≤ R.locals) :
    vx_CSW R s args own index y bytes maxL ret hh ws rm mc ms n := by
  have ok : ∀ w ∈ va_wsS own index y ws, w.before args s = true := fun w h => ht w (hT w h).1
  have hG : GoodIn Ts ws := fun w h => hT w (by unfold va_wsS; exact List.mem_append_right _ h)
  have hc : Cond.codeWith y bytes maxL ret hh ∈ ws := by rw [hw]; exact List.mem_cons_self
  refine ⟨⟨hrc, hrs, hR.1, hR.2, pay_in ht hG, hc⟩, ht _ (hG _ hc).1, ok _ (by simp [va_wsS]), ⟨hd.1, hd.2.1⟩, fun sig h => ?_, ok _ (by simp [va_wsS]), ok _ (by simp [va_wsS])⟩
  have h2 := hd.2.2
  rw [h] at h2
  exact (Option.some.inj h2).symm
theorem vx_callSW (X : Stand p l e R s m args below meth c T locs cells slots) (hexec : p.tables.exec = Jvm.exec) {own : String} {index : Nat} {y : MethodName} {bytes : ByteArray} {maxL : Nat} {ret : Option FieldType} {hh : List (Nat × Nat × Nat × Nat)}
    (hown : s.vm.findClass own = some m.cls) (hlink : (Cond.methodLink own index y).before args s = true) (hstat : (Cond.static y).before args s = true) (hinit : (Cond.initialized y.cls).before args s = true)
    (hcode : (Cond.codeWith y bytes maxL ret hh).before args s = true) (hy : y.cls ≠ "java/lang/invoke/MethodHandle" ∧ y.cls ≠ "java/lang/invoke/VarHandle")
    {W9 : Nat} {Pre : Pt → Array Value → Prop} {Post : Pt → Array Value → Option Value → Pt → Prop} (hK : Back l R p e below s args y 3 W9 Pre Post)
    {g : JFrame} (hg : g.method = m) (hsize : g.locals.size = c.maxLocals) {argsL rest : List Value} (hlen : ∀ sig, parseMethodDescriptor y.desc = some sig → argsL.length = sig.parameters.length)
    (hstack : g.stack = argsL.reverse ++ rest) (hW : 2 * g.monitorRoom + (rest.map fun v => v.category).sum ≤ W9) (hdg : decode c.code g.pc = .ok (.invokestatic index, 3))
    (hpre : ∀ vm₁, s.WarmedH vm₁ → Pre ⟨T.setVm vm₁, locs, cells, slots⟩ argsL.toArray) :
    ∃ (v : Option Value) (vm₁ : Vm) (B : Pt), s.WarmedH vm₁ ∧ Stand p l e R s m args below meth c B.U B.locs B.cells B.slots ∧ Post ⟨T.setVm vm₁, locs, cells, slots⟩ argsL.toArray v B ∧
      ∀ target, Steps p.tables e below (B.U.setTop { g with pc := g.pc + 3, stack := v.toList ++ rest }) target → Steps p.tables e below (T.setTop g) target := by
  obtain ⟨mk, methM, cM, hnamed, hmethM, -, -, -, -, -, -, hsigM⟩ := Cond.codeWith_spec hcode
  have hstatic : methM.isStatic = true := Cond.static_spec hnamed hmethM hstat
  obtain ⟨kP, hkP, -⟩ := className_of_methodNamed hnamed
  have hinitP : kP.init = .initialized := Cond.initialized_spec (findClass_of_methodNamed hnamed) hkP hinit
  obtain ⟨vm₁, X₁, hstep₁⟩ := X.invokestatic hexec hown hlink hnamed hmethM hstatic hkP hinitP hy (g := g) hg (argsL := argsL) (rest := rest) (hlen _ hsigM) hstack hdg
  obtain ⟨v, B, X', hpost, hsteps⟩ := hK m meth c ⟨T.setVm vm₁, locs, cells, slots⟩ { g with stack := rest } (.invokestatic index) mk argsL.toArray X₁ hg hsize hdg hW (X₁.named hnamed) (hpre vm₁ X₁.warmed)
  exact ⟨v, vm₁, B, X₁.warmed, X', hpost, fun target h => hstep₁ _ fun acts => by rw [doInvoke_state]; exact hsteps.trans h⟩
theorem vx_runSW {y : MethodName} {bytes cc : ByteArray} {maxL nL mc ms n index : Nat} {ret : Option FieldType} {hh : List (Nat × Nat × Nat × Nat)} {ws : List Cond} {rm : Room} {Pc : Array Value → State → Prop} {Qc : Array Value → State → Outcome → State → Prop} {free : Addr → Prop} {Ts : List Cond} {own : String} {As rest : List Value} {g : JFrame}
    (S : CallFix p m c cc nL s args Ts own) (hM : Met l y ws rm Pc Qc mc ms free) (cw : vx_CSW R s args own index y bytes maxL ret hh ws rm mc ms n) (hp : PreS s H Pc As)
    (hg : g.method = m) (hn : As.length = n) (hsize : g.locals.size = nL) (hstack : g.stack = As.reverse ++ rest) (hW : 2 * g.monitorRoom + (rest.map fun v => v.category).sum ≤ 8) (hdg : decode cc g.pc = .ok (.invokestatic index, 3)) (hf : cells + mc ≤ R.cells ∧ slots + ms ≤ R.slots) :
    va_Run p l e R s m args below meth c H locs cells slots mc ms g rest (Qc As.toArray) (free) := by
  obtain ⟨⟨hrc, hrs, hfr, hlo, hws, hcw⟩, hcode, hini, hy, hlen, hl, hstt⟩ := cw
  have hK : Back l R p e below s args y 3 8 (PreOf R mc ms Pc) (PostOf Qc mc ms free) := va_backW (hh := hh) (bytes := bytes) (maxL := maxL) (ret := ret) hM hp.1 hrc hrs hfr hlo hws hcw (fun a' U hW => word_at hW (Or.inl (by first | rfl | simp [Cond.onTables, Cond.keeps, Cond.steady])) hini)
  obtain ⟨hx, hb, hml, ho, -⟩ := S
  intro T hT X
  obtain ⟨v, vm₁, ⟨U', l2, c2, s2⟩, hW₁, X', ⟨g', mk, t, L, e1, e2, hq, h1, hL, h2, h3⟩, st⟩ := vx_callSW X hx (hh := hh) (bytes := bytes) (maxL := maxL) (ret := ret) ho hl hstt hini hcode hy hK hg (hsize.trans hml.symm) (argsL := As) (rest := rest) (fun sig h => hn.trans (hlen sig h)) hstack hW (by rw [hb]; exact hdg)
    (fun vm₁ hW₁ => ⟨hf.1, hf.2, hp.2 (T.setVm vm₁) hT hW₁⟩)
  dsimp only [Pt.U, Pt.locs, Pt.cells, Pt.slots] at X' e1 e2 h1 h2 h3 st
  subst h1; subst h2; subst h3
  exact ⟨v, (T.setVm vm₁).calling g' mk As.toArray, t, U', L, hT, X', hL, e1, e2, hq, st⟩
/-- a thing of a world lies in the heap -/
theorem vx_lt {D : va_G} {cl : List vw_C} {ws : va_W} {H1 : Heap} (h : va_P D cl ws H1) {k : Nat} {q : Nat × va_E} (hk : ws[k]? = some q) : q.1 < H1.size := (h k q hk).lt
end VXS
/-! ===== END ===== -/
/-! ===== BEGIN methods with a table of their own: called by a name, returning or throwing ===== -/
section VXH
/-! vx_backW, vx_callVX, vx_callSX, vx_callVW, vx_runVW, vx_runVX, vx_runSX, vx_ofWH follow the same proofs as their sisters above (Free/Laws.lean, Shelf42/LK1.lean); vx_outP calls Shelf42/NT130.lean (outThrough). -/
section
variable {l : Launch} {R : Room} {p : Program} {e : Env} {below : List Frame} {s : State} {sargs : Array Value} {y : MethodName} {len W9 : Nat}
theorem vx_backW {ws : List Cond} {rm : Room} {Pc : Array Value → State → Prop} {Qc : Array Value → State → Outcome → State → Prop} {XC : String → State → State → Prop} {mc ms : Nat} {free : Addr → Prop} {bytes : ByteArray} {maxL : Nat} {ret : Option FieldType} {hh : List (Nat × Nat × Nat × Nat)}
    (hM : vx_Met l y ws rm Pc Qc XC mc ms free) (hblind : FrameBlind Pc) (hrc : rm.cells = mc) (hrs : rm.slots = ms)
    (hframes : rm.frames + 1 ≤ R.frames) (hlocals : W9 + (maxL + 11) + rm.locals ≤ R.locals)
    (hws : ∀ w ∈ ws, ∀ a' U, s.WarmedH U.vm → w.before a' U = true) (hcode : Cond.codeWith y bytes maxL ret hh ∈ ws) (hinit : ∀ a' U, s.WarmedH U.vm → (Cond.initialized y.cls).before a' U = true) :
    vx_Back l R p e below s sargs y len W9 (PreOf R mc ms Pc) (PostOf Qc mc ms free) (vx_Post XC mc ms free) := by
  intro m meth c A g ig mk a X hg hsize hdg hW hn hp
  have h1 : (headSpec ws rm).pre.before a A.U = true := atoms_intro fun w hw => hws w hw _ _ X.warmed
  have h2 : (Cond.codeWith y bytes maxL ret hh).before a A.U = true := hws _ hcode _ _ X.warmed
  have h3 : (Cond.initialized y.cls).before a A.U = true := hinit _ _ X.warmed
  have h4 : A.cells + (headSpec ws rm).room.cells ≤ R.cells := by rw [show (headSpec ws rm).room.cells = mc from hrc]; exact hp.1
  have h5 : A.slots + (headSpec ws rm).room.slots ≤ R.slots := by rw [show (headSpec ws rm).room.slots = ms from hrs]; exact hp.2.1
  have hPc : Pc a (A.U.calling g mk a) := hblind _ _ _ _ hp.2.2
  obtain ⟨U, Ls, c0, s0⟩ := A
  dsimp only [Pt.U, Pt.locs, Pt.cells, Pt.slots] at h1 h2 h3 h4 h5 X hn hPc ⊢
  obtain ⟨m9, methY, cY, hn9, hmY, hcY, -, hlY, -⟩ := Cond.codeWith_spec h2
  cases Option.some.inj (hn9.symm.trans hn)
  obtain ⟨kY, hkY, -⟩ := className_of_methodNamed hn
  have hinitY : kY.init = .initialized := Cond.initialized_spec (findClass_of_methodNamed hn) hkY h3
  have h : At U g.method c below := by rw [hg]; exact X.here
  have hlocals9 : W9 + (maxL + 11) + (headSpec ws rm).room.locals ≤ R.locals := hlocals
  have happ : (headSpec ws rm).appliesLoose y e.platform (U.calling g mk a) = true :=
    Spec.appliesLoose_calling (g := g) h hdg hn hkY hinitY
      (X.room_calling (g := g) (R' := (headSpec ws rm).room) hsize hmY hcY hframes (by rw [hlY]; omega) h4 h5) h1
  obtain ⟨mid, hmid⟩ := h.above
  have hfr : (U.setTop g).frames = (.java g :: mid) ++ below := by rw [State.frames_setTop' g h.top, hmid]; rfl
  obtain ⟨o, s₂, hsteps, -, hend, hq⟩ := Steps.callFree hM p X.admits X.cas X.clock (acts := []) hfr happ hPc trivial
  have hq' : vx_Q Qc XC mc ms free a (U.calling g mk a) o s₂ := hq
  rw [State.frames_setTop' g h.top] at hend
  obtain ⟨g₀, hg0⟩ := Option.isSome_iff_exists.mp h.top
  obtain ⟨r, hr⟩ := State.topJava?_eq_some.mp hg0
  have hr' : (({ U with heap := s₂.heap, slotsUsed := s₂.slotsUsed } : State).setVm s₂.vm).frames = .java g₀ :: r := hr
  rcases hq' with ⟨hqc, L, hfe, hL⟩ | ⟨q, rfl, E, ce, L, hx, hce, hcv, hcl, hW₂, hsm, hL⟩
  · obtain ⟨⟨v, rfl⟩, hW₂, e2, q2, q3, q4, q5, q6⟩ := id hfe
    have e3 : s₂ = ({ (U.calling g mk a).setFrames s₂.frames with heap := s₂.heap, slotsUsed := s₂.slotsUsed } : State).setVm s₂.vm := by
      have : s₂ = ({ s₂ with vm := (U.calling g mk a).vm } : State).setVm s₂.vm := rfl
      rw [e2] at this
      exact this
    obtain ⟨c₂, i₂, len₂, hc₂, hd₂, hf₂⟩ := hend
    have hW' : U.WarmedH s₂.vm := hW₂
    have hcc : c₂ = c := by
      have h1 : s₂.code? g.method = U.code? g.method := by
        rw [State.code?_eq, State.code?_eq, hW'.alike.method?]
      exact Option.some.inj (hc₂.symm.trans (h1.trans h.code))
    subst hcc
    have hlen : len₂ = len := by rw [hdg] at hd₂; cases hd₂; rfl
    subst hlen
    have hs₂ : s₂ = (({ U with heap := s₂.heap, slotsUsed := s₂.slotsUsed } : State).setVm s₂.vm).setTop { g with pc := g.pc + len₂, stack := v.toList ++ g.stack } := by
      refine e3.trans ?_
      rw [hf₂, State.calling_eq h.top, State.setFrames_setFrames, State.setTop_of_frames _ hr', hr]
      rfl
    have hsame : U.sameButNew ({ U with heap := s₂.heap, slotsUsed := s₂.slotsUsed } : State) L mc ms := by
      refine ⟨?_, q2, q3, q4, q5, q6⟩
      obtain ⟨t, ht, -⟩ := State.frames_cons hr
      show ({ U with heap := s₂.heap, slotsUsed := s₂.slotsUsed } : State) = { U.setFrames U.frames with heap := s₂.heap, slotsUsed := s₂.slotsUsed }
      rw [State.setFrames_self ht]
    subst hg
    refine Or.inl ⟨v, ⟨(({ U with heap := s₂.heap, slotsUsed := s₂.slotsUsed } : State).setVm s₂.vm), Ls ++ L, c0 + mc, s0 + ms⟩,
      ⟨X.admits, X.cas, X.clock, X.frames, X.room, X.hears, X.method, X.code, (X.here.setHeapUsed s₂.heap s₂.slotsUsed).setVm hW'.alike, X.tail, State.WarmedH.trans X.warmed hW', X.limits, X.bytes, X.same.trans (hsame.setVm s.vm)⟩,
      ⟨g, mk, s₂, L, rfl, rfl, hqc, rfl, hL, rfl, rfl⟩, ?_⟩
    show Steps p.tables e below _ ((({ U with heap := s₂.heap, slotsUsed := s₂.slotsUsed } : State).setVm s₂.vm).setTop { g with pc := g.pc + len₂, stack := v.toList ++ g.stack })
    rw [← hs₂]
    exact hsteps
  · obtain ⟨e2, q2, q3, q4, q5, q6⟩ := id hsm
    have e3 : s₂ = ({ (U.calling g mk a).setFrames s₂.frames with heap := s₂.heap, slotsUsed := s₂.slotsUsed } : State).setVm s₂.vm := by
      have : s₂ = ({ s₂ with vm := (U.calling g mk a).vm } : State).setVm s₂.vm := rfl
      rw [e2] at this
      exact this
    have hf₂ : s₂.frames = .throwing q :: .java g :: U.frames.tail := hend
    have hW' : U.WarmedH s₂.vm := hW₂
    have hs₂ : s₂ = ((({ U with heap := s₂.heap, slotsUsed := s₂.slotsUsed } : State).setVm s₂.vm).setTop g).pushFrame (.throwing q) := by
      refine e3.trans ?_
      rw [hf₂, State.calling_eq h.top, State.setFrames_setFrames, State.pushFrame, State.frames_setTop _ hr', State.setTop_of_frames _ hr', State.setFrames_setFrames, hr]
      rfl
    have hsame : U.sameButNew ({ U with heap := s₂.heap, slotsUsed := s₂.slotsUsed } : State) L mc ms := by
      refine ⟨?_, q2, q3, q4, q5, q6⟩
      obtain ⟨t, ht, -⟩ := State.frames_cons hr
      show ({ U with heap := s₂.heap, slotsUsed := s₂.slotsUsed } : State) = { U.setFrames U.frames with heap := s₂.heap, slotsUsed := s₂.slotsUsed }
      rw [State.setFrames_self ht]
    subst hg
    refine Or.inr ⟨q, ⟨(({ U with heap := s₂.heap, slotsUsed := s₂.slotsUsed } : State).setVm s₂.vm), Ls ++ L, c0 + mc, s0 + ms⟩,
      ⟨X.admits, X.cas, X.clock, X.frames, X.room, X.hears, X.method, X.code, (X.here.setHeapUsed s₂.heap s₂.slotsUsed).setVm hW'.alike, X.tail, State.WarmedH.trans X.warmed hW', X.limits, X.bytes, X.same.trans (hsame.setVm s.vm)⟩,
      ⟨g, mk, s₂, L, E, ce, rfl, rfl, hx, hce, hcv, hcl, rfl, hL, rfl, rfl⟩, ?_⟩
    show Steps p.tables e below _ (((({ U with heap := s₂.heap, slotsUsed := s₂.slotsUsed } : State).setVm s₂.vm).setTop g).pushFrame (.throwing q))
    rw [← hs₂]
    exact hsteps
end
variable {p : Program} {l : Launch} {e : Env} {R : Room} {s : State} {m : MethodId} {args : Array Value} {below : List Frame} {meth : Method} {c : Code} {T : State} {H : Heap} {locs : List Loc} {cells slots : Nat}
theorem vx_callVX (X : Stand p l e R s m args below meth c T locs cells slots) (hexec : p.tables.exec = Jvm.exec) {own C : String} {index : Nat} {y : MethodName} {bytes : ByteArray} {maxL : Nat} {ret : Option FieldType} {hh : List (Nat × Nat × Nat × Nat)}
    (hown : s.vm.findClass own = some m.cls) (hlink : (Cond.methodLink own index y).before args s = true) (hinst : (Cond.instanceMethod y).before args s = true) (hsel : (Cond.selects C y y).before args s = true)
    (hcode : (Cond.codeWith y bytes maxL ret hh).before args s = true) (hy : y.cls ≠ "java/lang/invoke/MethodHandle" ∧ y.cls ≠ "java/lang/invoke/VarHandle")
    {W9 : Nat} {Pre : Pt → Array Value → Prop} {Post : Pt → Array Value → Option Value → Pt → Prop} {PostX : Pt → Array Value → Addr → Pt → Prop} (hK : vx_Back l R p e below s args y 3 W9 Pre Post PostX)
    {b : Addr} {cellB : Cell} (hcell : T.heap[b]? = some cellB) (hobj : cellB.vm.isStatics = false) (hcls : s.vm.findClass C = some cellB.cls)
    {g : JFrame} (hg : g.method = m) (hsize : g.locals.size = c.maxLocals) {argsL rest : List Value} (hlen : ∀ sig, parseMethodDescriptor y.desc = some sig → argsL.length = sig.parameters.length)
    (hstack : g.stack = argsL.reverse ++ .ref b :: rest) (hW : 2 * g.monitorRoom + (rest.map fun v => v.category).sum ≤ W9) (hdg : decode c.code g.pc = .ok (.invokevirtual index, 3))
    (hpre : ∀ vm₁, s.WarmedH vm₁ → Pre ⟨T.setVm vm₁, locs, cells, slots⟩ (Value.ref b :: argsL).toArray) :
    (∃ (v : Option Value) (vm₁ : Vm) (B : Pt), s.WarmedH vm₁ ∧ Stand p l e R s m args below meth c B.U B.locs B.cells B.slots ∧ Post ⟨T.setVm vm₁, locs, cells, slots⟩ (Value.ref b :: argsL).toArray v B ∧
      ∀ target, Steps p.tables e below (B.U.setTop { g with pc := g.pc + 3, stack := v.toList ++ rest }) target → Steps p.tables e below (T.setTop g) target) ∨
    (∃ (q : Addr) (vm₁ : Vm) (B : Pt), s.WarmedH vm₁ ∧ Stand p l e R s m args below meth c B.U B.locs B.cells B.slots ∧ PostX ⟨T.setVm vm₁, locs, cells, slots⟩ (Value.ref b :: argsL).toArray q B ∧
      Steps p.tables e below (T.setTop g) ((B.U.setTop { g with stack := rest }).pushFrame (.throwing q))) := by
  obtain ⟨mk, methM, hnamed, hmethM, hstM, habM⟩ := Cond.instanceMethod_spec hinst
  obtain ⟨m8, methM', cM, hn8, hmethM', -, -, -, -, -, -, hsigM⟩ := Cond.codeWith_spec hcode
  cases Option.some.inj (hn8.symm.trans hnamed)
  cases hmethM.symm.trans hmethM'
  obtain ⟨c2, r2, m2, q1, q2, q3, q4, kP, hkP, hkPi⟩ := Cond.selects_spec hsel
  cases hcls.symm.trans q1
  cases (State.methodFound?_of_named hnamed hy).symm.trans q2
  cases hnamed.symm.trans q3
  have hselP : selectMethod e.platform s.vm cellB.cls mk = .method mk := by rw [Launch.admits_selectMethod X.admits]; exact q4
  obtain ⟨vm₁, X₁, hstep₁⟩ := X.invokevirtual hexec hown hlink hnamed hmethM hstM hkP hkPi hy (a := b) (cell := cellB) hcell
    (fun z h => by rw [h] at hobj; cases hobj) hselP hmethM habM hkP hkPi (g := g) hg (argsL := argsL) (rest := rest) (hlen _ hsigM) hstack hdg
  rcases hK m meth c ⟨T.setVm vm₁, locs, cells, slots⟩ { g with stack := rest } (.invokevirtual index) mk (Value.ref b :: argsL).toArray X₁ hg hsize hdg hW (X₁.named hnamed) (hpre vm₁ X₁.warmed) with ⟨v, B, X', hpost, hsteps⟩ | ⟨q, B, X', hpost, hsteps⟩
  · exact Or.inl ⟨v, vm₁, B, X₁.warmed, X', hpost, fun target h => hstep₁ _ fun acts => by rw [doInvoke_state]; exact hsteps.trans h⟩
  · exact Or.inr ⟨q, vm₁, B, X₁.warmed, X', hpost, hstep₁ _ fun acts => by rw [doInvoke_state]; exact hsteps⟩
theorem vx_callSX (X : Stand p l e R s m args below meth c T locs cells slots) (hexec : p.tables.exec = Jvm.exec) {own : String} {index : Nat} {y : MethodName} {bytes : ByteArray} {maxL : Nat} {ret : Option FieldType} {hh : List (Nat × Nat × Nat × Nat)}
    (hown : s.vm.findClass own = some m.cls) (hlink : (Cond.methodLink own index y).before args s = true) (hstat : (Cond.static y).before args s = true) (hinit : (Cond.initialized y.cls).before args s = true)
    (hcode : (Cond.codeWith y bytes maxL ret hh).before args s = true) (hy : y.cls ≠ "java/lang/invoke/MethodHandle" ∧ y.cls ≠ "java/lang/invoke/VarHandle")
    {W9 : Nat} {Pre : Pt → Array Value → Prop} {Post : Pt → Array Value → Option Value → Pt → Prop} {PostX : Pt → Array Value → Addr → Pt → Prop} (hK : vx_Back l R p e below s args y 3 W9 Pre Post PostX)
    {g : JFrame} (hg : g.method = m) (hsize : g.locals.size = c.maxLocals) {argsL rest : List Value} (hlen : ∀ sig, parseMethodDescriptor y.desc = some sig → argsL.length = sig.parameters.length)
    (hstack : g.stack = argsL.reverse ++ rest) (hW : 2 * g.monitorRoom + (rest.map fun v => v.category).sum ≤ W9) (hdg : decode c.code g.pc = .ok (.invokestatic index, 3))
    (hpre : ∀ vm₁, s.WarmedH vm₁ → Pre ⟨T.setVm vm₁, locs, cells, slots⟩ argsL.toArray) :
    (∃ (v : Option Value) (vm₁ : Vm) (B : Pt), s.WarmedH vm₁ ∧ Stand p l e R s m args below meth c B.U B.locs B.cells B.slots ∧ Post ⟨T.setVm vm₁, locs, cells, slots⟩ argsL.toArray v B ∧
      ∀ target, Steps p.tables e below (B.U.setTop { g with pc := g.pc + 3, stack := v.toList ++ rest }) target → Steps p.tables e below (T.setTop g) target) ∨
    (∃ (q : Addr) (vm₁ : Vm) (B : Pt), s.WarmedH vm₁ ∧ Stand p l e R s m args below meth c B.U B.locs B.cells B.slots ∧ PostX ⟨T.setVm vm₁, locs, cells, slots⟩ argsL.toArray q B ∧
      Steps p.tables e below (T.setTop g) ((B.U.setTop { g with stack := rest }).pushFrame (.throwing q))) := by
  obtain ⟨mk, methM, cM, hnamed, hmethM, -, -, -, -, -, -, hsigM⟩ := Cond.codeWith_spec hcode
  have hstatic : methM.isStatic = true := Cond.static_spec hnamed hmethM hstat
  obtain ⟨kP, hkP, -⟩ := className_of_methodNamed hnamed
  have hinitP : kP.init = .initialized := Cond.initialized_spec (findClass_of_methodNamed hnamed) hkP hinit
  obtain ⟨vm₁, X₁, hstep₁⟩ := X.invokestatic hexec hown hlink hnamed hmethM hstatic hkP hinitP hy (g := g) hg (argsL := argsL) (rest := rest) (hlen _ hsigM) hstack hdg
  rcases hK m meth c ⟨T.setVm vm₁, locs, cells, slots⟩ { g with stack := rest } (.invokestatic index) mk argsL.toArray X₁ hg hsize hdg hW (X₁.named hnamed) (hpre vm₁ X₁.warmed) with ⟨v, B, X', hpost, hsteps⟩ | ⟨q, B, X', hpost, hsteps⟩
  · exact Or.inl ⟨v, vm₁, B, X₁.warmed, X', hpost, fun target h => hstep₁ _ fun acts => by rw [doInvoke_state]; exact hsteps.trans h⟩
  · exact Or.inr ⟨q, vm₁, B, X₁.warmed, X', hpost, hstep₁ _ fun acts => by rw [doInvoke_state]; exact hsteps⟩
theorem vx_callVW (X : Stand p l e R s m args below meth c T locs cells slots) (hexec : p.tables.exec = Jvm.exec) {own C : String} {index : Nat} {y : MethodName} {bytes : ByteArray} {maxL : Nat} {ret : Option FieldType} {hh : List (Nat × Nat × Nat × Nat)}
    (hown : s.vm.findClass own = some m.cls) (hlink : (Cond.methodLink own index y).before args s = true) (hinst : (Cond.instanceMethod y).before args s = true) (hsel : (Cond.selects C y y).before args s = true)
    (hcode : (Cond.codeWith y bytes maxL ret hh).before args s = true) (hy : y.cls ≠ "java/lang/invoke/MethodHandle" ∧ y.cls ≠ "java/lang/invoke/VarHandle")
    {W9 : Nat} {Pre : Pt → Array Value → Prop} {Post : Pt → Array Value → Option Value → Pt → Prop} (hK : Back l R p e below s args y 3 W9 Pre Post)
    {b : Addr} {cellB : Cell} (hcell : T.heap[b]? = some cellB) (hobj : cellB.vm.isStatics = false) (hcls : s.vm.findClass C = some cellB.cls)
    {g : JFrame} (hg : g.method = m) (hsize : g.locals.size = c.maxLocals) {argsL rest : List Value} (hlen : ∀ sig, parseMethodDescriptor y.desc = some sig → argsL.length = sig.parameters.length)
    (hstack : g.stack = argsL.reverse ++ .ref b :: rest) (hW : 2 * g.monitorRoom + (rest.map fun v => v.category).sum ≤ W9) (hdg : decode c.code g.pc = .ok (.invokevirtual index, 3))
    (hpre : ∀ vm₁, s.WarmedH vm₁ → Pre ⟨T.setVm vm₁, locs, cells, slots⟩ (Value.ref b :: argsL).toArray) :
    ∃ (v : Option Value) (vm₁ : Vm) (B : Pt), s.WarmedH vm₁ ∧ Stand p l e R s m args below meth c B.U B.locs B.cells B.slots ∧ Post ⟨T.setVm vm₁, locs, cells, slots⟩ (Value.ref b :: argsL).toArray v B ∧
      ∀ target, Steps p.tables e below (B.U.setTop { g with pc := g.pc + 3, stack := v.toList ++ rest }) target → Steps p.tables e below (T.setTop g) target := by
  obtain ⟨mk, methM, hnamed, hmethM, hstM, habM⟩ := Cond.instanceMethod_spec hinst
  obtain ⟨m8, methM', cM, hn8, hmethM', -, -, -, -, -, -, hsigM⟩ := Cond.codeWith_spec hcode
  cases Option.some.inj (hn8.symm.trans hnamed)
  cases hmethM.symm.trans hmethM'
  obtain ⟨c2, r2, m2, q1, q2, q3, q4, kP, hkP, hkPi⟩ := Cond.selects_spec hsel
  cases hcls.symm.trans q1
  cases (State.methodFound?_of_named hnamed hy).symm.trans q2
  cases hnamed.symm.trans q3
  have hselP : selectMethod e.platform s.vm cellB.cls mk = .method mk := by rw [Launch.admits_selectMethod X.admits]; exact q4
  obtain ⟨vm₁, X₁, hstep₁⟩ := X.invokevirtual hexec hown hlink hnamed hmethM hstM hkP hkPi hy (a := b) (cell := cellB) hcell
    (fun z h => by rw [h] at hobj; cases hobj) hselP hmethM habM hkP hkPi (g := g) hg (argsL := argsL) (rest := rest) (hlen _ hsigM) hstack hdg
  obtain ⟨v, B, X', hpost, hsteps⟩ := hK m meth c ⟨T.setVm vm₁, locs, cells, slots⟩ { g with stack := rest } (.invokevirtual index) mk (Value.ref b :: argsL).toArray X₁ hg hsize hdg hW (X₁.named hnamed) (hpre vm₁ X₁.warmed)
  exact ⟨v, vm₁, B, X₁.warmed, X', hpost, fun target h => hstep₁ _ fun acts => by rw [doInvoke_state]; exact hsteps.trans h⟩
abbrev vx_CVW (R : Room) (s : State) (args : Array Value) (own C : String) (index : Nat) (y : MethodName) (bytes : ByteArray) (maxL : Nat) (ret : Option FieldType) (hh : List (Nat × Nat × Nat × Nat)) (ws : List Cond) (rm : Room) (mc ms n : Nat) : Prop :=
  (rm.cells = mc ∧ rm.slots = ms ∧ rm.frames + 1 ≤ R.frames ∧ 8 + (maxL + 11) + rm.locals ≤ R.locals ∧ (∀ w ∈ ws, ∀ (a' : Array Value) (U : State), s.WarmedH U.vm → w.before a' U = true) ∧ Cond.codeWith y bytes maxL ret hh ∈ ws) ∧
  (Cond.codeWith y bytes maxL ret hh).before args s = true ∧ (Cond.initialized y.cls).before args s = true ∧ (y.cls ≠ "java/lang/invoke/MethodHandle" ∧ y.cls ≠ "java/lang/invoke/VarHandle") ∧
  (∀ sig, parseMethodDescriptor y.desc = some sig → n = sig.parameters.length) ∧ (Cond.methodLink own index y).before args s = true ∧ (Cond.instanceMethod y).before args s = true ∧ (Cond.selects C y y).before args s = true
theorem vx_cwVW {own C : String} {index maxL mc ms : Nat} {y : MethodName} {bytes : ByteArray} {ret : Option FieldType} {hh : List (Nat × Nat × Nat × Nat)} {Ts ws ws' : List Cond} {rm : Room} (n : Nat) (ht : ∀ w ∈ Ts, w.before args s = true) (hT : GoodIn Ts (wsV own index C y ws)) (hw : ws = Cond.codeWith y bytes maxL ret hh :: ws') (hrc : rm.cells = mc) (hrs : rm.slots = ms)
    (hd : y.cls = C ∧ y.cls ≠ "java/lang/invoke/MethodHandle" ∧ y.cls ≠ "java/lang/invoke/VarHandle" ∧ (parseMethodDescriptor y.desc).map (fun d => d.parameters.length) = some n) (hR : rm.frames + 1 ≤ R.frames ∧ 8 + (maxL + 11) + rm.locals ≤ R.locals) :
    vx_CVW R s args own C index y bytes maxL ret hh ws rm mc ms n := by
  obtain ⟨hC, hd⟩ := hd
  subst hC
  have ok : ∀ w ∈ wsV own index y.cls y ws, w.before args s = true := fun w h => ht w (hT w h).1
  have hG : GoodIn Ts ws := fun w h => hT w (by unfold wsV; exact List.mem_append_right _ h)
  have hc : Cond.codeWith y bytes maxL ret hh ∈ ws := by rw [hw]; exact List.mem_cons_self
  refine ⟨⟨hrc, hrs, hR.1, hR.2, pay_in ht hG, hc⟩, ht _ (hG _ hc).1, ok _ (by simp [wsV]), ⟨hd.1, hd.2.1⟩, fun sig h => ?_, ok _ (by simp [wsV]), ok _ (by simp [wsV]), ok _ (by simp [wsV])⟩
  have h2 := hd.2.2
  rw [h] at h2
  exact (Option.some.inj h2).symm
theorem vx_runVW {y : MethodName} {bytes cc : ByteArray} {maxL nL mc ms n index : Nat} {ret : Option FieldType} {hh : List (Nat × Nat × Nat × Nat)} {ws : List Cond} {rm : Room} {Pc : Array Value → State → Prop} {Qc : Array Value → State → Outcome → State → Prop} {free : Addr → Prop} {Ts : List Cond} {own C : String} {b : Addr} {As rest : List Value} {g : JFrame}
    (S : CallFix p m c cc nL s args Ts own) (hM : Met l y ws rm Pc Qc mc ms free) (cw : vx_CVW R s args own C index y bytes maxL ret hh ws rm mc ms n) (hp : PreV s H C b Pc As)
    (hg : g.method = m) (hn : As.length = n) (hsize : g.locals.size = nL) (hstack : g.stack = As.reverse ++ .ref b :: rest) (hW : 2 * g.monitorRoom + (rest.map fun v => v.category).sum ≤ 8) (hdg : decode cc g.pc = .ok (.invokevirtual index, 3)) (hf : cells + mc ≤ R.cells ∧ slots + ms ≤ R.slots) :
    va_Run p l e R s m args below meth c H locs cells slots mc ms g rest (Qc (Value.ref b :: As).toArray) free := by
  obtain ⟨⟨hrc, hrs, hfr, hlo, hws, hcw⟩, hcode, hini, hy, hlen, hl, hin, hse⟩ := cw
  have hK : Back l R p e below s args y 3 8 (PreOf R mc ms Pc) (PostOf Qc mc ms free) := va_backW (hh := hh) (bytes := bytes) (maxL := maxL) (ret := ret) hM hp.1 hrc hrs hfr hlo hws hcw (fun a' U hW => word_at hW (Or.inl (by first | rfl | simp [Cond.onTables, Cond.keeps, Cond.steady])) hini)
  obtain ⟨hx, hb, hml, ho, -⟩ := S
  obtain ⟨-, ⟨cellB, hcB, hoB, hclB⟩, hPc⟩ := hp
  intro T hT X
  obtain ⟨v, vm₁, ⟨U', l2, c2, s2⟩, hW₁, X', ⟨g', mk, t, L, e1, e2, hq, h1, hL, h2, h3⟩, st⟩ := vx_callVW X hx (C := C) (hh := hh) (bytes := bytes) (maxL := maxL) (ret := ret) ho hl hin hse hcode hy hK (by rw [hT]; exact hcB) hoB hclB hg (hsize.trans hml.symm) (argsL := As) (rest := rest) (fun sig h => hn.trans (hlen sig h)) hstack hW (by rw [hb]; exact hdg)
    (fun vm₁ hW₁ => ⟨hf.1, hf.2, hPc (T.setVm vm₁) hT hW₁⟩)
  dsimp only [Pt.U, Pt.locs, Pt.cells, Pt.slots] at X' e1 e2 h1 h2 h3 st
  subst h1; subst h2; subst h3
  exact ⟨v, (T.setVm vm₁).calling g' mk (Value.ref b :: As).toArray, t, U', L, hT, X', hL, e1, e2, hq, st⟩
section
variable {y : MethodName} {bytes cc : ByteArray} {maxL nL mc ms n index : Nat} {ret : Option FieldType} {ws : List Cond} {rm : Room} {Pc : Array Value → State → Prop} {Qc : Array Value → State → Outcome → State → Prop} {XC : String → State → State → Prop} {free : Addr → Prop} {Ts : List Cond} {own C : String} {b : Addr} {As rest : List Value} {g : JFrame}
theorem vx_runVX {hh : List (Nat × Nat × Nat × Nat)} (S : CallFix p m c cc nL s args Ts own) (hM : vx_Met l y ws rm Pc Qc XC mc ms free) (cw : vx_CVW R s args own C index y bytes maxL ret hh ws rm mc ms n) (hp : PreV s H C b Pc As)
    (hg : g.method = m) (hn : As.length = n) (hsize : g.locals.size = nL) (hstack : g.stack = As.reverse ++ .ref b :: rest) (hW : 2 * g.monitorRoom + (rest.map fun v => v.category).sum ≤ 8) (hdg : decode cc g.pc = .ok (.invokevirtual index, 3)) (hf : cells + mc ≤ R.cells ∧ slots + ms ≤ R.slots) :
    vx_Run p l e R s m args below meth c H locs cells slots mc ms g rest (Qc (Value.ref b :: As).toArray) XC free := by
  obtain ⟨⟨hrc, hrs, hfr, hlo, hws, hcw⟩, hcode, hini, hy, hlen, hl, hin, hse⟩ := cw
  have hK : vx_Back l R p e below s args y 3 8 (PreOf R mc ms Pc) (PostOf Qc mc ms free) (vx_Post XC mc ms free) := vx_backW (hh := hh) (bytes := bytes) (maxL := maxL) (ret := ret) hM hp.1 hrc hrs hfr hlo hws hcw (fun a' U hW => word_at hW (Or.inl (by first | rfl | simp [Cond.onTables, Cond.keeps, Cond.steady])) hini)
  obtain ⟨hx, hb, hml, ho, -⟩ := S
  obtain ⟨-, ⟨cellB, hcB, hoB, hclB⟩, hPc⟩ := hp
  intro T hT X
  rcases vx_callVX X hx (C := C) (hh := hh) (bytes := bytes) (maxL := maxL) (ret := ret) ho hl hin hse hcode hy hK (by rw [hT]; exact hcB) hoB hclB hg (hsize.trans hml.symm) (argsL := As) (rest := rest) (fun sig h => hn.trans (hlen sig h)) hstack hW (by rw [hb]; exact hdg)
    (fun vm₁ hW₁ => ⟨hf.1, hf.2, hPc (T.setVm vm₁) hT hW₁⟩) with ⟨v, vm₁, ⟨U', l2, c2, s2⟩, hW₁, X', ⟨g', mk, t, L, e1, e2, hq, h1, hL, h2, h3⟩, st⟩ | ⟨q, vm₁, ⟨U', l2, c2, s2⟩, hW₁, X', ⟨g', mk, t, L, E, ce, e1, e2, hq, hce, hcv, hcl, h1, hL, h2, h3⟩, st⟩
  · dsimp only [Pt.U, Pt.locs, Pt.cells, Pt.slots] at X' e1 e2 h1 h2 h3 st
    subst h1; subst h2; subst h3
    exact Or.inl ⟨v, (T.setVm vm₁).calling g' mk (Value.ref b :: As).toArray, t, U', L, hT, X', hL, e1, e2, hq, st⟩
  · dsimp only [Pt.U, Pt.locs, Pt.cells, Pt.slots] at X' e1 e2 h1 h2 h3 st hcl
    subst h1; subst h2; subst h3
    exact Or.inr ⟨q, (T.setVm vm₁).calling g' mk (Value.ref b :: As).toArray, t, U', L, E, ce, hT, X', hL, e1, e2, hq, hce, hcv, vx_cls hW₁ hcl, st⟩
theorem vx_runSX {hh : List (Nat × Nat × Nat × Nat)} (S : CallFix p m c cc nL s args Ts own) (hM : vx_Met l y ws rm Pc Qc XC mc ms free) (cw : vx_CSW R s args own index y bytes maxL ret hh ws rm mc ms n) (hp : PreS s H Pc As)
    (hg : g.method = m) (hn : As.length = n) (hsize : g.locals.size = nL) (hstack : g.stack = As.reverse ++ rest) (hW : 2 * g.monitorRoom + (rest.map fun v => v.category).sum ≤ 8) (hdg : decode cc g.pc = .ok (.invokestatic index, 3)) (hf : cells + mc ≤ R.cells ∧ slots + ms ≤ R.slots) :
    vx_Run p l e R s m args below meth c H locs cells slots mc ms g rest (Qc As.toArray) XC free := by
  obtain ⟨⟨hrc, hrs, hfr, hlo, hws, hcw⟩, hcode, hini, hy, hlen, hl, hstt⟩ := cw
  have hK : vx_Back l R p e below s args y 3 8 (PreOf R mc ms Pc) (PostOf Qc mc ms free) (vx_Post XC mc ms free) := vx_backW (hh := hh) (bytes := bytes) (maxL := maxL) (ret := ret) hM hp.1 hrc hrs hfr hlo hws hcw (fun a' U hW => word_at hW (Or.inl (by first | rfl | simp [Cond.onTables, Cond.keeps, Cond.steady])) hini)
  obtain ⟨hx, hb, hml, ho, -⟩ := S
  intro T hT X
  rcases vx_callSX X hx (hh := hh) (bytes := bytes) (maxL := maxL) (ret := ret) ho hl hstt hini hcode hy hK hg (hsize.trans hml.symm) (argsL := As) (rest := rest) (fun sig h => hn.trans (hlen sig h)) hstack hW (by rw [hb]; exact hdg)
    (fun vm₁ hW₁ => ⟨hf.1, hf.2, hp.2 (T.setVm vm₁) hT hW₁⟩) with ⟨v, vm₁, ⟨U', l2, c2, s2⟩, hW₁, X', ⟨g', mk, t, L, e1, e2, hq, h1, hL, h2, h3⟩, st⟩ | ⟨q, vm₁, ⟨U', l2, c2, s2⟩, hW₁, X', ⟨g', mk, t, L, E, ce, e1, e2, hq, hce, hcv, hcl, h1, hL, h2, h3⟩, st⟩
  · dsimp only [Pt.U, Pt.locs, Pt.cells, Pt.slots] at X' e1 e2 h1 h2 h3 st
    subst h1; subst h2; subst h3
    exact Or.inl ⟨v, (T.setVm vm₁).calling g' mk As.toArray, t, U', L, hT, X', hL, e1, e2, hq, st⟩
  · dsimp only [Pt.U, Pt.locs, Pt.cells, Pt.slots] at X' e1 e2 h1 h2 h3 st hcl
    subst h1; subst h2; subst h3
    exact Or.inr ⟨q, (T.setVm vm₁).calling g' mk As.toArray, t, U', L, E, ce, hT, X', hL, e1, e2, hq, hce, hcv, vx_cls hW₁ hcl, st⟩
end
end VXH
theorem vx_ofWH {l : Launch} {y : MethodName} {ws ws' : List Cond} {rm : Room} {Pc : Array Value → State → Prop} {Qc : Array Value → State → Outcome → State → Prop} {XC : String → State → State → Prop} {mc ms : Nat} {free : Addr → Prop} {cc : ByteArray} {maxL : Nat} {ret : Option FieldType} {hh : List (Nat × Nat × Nat × Nat)}
    (hy : plainName y.cls = true) (hw : ws = Cond.codeWith y cc maxL ret hh :: ws')
    (body : ∀ p e s m args below meth c s₁, BodyLoose p l y (headSpec ws rm) cc maxL ret e s m args below meth c s₁ → c.maxLocals = maxL → Pc args s →
      W p l e (headSpec ws rm).room s m args below meth c s.heap [] 0 0 (vx_MQ below Qc XC args s mc ms free) (entryFrame m args maxL)) : vx_Met l y ws rm Pc Qc XC mc ms free := by
  refine MetFree.of_bodyS (code := cc) (maxLocals := maxL) (ret := ret) hy ?_ ?_
  · intro args s m h hn
    obtain ⟨m9, meth, c, hn9, h1, h2, h3, h4, -, h5, h6, -⟩ := Cond.codeWith_spec (atoms_spec (ws := ws) h _ (by rw [hw]; exact List.mem_cons_self))
    cases hn.symm.trans hn9
    exact ⟨meth, c, h1, h2, h3, h4, h5, h6⟩
  · intro p e s m args below meth c s₁ B hml hP _
    have hh0 : s₁.heap = s.heap := by rw [B.state]; rfl
    obtain ⟨t, a1, o, b1, b2, b3⟩ := body p e s m args below meth c s₁ B hml hP s₁ hh0 (Stand.of_body B)
    exact ⟨t, o, a1, b1, b2, b3⟩
/-! ===== END ===== -/
end
section
/-! The pure machine: memory by cell and place, resolved code, one instruction's meaning by continuation. -/
abbrev PM : Type := (Nat → Nat → Int32) × (Nat → Nat → Int64)
def up2 {α : Type} (f : Nat → Nat → α) (k j : Nat) (v : α) : Nat → Nat → α := fun a b => if a = k then (if b = j then v else f a b) else f a b
def mI (M : PM) (k j : Nat) (v : Int32) : PM := (up2 M.1 k j v, M.2)
def mJ (M : PM) (k j : Nat) (v : Int64) : PM := (M.1, up2 M.2 k j v)
/-- a cell's shape: an object (number, fields: a fixed cell or a typed place) or an array (number of its type, length, type, fixed cells) -/
abbrev PSh : Type := (Nat × List (Nat ⊕ FieldType)) ⊕ (Nat × Nat × FieldType × List Nat)
def rv (ρ : Nat → Nat) (v : Value) : Value := match v with
  | .ref k => .ref (ρ k)
  | v => v
def p_fv (ρ : Nat → Nat) (M : PM) (k j : Nat) (f : Nat ⊕ FieldType) : Value := match f with
  | .inl x => .ref (ρ x)
  | .inr .long => .long (M.2 k j)
  | .inr _ => .int (M.1 k j)
def p_cell (ρ : Nat → Nat) (cA : Nat → ClassId) (M : PM) (k : Nat) (sh : PSh) : va_E := match sh with
  | .inl (c, fs) => .inr (c, fs.mapIdx (p_fv ρ M k))
  | .inr (t, n, ty, rs) => .inl (cA t, n, match ty with
    | .long => .inr (.inl (M.2 k))
    | .object _ => .inr (.inr (.inr (.inr (fun i => (rs[i]?).map ρ))))
    | _ => .inl (M.1 k))
def p_w (ρ : Nat → Nat) (cA : Nat → ClassId) (Sh : List PSh) (M : PM) : va_W := Sh.mapIdx (fun k sh => (ρ k, p_cell ρ cA M k sh))
/-- storing into the locals by place; a long that the place cuts is gone -/
def p_cut (a : Option Value) : Option Value := match a with
  | some (.long _) => none
  | some (.double _) => none
  | a => a
def st1 : List (Option Value) → Nat → Option Value → List (Option Value)
  | [], _, _ => []
  | _ :: t, 0, v => v :: t
  | a :: t, 1, v => p_cut a :: (match t with
    | [] => []
    | _ :: t' => v :: t')
  | a :: t, n + 2, v => a :: st1 t (n + 1) v
def st2 : List (Option Value) → Nat → Option Value → List (Option Value)
  | [], _, _ => []
  | _ :: t, 0, v => v :: (match t with
    | [] => []
    | _ :: t' => none :: t')
  | a :: t, 1, v => p_cut a :: (match t with
    | [] => []
    | _ :: t' => v :: (match t' with
      | [] => []
      | _ :: t'' => none :: t''))
  | a :: t, n + 2, v => a :: st2 t (n + 1) v
/-- the locals at a method's entry -/
def p_ent : List Value → List (Option Value)
  | [] => []
  | .long x :: r => some (.long x) :: none :: p_ent r
  | .double x :: r => some (.double x) :: none :: p_ent r
  | v :: r => some v :: p_ent r
def p_ent0 (n : Nat) (vs : List Value) : List (Option Value) := p_ent vs ++ List.replicate (n - (p_ent vs).length) none
/-- what a method asks of what it calls -/
abbrev PEnv : Type := Nat → List Value → PM → (Option (Option Value) → PM → Prop) → Prop
abbrev PI : Type := Instr × Nat × Nat × Nat × List Nat × Value
abbrev PCode : Type := Nat → Option PI
/-- both roads of a branch -/
def p_br (c : Prop) (a b : Prop) : Prop := (c → a) ∧ (¬ c → b)
def p_icmp (op : ClassFile.Cond) (x y : Int32) : Prop := match op with
  | .eq => x = y
  | .ne => ¬ x = y
  | .lt => x < y
  | .ge => y ≤ x
  | .gt => y < x
  | .le => x ≤ y
/-- a throw at pc: to the handler there, behind its store, or out -/
def p_th (hn : Nat → Option (Nat × Nat)) (pc : Nat) (L : List (Option Value)) (M : PM) (K : Nat → List (Option Value) → List Value → PM → Prop) (Q : Option (Option Value) → PM → Prop) : Prop := match hn pc with
  | some (p2, i) => K p2 (st1 L i none) [] M
  | none => Q none M
/-- a table of jumps -/
def p_sw (x : Int32) (k : Nat → Prop) (d : Nat) : Int → List Nat → Prop
  | _, [] => k d
  | v, t :: ts => p_br (x = Int32.ofInt v) (k t) (p_sw x k d (v + 1) ts)
/-- the number of the thrown thing's kind -/
abbrev p_xc : Nat := 0
def p_ld (L : List (Option Value)) (i : Nat) (k : Value → Prop) : Prop := match L[i]? with
  | some (some v) => k v
  | _ => False
def p_isI (v : Value) (k : Int32 → Prop) : Prop := match v with
  | .int x => k x
  | _ => False
def p_isJ (v : Value) (k : Int64 → Prop) : Prop := match v with
  | .long x => k x
  | _ => False
def p_isR (v : Value) (k : Nat → Prop) : Prop := match v with
  | .ref x => k x
  | _ => False
def p_pop (st : List Value) (k : Value → List Value → Prop) : Prop := match st with
  | v :: r => k v r
  | [] => False
def p_popI (st : List Value) (k : Int32 → List Value → Prop) : Prop := match st with
  | .int x :: r => k x r
  | _ => False
def p_popJ (st : List Value) (k : Int64 → List Value → Prop) : Prop := match st with
  | .long x :: r => k x r
  | _ => False
def p_popR (st : List Value) (k : Nat → List Value → Prop) : Prop := match st with
  | .ref x :: r => k x r
  | _ => False
def p_obj (Sh : List PSh) (c k : Nat) (f : List (Nat ⊕ FieldType) → Prop) : Prop := match Sh[k]? with
  | some (.inl (c', fs)) => if c' = c then f fs else False
  | _ => False
def p_arr (Sh : List PSh) (k : Nat) (f : Nat → Nat → FieldType → List Nat → Prop) : Prop := match Sh[k]? with
  | some (.inr (t, n, ty, rs)) => f t n ty rs
  | _ => False
/-- int or boolean -/
def p_small (ty : FieldType) : Prop := match ty with
  | .int => True
  | .boolean => True
  | _ => False
def p_ex (Sh : List PSh) (E : PEnv) (hn : Nat → Option (Nat × Nat)) (ret : Option FieldType) (pc : Nat) (ins : Instr) (nx : Nat) (a0 b0 : Nat) (ts0 : List Nat) (cv : Value) (L : List (Option Value)) (st : List Value) (M : PM) (K : Nat → List (Option Value) → List Value → PM → Prop) (Q : Option (Option Value) → PM → Prop) : Prop :=
  match ins with
  | .iconst _ => K nx L (cv :: st) M
  | .bipush _ => K nx L (cv :: st) M
  | .sipush _ => K nx L (cv :: st) M
  | .lconst _ => K nx L (cv :: st) M
  | .ldc _ => K nx L (cv :: st) M
  | .ldc2_w _ => K nx L (cv :: st) M
  | .iload_n _ => p_ld L a0 fun v => p_isI v fun x => K nx L (.int x :: st) M
  | .iload _ => p_ld L a0 fun v => p_isI v fun x => K nx L (.int x :: st) M
  | .lload_n _ => p_ld L a0 fun v => p_isJ v fun x => K nx L (.long x :: st) M
  | .lload _ => p_ld L a0 fun v => p_isJ v fun x => K nx L (.long x :: st) M
  | .aload_n _ => p_ld L a0 fun v => p_isR v fun x => K nx L (.ref x :: st) M
  | .aload _ => p_ld L a0 fun v => p_isR v fun x => K nx L (.ref x :: st) M
  | .istore_n _ => p_popI st fun x r => K nx (st1 L a0 (some (.int x))) r M
  | .istore _ => p_popI st fun x r => K nx (st1 L a0 (some (.int x))) r M
  | .lstore_n _ => p_popJ st fun x r => K nx (st2 L a0 (some (.long x))) r M
  | .lstore _ => p_popJ st fun x r => K nx (st2 L a0 (some (.long x))) r M
  | .astore_n _ => p_popR st fun x r => K nx (st1 L a0 (some (.ref x))) r M
  | .astore _ => p_popR st fun x r => K nx (st1 L a0 (some (.ref x))) r M
  | .iinc _ _ => p_ld L a0 fun v => p_isI v fun x => p_isI cv fun n => K nx (st1 L a0 (some (.int (x + n)))) st M
  | .iadd => p_popI st fun y r => p_popI r fun x r => K nx L (.int (x + y) :: r) M
  | .isub => p_popI st fun y r => p_popI r fun x r => K nx L (.int (x - y) :: r) M
  | .imul => p_popI st fun y r => p_popI r fun x r => K nx L (.int (x * y) :: r) M
  | .iand => p_popI st fun y r => p_popI r fun x r => K nx L (.int (x &&& y) :: r) M
  | .ishr => p_popI st fun y r => p_popI r fun x r => K nx L (.int (x >>> (y &&& 31)) :: r) M
  | .iushr => p_popI st fun y r => p_popI r fun x r => K nx L (.int ((x.toUInt32 >>> (y.toUInt32 &&& Int32.toUInt32 31)).toInt32) :: r) M
  | .idiv => p_popI st fun y r => p_popI r fun x r => ¬ y = 0 ∧ K nx L (.int (x / y) :: r) M
  | .irem => p_popI st fun y r => p_popI r fun x r => ¬ y = 0 ∧ K nx L (.int (x - x / y * y) :: r) M
  | .ladd => p_popJ st fun y r => p_popJ r fun x r => K nx L (.long (x + y) :: r) M
  | .lsub => p_popJ st fun y r => p_popJ r fun x r => K nx L (.long (x - y) :: r) M
  | .lmul => p_popJ st fun y r => p_popJ r fun x r => K nx L (.long (x * y) :: r) M
  | .land => p_popJ st fun y r => p_popJ r fun x r => K nx L (.long (x &&& y) :: r) M
  | .lor => p_popJ st fun y r => p_popJ r fun x r => K nx L (.long (x ||| y) :: r) M
  | .ldiv => p_popJ st fun y r => p_popJ r fun x r => ¬ y = 0 ∧ K nx L (.long (x / y) :: r) M
  | .lrem => p_popJ st fun y r => p_popJ r fun x r => ¬ y = 0 ∧ K nx L (.long (x - x / y * y) :: r) M
  | .lneg => p_popJ st fun x r => K nx L (.long (-x) :: r) M
  | .i2b => p_popI st fun x r => K nx L (.int x.toInt8.toInt32 :: r) M
  | .i2l => p_popI st fun x r => K nx L (.long x.toInt64 :: r) M
  | .l2i => p_popJ st fun x r => K nx L (.int x.toInt32 :: r) M
  | .lcmp => p_popJ st fun y r => p_popJ r fun x r => K nx L (.int (lg_cmp x y) :: r) M
  | .dup => p_pop st fun v r => if v.category = 1 then K nx L (v :: v :: r) M else False
  | .dup2 => p_pop st fun v r => p_pop r fun w r => if v.category = 1 then (if w.category = 1 then K nx L (v :: w :: v :: w :: r) M else False) else False
  | .ifCond c _ => p_popI st fun x r => p_br (p_icmp c x 0) (K a0 L r M) (K nx L r M)
  | .if_icmp c _ => p_popI st fun y r => p_popI r fun x r => p_br (p_icmp c x y) (K a0 L r M) (K nx L r M)
  | .goto _ => K a0 L st M
  | .tableswitch _ lo _ _ => p_popI st fun x r => p_sw x (fun t => K t L r M) a0 lo ts0
  | .getfield _ => p_popR st fun k r => p_obj Sh a0 k fun fs => match fs[b0]? with
    | some (.inl x) => K nx L (.ref x :: r) M
    | some (.inr .long) => K nx L (.long (M.2 k b0) :: r) M
    | some (.inr _) => K nx L (.int (M.1 k b0) :: r) M
    | none => False
  | .putfield _ => p_pop st fun v r => p_popR r fun k r => p_obj Sh a0 k fun fs => match fs[b0]? with
    | some (.inr .long) => p_isJ v fun x => K nx L r (mJ M k b0 x)
    | some (.inr .int) => p_isI v fun x => K nx L r (mI M k b0 x)
    | some (.inr .boolean) => p_isI v fun x => narrow .boolean (.int x) = .int x ∧ fits .boolean (.int x) = true ∧ K nx L r (mI M k b0 x)
    | _ => False
  | .iaload => p_popI st fun i r => p_popR r fun k r => p_arr Sh k fun _ n ty _ => ty = .int ∧ vp_in i n ∧ K nx L (.int (M.1 k i.toNatClampNeg) :: r) M
  | .baload => p_popI st fun i r => p_popR r fun k r => p_arr Sh k fun _ n ty _ => (ty = .byte ∨ ty = .boolean) ∧ vp_in i n ∧ K nx L (.int (M.1 k i.toNatClampNeg) :: r) M
  | .laload => p_popI st fun i r => p_popR r fun k r => p_arr Sh k fun _ n ty _ => ty = .long ∧ vp_in i n ∧ K nx L (.long (M.2 k i.toNatClampNeg) :: r) M
  | .aaload => p_popI st fun i r => p_popR r fun k r => p_arr Sh k fun _ n ty rs => (∃ C, ty = .object C) ∧ vp_in i n ∧ ∃ x, rs[i.toNatClampNeg]? = some x ∧ K nx L (.ref x :: r) M
  | .iastore => p_popI st fun x r => p_popI r fun i r => p_popR r fun k r => p_arr Sh k fun _ n ty _ => ty = .int ∧ vp_in i n ∧ K nx L r (mI M k i.toNatClampNeg x)
  | .bastore => p_popI st fun x r => p_popI r fun i r => p_popR r fun k r => p_arr Sh k fun _ n ty _ => (ty = .byte ∨ ty = .boolean) ∧ vp_in i n ∧ K nx L r (mI M k i.toNatClampNeg (vp_nar ty x))
  | .lastore => p_popJ st fun x r => p_popI r fun i r => p_popR r fun k r => p_arr Sh k fun _ n ty _ => ty = .long ∧ vp_in i n ∧ K nx L r (mJ M k i.toNatClampNeg x)
  | .arraylength => p_popR st fun k r => p_arr Sh k fun _ n _ _ => K nx L (.int (Int32.ofNat n) :: r) M
  | .invokevirtual _ => ((st.drop b0).map fun v => v.category).sum ≤ 8 ∧ ∃ Q0, E a0 (st.take b0).reverse M Q0 ∧ (∀ v M', Q0 (some v) M' → K nx L (v.toList ++ st.drop b0) M') ∧ ∀ M', Q0 none M' → p_th hn pc L M' K Q
  | .invokestatic _ => if b0 = 1000 then (p_popI st fun y r => p_popI r fun x r => (r.map fun v => v.category).sum ≤ 8 ∧ K nx L (.int (if x < y then y else x) :: r) M) else if b0 = 1001 then (p_popJ st fun x r => (r.map fun v => v.category).sum ≤ 8 ∧ K nx L (.long (if 0 < x then x else -x) :: r) M) else (((st.drop b0).map fun v => v.category).sum ≤ 8 ∧ ∃ Q0, E a0 (st.take b0).reverse M Q0 ∧ (∀ v M', Q0 (some v) M' → K nx L (v.toList ++ st.drop b0) M') ∧ ∀ M', Q0 none M' → p_th hn pc L M' K Q)
  | .ireturn => p_popI st fun x r => r = [] ∧ (∃ ty, ret = some ty ∧ p_small ty ∧ narrow ty (.int x) = .int x) ∧ Q (some (some (.int x))) M
  | .lreturn => p_popJ st fun x r => r = [] ∧ ret = some .long ∧ Q (some (some (.long x))) M
  | .areturn => p_popR st fun x r => r = [] ∧ (∃ C, ret = some (.object C)) ∧ Q (some (some (.ref x))) M
  | .return_ => st = [] ∧ ret = none ∧ Q (some none) M
  | .athrow => p_popR st fun k _ => p_obj Sh p_xc k fun _ => p_th hn pc L M K Q
  | _ => False
end
section
/-! The least meaning of a method's code: Ev. -/
theorem p_br_mono {c a b a' b' : Prop} (h1 : a → a') (h2 : b → b') (h : p_br c a b) : p_br c a' b' := ⟨fun hc => h1 (h.1 hc), fun hc => h2 (h.2 hc)⟩
theorem p_th_mono {hn : Nat → Option (Nat × Nat)} {pc : Nat} {L : List (Option Value)} {M : PM} {K K' : Nat → List (Option Value) → List Value → PM → Prop} {Q : Option (Option Value) → PM → Prop} (h : ∀ pc L st M, K pc L st M → K' pc L st M) (hk : p_th hn pc L M K Q) : p_th hn pc L M K' Q := by
  unfold p_th at hk ⊢
  split at hk
  · exact h _ _ _ _ hk
  · exact hk
theorem p_sw_mono {x : Int32} {k k' : Nat → Prop} {d : Nat} (h : ∀ t, k t → k' t) : ∀ (ts : List Nat) (v : Int), p_sw x k d v ts → p_sw x k' d v ts
  | [], _, hk => h _ hk
  | _ :: ts, v, hk => p_br_mono (h _) (p_sw_mono h ts (v + 1)) hk
theorem p_ld_mono {L : List (Option Value)} {i : Nat} {k k' : Value → Prop} (h : ∀ v, k v → k' v) (hk : p_ld L i k) : p_ld L i k' := by
  unfold p_ld at hk ⊢
  split at hk
  · exact h _ hk
  · exact hk
theorem p_isI_mono {v : Value} {k k' : Int32 → Prop} (h : ∀ v, k v → k' v) (hk : p_isI v k) : p_isI v k' := by
  cases v <;> first | exact h _ hk | exact hk
theorem p_isJ_mono {v : Value} {k k' : Int64 → Prop} (h : ∀ v, k v → k' v) (hk : p_isJ v k) : p_isJ v k' := by
  cases v <;> first | exact h _ hk | exact hk
theorem p_isR_mono {v : Value} {k k' : Nat → Prop} (h : ∀ v, k v → k' v) (hk : p_isR v k) : p_isR v k' := by
  cases v <;> first | exact h _ hk | exact hk
theorem p_pop_mono {st : List Value} {k k' : Value → List Value → Prop} (h : ∀ v r, k v r → k' v r) (hk : p_pop st k) : p_pop st k' := by
  cases st with
  | nil => exact hk
  | cons v r => exact h _ _ hk
theorem p_popI_mono {st : List Value} {k k' : Int32 → List Value → Prop} (h : ∀ v r, k v r → k' v r) (hk : p_popI st k) : p_popI st k' := by
  cases st with
  | nil => exact hk
  | cons v r => cases v <;> first | exact h _ _ hk | exact hk
theorem p_popJ_mono {st : List Value} {k k' : Int64 → List Value → Prop} (h : ∀ v r, k v r → k' v r) (hk : p_popJ st k) : p_popJ st k' := by
  cases st with
  | nil => exact hk
  | cons v r => cases v <;> first | exact h _ _ hk | exact hk
theorem p_popR_mono {st : List Value} {k k' : Nat → List Value → Prop} (h : ∀ v r, k v r → k' v r) (hk : p_popR st k) : p_popR st k' := by
  cases st with
  | nil => exact hk
  | cons v r => cases v <;> first | exact h _ _ hk | exact hk
theorem p_obj_mono {Sh : List PSh} {c k : Nat} {f f' : List (Nat ⊕ FieldType) → Prop} (h : ∀ v, f v → f' v) (hk : p_obj Sh c k f) : p_obj Sh c k f' := by
  unfold p_obj at hk ⊢
  split at hk
  · split at hk
    · rename_i h9; rw [if_pos h9]; exact h _ hk
    · exact hk.elim
  · exact hk
theorem p_arr_mono {Sh : List PSh} {k : Nat} {f f' : Nat → Nat → FieldType → List Nat → Prop} (h : ∀ a b c d, f a b c d → f' a b c d) (hk : p_arr Sh k f) : p_arr Sh k f' := by
  unfold p_arr at hk ⊢
  split at hk
  · exact h _ _ _ _ hk
  · exact hk
set_option maxHeartbeats 4000000 in
theorem p_ex_mono {Sh : List PSh} {E : PEnv} {hn : Nat → Option (Nat × Nat)} {ret : Option FieldType} {pc : Nat} {ins : Instr} {nx : Nat} {a0 b0 : Nat} {ts0 : List Nat} {cv : Value} {L : List (Option Value)} {st : List Value} {M : PM} {K K' : Nat → List (Option Value) → List Value → PM → Prop} {Q : Option (Option Value) → PM → Prop}
    (h : ∀ pc L st M, K pc L st M → K' pc L st M) (hk : p_ex Sh E hn ret pc ins nx a0 b0 ts0 cv L st M K Q) : p_ex Sh E hn ret pc ins nx a0 b0 ts0 cv L st M K' Q := by
  have hQ0 : ∀ {st : List Value}, (((st.drop b0).map fun v => v.category).sum ≤ 8 ∧ ∃ Q0, E a0 (st.take b0).reverse M Q0 ∧ (∀ v M', Q0 (some v) M' → K nx L (v.toList ++ st.drop b0) M') ∧ ∀ M', Q0 none M' → p_th hn pc L M' K Q) → (((st.drop b0).map fun v => v.category).sum ≤ 8 ∧ ∃ Q0, E a0 (st.take b0).reverse M Q0 ∧ (∀ v M', Q0 (some v) M' → K' nx L (v.toList ++ st.drop b0) M') ∧ ∀ M', Q0 none M' → p_th hn pc L M' K' Q) := by
    rintro st ⟨h0, Q0, h1, h2, h3⟩
    exact ⟨h0, Q0, h1, fun v M' hq => h _ _ _ _ (h2 v M' hq), fun M' hq => p_th_mono h (h3 M' hq)⟩
  cases ins
  case iconst => exact h _ _ _ _ hk
  case bipush => exact h _ _ _ _ hk
  case sipush => exact h _ _ _ _ hk
  case lconst => exact h _ _ _ _ hk
  case ldc => exact h _ _ _ _ hk
  case ldc2_w => exact h _ _ _ _ hk
  case iload_n => exact p_ld_mono (fun _ => p_isI_mono fun _ => h _ _ _ _) hk
  case iload => exact p_ld_mono (fun _ => p_isI_mono fun _ => h _ _ _ _) hk
  case lload_n => exact p_ld_mono (fun _ => p_isJ_mono fun _ => h _ _ _ _) hk
  case lload => exact p_ld_mono (fun _ => p_isJ_mono fun _ => h _ _ _ _) hk
  case aload_n => exact p_ld_mono (fun _ => p_isR_mono fun _ => h _ _ _ _) hk
  case aload => exact p_ld_mono (fun _ => p_isR_mono fun _ => h _ _ _ _) hk
  case istore_n => exact p_popI_mono (fun _ _ => h _ _ _ _) hk
  case istore => exact p_popI_mono (fun _ _ => h _ _ _ _) hk
  case lstore_n => exact p_popJ_mono (fun _ _ => h _ _ _ _) hk
  case lstore => exact p_popJ_mono (fun _ _ => h _ _ _ _) hk
  case astore_n => exact p_popR_mono (fun _ _ => h _ _ _ _) hk
  case astore => exact p_popR_mono (fun _ _ => h _ _ _ _) hk
  case iinc => exact p_ld_mono (fun _ => p_isI_mono fun _ => p_isI_mono fun _ => h _ _ _ _) hk
  case iadd => exact p_popI_mono (fun _ _ => p_popI_mono fun _ _ => h _ _ _ _) hk
  case isub => exact p_popI_mono (fun _ _ => p_popI_mono fun _ _ => h _ _ _ _) hk
  case imul => exact p_popI_mono (fun _ _ => p_popI_mono fun _ _ => h _ _ _ _) hk
  case iand => exact p_popI_mono (fun _ _ => p_popI_mono fun _ _ => h _ _ _ _) hk
  case ishr => exact p_popI_mono (fun _ _ => p_popI_mono fun _ _ => h _ _ _ _) hk
  case iushr => exact p_popI_mono (fun _ _ => p_popI_mono fun _ _ => h _ _ _ _) hk
  case idiv => exact p_popI_mono (fun _ _ => p_popI_mono fun _ _ h9 => ⟨h9.1, h _ _ _ _ h9.2⟩) hk
  case irem => exact p_popI_mono (fun _ _ => p_popI_mono fun _ _ h9 => ⟨h9.1, h _ _ _ _ h9.2⟩) hk
  case ladd => exact p_popJ_mono (fun _ _ => p_popJ_mono fun _ _ => h _ _ _ _) hk
  case lsub => exact p_popJ_mono (fun _ _ => p_popJ_mono fun _ _ => h _ _ _ _) hk
  case lmul => exact p_popJ_mono (fun _ _ => p_popJ_mono fun _ _ => h _ _ _ _) hk
  case land => exact p_popJ_mono (fun _ _ => p_popJ_mono fun _ _ => h _ _ _ _) hk
  case lor => exact p_popJ_mono (fun _ _ => p_popJ_mono fun _ _ => h _ _ _ _) hk
  case ldiv => exact p_popJ_mono (fun _ _ => p_popJ_mono fun _ _ h9 => ⟨h9.1, h _ _ _ _ h9.2⟩) hk
  case lrem => exact p_popJ_mono (fun _ _ => p_popJ_mono fun _ _ h9 => ⟨h9.1, h _ _ _ _ h9.2⟩) hk
  case lneg => exact p_popJ_mono (fun _ _ => h _ _ _ _) hk
  case i2b => exact p_popI_mono (fun _ _ => h _ _ _ _) hk
  case i2l => exact p_popI_mono (fun _ _ => h _ _ _ _) hk
  case l2i => exact p_popJ_mono (fun _ _ => h _ _ _ _) hk
  case lcmp => exact p_popJ_mono (fun _ _ => p_popJ_mono fun _ _ => h _ _ _ _) hk
  case dup =>
    refine p_pop_mono (fun v r h9 => ?_) hk
    split at h9
    · rename_i h8; rw [if_pos h8]; exact h _ _ _ _ h9
    · exact h9.elim
  case dup2 =>
    refine p_pop_mono (fun v r => p_pop_mono fun w r h9 => ?_) hk
    split at h9
    · rename_i h8
      rw [if_pos h8]
      split at h9
      · rename_i h7; rw [if_pos h7]; exact h _ _ _ _ h9
      · exact h9.elim
    · exact h9.elim
  case ifCond => exact p_popI_mono (fun _ _ => p_br_mono (h _ _ _ _) (h _ _ _ _)) hk
  case if_icmp => exact p_popI_mono (fun _ _ => p_popI_mono fun _ _ => p_br_mono (h _ _ _ _) (h _ _ _ _)) hk
  case goto => exact h _ _ _ _ hk
  case tableswitch => exact p_popI_mono (fun _ _ => p_sw_mono (fun _ => h _ _ _ _) _ _) hk
  case getfield =>
    refine p_popR_mono (fun _ _ => p_obj_mono fun fs h9 => ?_) hk
    split at h9
    · exact h _ _ _ _ h9
    · exact h _ _ _ _ h9
    · exact h _ _ _ _ h9
    · exact h9
  case putfield =>
    refine p_pop_mono (fun _ _ => p_popR_mono fun _ _ => p_obj_mono fun fs h9 => ?_) hk
    split at h9
    · exact p_isJ_mono (fun _ => h _ _ _ _) h9
    · exact p_isI_mono (fun _ => h _ _ _ _) h9
    · exact p_isI_mono (fun _ h8 => ⟨h8.1, h8.2.1, h _ _ _ _ h8.2.2⟩) h9
    · exact h9
  case iaload => exact p_popI_mono (fun _ _ => p_popR_mono fun _ _ => p_arr_mono fun _ _ _ _ h9 => ⟨h9.1, h9.2.1, h _ _ _ _ h9.2.2⟩) hk
  case baload => exact p_popI_mono (fun _ _ => p_popR_mono fun _ _ => p_arr_mono fun _ _ _ _ h9 => ⟨h9.1, h9.2.1, h _ _ _ _ h9.2.2⟩) hk
  case laload => exact p_popI_mono (fun _ _ => p_popR_mono fun _ _ => p_arr_mono fun _ _ _ _ h9 => ⟨h9.1, h9.2.1, h _ _ _ _ h9.2.2⟩) hk
  case aaload => exact p_popI_mono (fun _ _ => p_popR_mono fun _ _ => p_arr_mono fun _ _ _ _ ⟨h7, h8, x, hx, h9⟩ => ⟨h7, h8, x, hx, h _ _ _ _ h9⟩) hk
  case iastore => exact p_popI_mono (fun _ _ => p_popI_mono fun _ _ => p_popR_mono fun _ _ => p_arr_mono fun _ _ _ _ h9 => ⟨h9.1, h9.2.1, h _ _ _ _ h9.2.2⟩) hk
  case bastore => exact p_popI_mono (fun _ _ => p_popI_mono fun _ _ => p_popR_mono fun _ _ => p_arr_mono fun _ _ _ _ h9 => ⟨h9.1, h9.2.1, h _ _ _ _ h9.2.2⟩) hk
  case lastore => exact p_popJ_mono (fun _ _ => p_popI_mono fun _ _ => p_popR_mono fun _ _ => p_arr_mono fun _ _ _ _ h9 => ⟨h9.1, h9.2.1, h _ _ _ _ h9.2.2⟩) hk
  case arraylength => exact p_popR_mono (fun _ _ => p_arr_mono fun _ _ _ _ => h _ _ _ _) hk
  case invokevirtual => exact hQ0 hk
  case invokestatic =>
    unfold p_ex at hk ⊢
    dsimp only at hk ⊢
    split at hk
    · rename_i h0; rw [if_pos h0]; exact p_popI_mono (fun _ _ => p_popI_mono fun _ _ h9 => ⟨h9.1, h _ _ _ _ h9.2⟩) hk
    · rename_i h0
      rw [if_neg h0]
      split at hk
      · rename_i h1; rw [if_pos h1]; exact p_popJ_mono (fun _ _ h9 => ⟨h9.1, h _ _ _ _ h9.2⟩) hk
      · rename_i h1; rw [if_neg h1]; exact hQ0 hk
  case ireturn => exact hk
  case lreturn => exact hk
  case areturn => exact hk
  case return_ => exact hk
  case athrow => exact p_popR_mono (fun _ _ => p_obj_mono fun _ => p_th_mono h) hk
  all_goals exact hk
/-- what a body is: the world's shape, what it calls, its handlers, its answer's type, its code, what holds where the code ends -/
abbrev PBody : Type := List PSh × PEnv × (Nat → Option (Nat × Nat)) × Option FieldType × PCode × (Nat → List (Option Value) → List Value → PM → Prop)
def p_st (B : PBody) (Q : Option (Option Value) → PM → Prop) (pc : Nat) (L : List (Option Value)) (st : List Value) (M : PM) (K : Nat → List (Option Value) → List Value → PM → Prop) : Prop := match B.2.2.2.2.1 pc with
  | none => B.2.2.2.2.2 pc L st M
  | some (ins, nx, a0, b0, ts0, cv) => p_ex B.1 B.2.1 B.2.2.1 B.2.2.2.1 pc ins nx a0 b0 ts0 cv L st M K Q
def Ev (B : PBody) (Q : Option (Option Value) → PM → Prop) (pc : Nat) (L : List (Option Value)) (st : List Value) (M : PM) : Prop :=
  ∀ P : Nat → List (Option Value) → List Value → PM → Prop, (∀ pc L st M, p_st B Q pc L st M P → P pc L st M) → P pc L st M
theorem p_st_mono {B : PBody} {Q : Option (Option Value) → PM → Prop} {pc : Nat} {L : List (Option Value)} {st : List Value} {M : PM} {K K' : Nat → List (Option Value) → List Value → PM → Prop} (h : ∀ pc L st M, K pc L st M → K' pc L st M) (hk : p_st B Q pc L st M K) : p_st B Q pc L st M K' := by
  unfold p_st at hk ⊢
  split at hk
  · exact hk
  · exact p_ex_mono h hk
theorem Ev.step {B : PBody} {Q : Option (Option Value) → PM → Prop} {pc : Nat} {L : List (Option Value)} {st : List Value} {M : PM} (h : p_st B Q pc L st M (Ev B Q)) : Ev B Q pc L st M :=
  fun P hP => hP _ _ _ _ (p_st_mono (fun _ _ _ _ hk => hk P hP) h)
/-- n steps at once; places in 'cut' are left as they are -/
def p_vc (B : PBody) (Q : Option (Option Value) → PM → Prop) (cut : List Nat) : Nat → Nat → List (Option Value) → List Value → PM → Prop
  | 0, pc, L, st, M => Ev B Q pc L st M
  | n + 1, pc, L, st, M => if cut.contains pc then Ev B Q pc L st M else p_st B Q pc L st M (p_vc B Q cut n)
theorem p_vc_ev {B : PBody} {Q : Option (Option Value) → PM → Prop} {cut : List Nat} : ∀ (n : Nat) {pc : Nat} {L : List (Option Value)} {st : List Value} {M : PM}, p_vc B Q cut n pc L st M → Ev B Q pc L st M
  | 0, _, _, _, _, h => h
  | n + 1, pc, L, st, M, h => by
    unfold p_vc at h
    split at h
    · exact h
    · exact Ev.step (p_st_mono (fun _ _ _ _ => p_vc_ev n) h)
theorem Ev.go {B : PBody} {Q : Option (Option Value) → PM → Prop} (cut : List Nat) (n : Nat) {pc : Nat} {L : List (Option Value)} {st : List Value} {M : PM} (h : p_st B Q pc L st M (p_vc B Q cut n)) : Ev B Q pc L st M :=
  Ev.step (p_st_mono (fun _ _ _ _ => p_vc_ev n) h)
theorem ev_s {B : PBody} {Q : Option (Option Value) → PM → Prop} {pc : Nat} {L : List (Option Value)} {st : List Value} {M : PM} {ins : Instr} {nx a0 b0 : Nat} {ts0 : List Nat} {cv : Value} (hc : B.2.2.2.2.1 pc = some (ins, nx, a0, b0, ts0, cv)) (h : p_ex B.1 B.2.1 B.2.2.1 B.2.2.2.1 pc ins nx a0 b0 ts0 cv L st M (Ev B Q) Q) : Ev B Q pc L st M := by
  refine Ev.step ?_
  unfold p_st
  rw [hc]
  exact h
end
section
/-! The pure machine's world and locals beside the real ones. -/
theorem up2_ne {α : Type} {f : Nat → Nat → α} {k j : Nat} {v : α} {i : Nat} (h : i ≠ k) : up2 f k j v i = f i := by
  funext b; simp [up2, h]
theorem up2_eqI {f : Nat → Nat → Int32} {k j : Nat} {v : Int32} : up2 f k j v k = upd (f k) j v := by
  funext b; simp [up2, upd]
theorem up2_eqJ {f : Nat → Nat → Int64} {k j : Nat} {v : Int64} : up2 f k j v k = vp_updL (f k) j v := by
  funext b; simp [up2, vp_updL]
theorem p_w_get {ρ : Nat → Nat} {cA : Nat → ClassId} {Sh : List PSh} {M : PM} {k : Nat} {sh : PSh} (hk : Sh[k]? = some sh) : (p_w ρ cA Sh M)[k]? = some (ρ k, p_cell ρ cA M k sh) := by
  unfold p_w
  rw [List.getElem?_mapIdx, hk]; rfl
theorem p_w_inv {ρ : Nat → Nat} {cA : Nat → ClassId} {Sh : List PSh} {M : PM} {k : Nat} {q : Nat × va_E} (h : (p_w ρ cA Sh M)[k]? = some q) : ∃ sh, Sh[k]? = some sh ∧ q = (ρ k, p_cell ρ cA M k sh) := by
  unfold p_w at h
  rw [List.getElem?_mapIdx] at h
  cases hs : Sh[k]? with
  | none => rw [hs] at h; cases h
  | some sh => rw [hs] at h; exact ⟨sh, rfl, (Option.some.inj h).symm⟩
theorem p_cell_row {ρ : Nat → Nat} {cA : Nat → ClassId} {M M' : PM} {k : Nat} (h1 : M'.1 k = M.1 k) (h2 : M'.2 k = M.2 k) (sh : PSh) : p_cell ρ cA M' k sh = p_cell ρ cA M k sh := by
  have hf : p_fv ρ M' k = p_fv ρ M k := by
    funext j f
    unfold p_fv
    split
    · rfl
    · rw [h2]
    · rw [h1]
  unfold p_cell
  split
  · rw [hf]
  · rw [h1, h2]
theorem p_w_set {ρ : Nat → Nat} {cA : Nat → ClassId} {Sh : List PSh} {M M' : PM} {k : Nat} {sh : PSh} {e : va_E} (hk : Sh[k]? = some sh) (hr : ∀ i, i ≠ k → M'.1 i = M.1 i ∧ M'.2 i = M.2 i) (he : p_cell ρ cA M' k sh = e) : (p_w ρ cA Sh M).set k (ρ k, e) = p_w ρ cA Sh M' := by
  apply List.ext_getElem?
  intro i
  by_cases hi : i = k
  · subst hi
    rw [List.getElem?_set_self (by rw [p_w, List.length_mapIdx]; exact (List.getElem?_eq_some_iff.mp hk).1), p_w_get hk, he]
  · rw [List.getElem?_set_ne (Ne.symm hi)]
    unfold p_w
    rw [List.getElem?_mapIdx, List.getElem?_mapIdx]
    cases Sh[i]? with
    | none => rfl
    | some sh' => exact congrArg some (congrArg (Prod.mk (ρ i)) (p_cell_row (hr i hi).1 (hr i hi).2 sh').symm)
theorem p_fs_set {ρ : Nat → Nat} {M M' : PM} {k j : Nat} {fs : List (Nat ⊕ FieldType)} {f : Nat ⊕ FieldType} {v : Value} (hj : fs[j]? = some f) (hv : p_fv ρ M' k j f = v) (ho : ∀ b, b ≠ j → M'.1 k b = M.1 k b ∧ M'.2 k b = M.2 k b) : (fs.mapIdx (p_fv ρ M k)).set j v = fs.mapIdx (p_fv ρ M' k) := by
  apply List.ext_getElem?
  intro b
  by_cases hb : b = j
  · subst hb
    rw [List.getElem?_set_self (by rw [List.length_mapIdx]; exact (List.getElem?_eq_some_iff.mp hj).1), List.getElem?_mapIdx, hj]
    exact congrArg some hv.symm
  · rw [List.getElem?_set_ne (Ne.symm hb), List.getElem?_mapIdx, List.getElem?_mapIdx]
    cases fs[b]? with
    | none => rfl
    | some g =>
      refine congrArg some ?_
      unfold p_fv
      split
      · rfl
      · rw [(ho b hb).2]
      · rw [(ho b hb).1]
theorem p_w_putI {ρ : Nat → Nat} {cA : Nat → ClassId} {Sh : List PSh} {M : PM} {k j ci : Nat} {fs : List (Nat ⊕ FieldType)} {ty : FieldType} {x : Int32} (hk : Sh[k]? = some (.inl (ci, fs))) (hj : fs[j]? = some (.inr ty)) (ht : p_small ty) :
    (p_w ρ cA Sh M).set k (ρ k, .inr (ci, (fs.mapIdx (p_fv ρ M k)).set j (.int x))) = p_w ρ cA Sh (mI M k j x) := by
  refine p_w_set hk (fun i hi => ⟨up2_ne hi, rfl⟩) ?_
  show (Sum.inr (ci, fs.mapIdx (p_fv ρ (mI M k j x) k)) : va_E) = _
  rw [p_fs_set (ρ := ρ) (M := M) (M' := mI M k j x) (k := k) (v := .int x) hj (by cases ty <;> first | exact ht.elim | simp [p_fv, mI, up2]) (fun b hb => ⟨by simp [mI, up2, hb], rfl⟩)]
theorem p_w_putJ {ρ : Nat → Nat} {cA : Nat → ClassId} {Sh : List PSh} {M : PM} {k j ci : Nat} {fs : List (Nat ⊕ FieldType)} {x : Int64} (hk : Sh[k]? = some (.inl (ci, fs))) (hj : fs[j]? = some (.inr .long)) :
    (p_w ρ cA Sh M).set k (ρ k, .inr (ci, (fs.mapIdx (p_fv ρ M k)).set j (.long x))) = p_w ρ cA Sh (mJ M k j x) := by
  refine p_w_set hk (fun i hi => ⟨rfl, up2_ne hi⟩) ?_
  show (Sum.inr (ci, fs.mapIdx (p_fv ρ (mJ M k j x) k)) : va_E) = _
  rw [p_fs_set (ρ := ρ) (M := M) (M' := mJ M k j x) (k := k) (v := .long x) hj (by simp [p_fv, mJ, up2]) (fun b hb => ⟨rfl, by simp [mJ, up2, hb]⟩)]
theorem p_w_arrI {ρ : Nat → Nat} {cA : Nat → ClassId} {Sh : List PSh} {M : PM} {k j t n : Nat} {ty : FieldType} {rs : List Nat} {x : Int32} (hk : Sh[k]? = some (.inr (t, n, ty, rs))) (ht : ty = .int ∨ ty = .byte ∨ ty = .boolean) :
    (p_w ρ cA Sh M).set k (ρ k, .inl (cA t, n, .inl (upd (M.1 k) j x))) = p_w ρ cA Sh (mI M k j x) := by
  refine p_w_set hk (fun i hi => ⟨up2_ne hi, rfl⟩) ?_
  rcases ht with rfl | rfl | rfl <;> (show (Sum.inl (cA t, n, Sum.inl ((mI M k j x).1 k)) : va_E) = _; rw [show (mI M k j x).1 k = upd (M.1 k) j x from up2_eqI])
theorem p_w_arrJ {ρ : Nat → Nat} {cA : Nat → ClassId} {Sh : List PSh} {M : PM} {k j t n : Nat} {rs : List Nat} {x : Int64} (hk : Sh[k]? = some (.inr (t, n, .long, rs))) :
    (p_w ρ cA Sh M).set k (ρ k, .inl (cA t, n, .inr (.inl (vp_updL (M.2 k) j x)))) = p_w ρ cA Sh (mJ M k j x) := by
  refine p_w_set hk (fun i hi => ⟨rfl, up2_ne hi⟩) ?_
  show (Sum.inl (cA t, n, Sum.inr (Sum.inl ((mJ M k j x).2 k))) : va_E) = _
  rw [show (mJ M k j x).2 k = vp_updL (M.2 k) j x from up2_eqJ]
/-! locals -/
def lvl (ρ : Nat → Nat) (L : List (Option Value)) : List (Nat × Value) := (List.range L.length).filterMap (fun i => match L[i]? with
  | some (some v) => some (i, rv ρ v)
  | _ => none)
theorem lvl_mem {ρ : Nat → Nat} {L : List (Option Value)} {j : Nat} {w : Value} : (j, w) ∈ lvl ρ L ↔ ∃ v, L[j]? = some (some v) ∧ w = rv ρ v := by
  unfold lvl
  rw [List.mem_filterMap]
  constructor
  · rintro ⟨i, -, hi⟩
    split at hi
    · rename_i v hv
      cases hi
      exact ⟨v, hv, rfl⟩
    · cases hi
  · rintro ⟨v, hv, rfl⟩
    exact ⟨j, List.mem_range.mpr (List.getElem?_eq_some_iff.mp hv).1, by rw [hv]⟩
def p_Lr (ρ : Nat → Nat) (nL : Nat) (L : List (Option Value)) (ls : Array Slot) : Prop := L.length = nL ∧ lv_has ls nL (lvl ρ L)
theorem p_Lr.at {ρ : Nat → Nat} {nL : Nat} {L : List (Option Value)} {ls : Array Slot} (h : p_Lr ρ nL L ls) {i : Nat} {v : Value} (hi : L[i]? = some (some v)) : ls[i]? = some (.val (rv ρ v)) := h.2.2.2 (i, rv ρ v) (lvl_mem.mpr ⟨v, hi, rfl⟩)
theorem st1_len : ∀ (L : List (Option Value)) (i : Nat) (v : Option Value), (st1 L i v).length = L.length
  | [], _, _ => rfl
  | _ :: _, 0, _ => rfl
  | _ :: t, 1, _ => by cases t <;> rfl
  | _ :: t, n + 2, v => by simp [st1, st1_len t (n + 1) v]
theorem st1_get : ∀ (L : List (Option Value)) (i : Nat) (v : Option Value) (j : Nat), i < L.length → (st1 L i v)[j]? = if j = i then some v else if j + 1 = i then (L[j]?).map p_cut else L[j]?
  | [], _, _, _, h => absurd h (Nat.not_lt_zero _)
  | a :: t, 0, v, j, _ => by cases j <;> simp [st1]
  | a :: t, 1, v, j, h => by
    cases t with
    | nil => simp at h
    | cons b t' => rcases j with _ | _ | j <;> simp [st1]
  | a :: t, n + 2, v, j, h => by
    cases j with
    | zero => simp [st1]
    | succ j =>
      have := st1_get t (n + 1) v j (by simp only [List.length_cons] at h; omega)
      simp only [st1, List.getElem?_cons_succ, this]
      simp
theorem st2_len : ∀ (L : List (Option Value)) (i : Nat) (v : Option Value), (st2 L i v).length = L.length
  | [], _, _ => rfl
  | _ :: t, 0, _ => by cases t <;> rfl
  | _ :: t, 1, _ => by rcases t with _ | ⟨_, _ | ⟨_, _⟩⟩ <;> rfl
  | _ :: t, n + 2, v => by simp [st2, st2_len t (n + 1) v]
theorem st2_get : ∀ (L : List (Option Value)) (i : Nat) (v : Option Value) (j : Nat), i + 1 < L.length → (st2 L i v)[j]? = if j = i then some v else if j = i + 1 then some none else if j + 1 = i then (L[j]?).map p_cut else L[j]?
  | [], _, _, _, h => absurd h (Nat.not_lt_zero _)
  | a :: t, 0, v, j, h => by
    cases t with
    | nil => simp at h
    | cons b t' => rcases j with _ | _ | j <;> simp [st2]
  | a :: t, 1, v, j, h => by
    rcases t with _ | ⟨b, _ | ⟨b', t'⟩⟩
    · simp at h
    · simp at h
    · rcases j with _ | _ | _ | j <;> simp [st2]
  | a :: t, n + 2, v, j, h => by
    cases j with
    | zero => simp [st2]
    | succ j =>
      have := st2_get t (n + 1) v j (by simp only [List.length_cons] at h; omega)
      simp only [st2, List.getElem?_cons_succ, this]
      simp
theorem rv_cat (ρ : Nat → Nat) (v : Value) : (rv ρ v).category = v.category := by cases v <;> rfl
theorem p_cut_some {a : Option Value} {v : Value} (h : p_cut a = some v) : a = some v ∧ v.category = 1 := by
  cases a with
  | none => cases h
  | some w => cases w <;> first | (cases h; exact ⟨rfl, rfl⟩) | cases h
/-- the locals behind a store of one place: any value that the place may have got -/
theorem p_Lr.set1 {ρ : Nat → Nat} {nL : Nat} {L : List (Option Value)} {ls ls' : Array Slot} (h : p_Lr ρ nL L ls) {i : Nat} (hi : i < nL) {x : Value} {v : Option Value} (hx : ∀ w, v = some w → rv ρ w = x) (h' : lv_has ls' nL ((i, x) :: (lvl ρ L).filter (fun q => !(q.1 == i) && !(q.1 + 1 == i && q.2.category == 2)))) : p_Lr ρ nL (st1 L i v) ls' := by
  have hiL : i < L.length := by rw [h.1]; exact hi
  refine ⟨by rw [st1_len]; exact h.1, h'.1, h'.2.1, fun q hq => ?_⟩
  obtain ⟨j, w⟩ := q
  obtain ⟨u, hu, rfl⟩ := lvl_mem.mp hq
  rw [st1_get L i v j hiL] at hu
  by_cases hj : j = i
  · subst hj
    rw [if_pos rfl] at hu
    have := hx u (Option.some.inj hu)
    show ls'[j]? = some (.val (rv ρ u))
    rw [this]
    exact h'.2.2 (j, x) List.mem_cons_self
  · rw [if_neg hj] at hu
    refine h'.2.2 (j, rv ρ u) (List.mem_cons_of_mem _ (List.mem_filter.mpr ?_))
    by_cases hj1 : j + 1 = i
    · rw [if_pos hj1] at hu
      cases hLj : L[j]? with
      | none => rw [hLj] at hu; cases hu
      | some a =>
        rw [hLj] at hu
        obtain ⟨ha, hc⟩ := p_cut_some (Option.some.inj hu)
        subst ha
        exact ⟨lvl_mem.mpr ⟨u, hLj, rfl⟩, by simp [hj, rv_cat, hc]⟩
    · rw [if_neg hj1] at hu
      exact ⟨lvl_mem.mpr ⟨u, hu, rfl⟩, by simp [hj, hj1]⟩
theorem p_Lr.set2 {ρ : Nat → Nat} {nL : Nat} {L : List (Option Value)} {ls ls' : Array Slot} (h : p_Lr ρ nL L ls) {i : Nat} (hi : i + 1 < nL) {x : Value} {v : Option Value} (hx : ∀ w, v = some w → rv ρ w = x) (h' : lv_has ls' nL ((i, x) :: (lvl ρ L).filter (fun q => !(q.1 == i) && (!(q.1 == i + 1) && !(q.1 + 1 == i && q.2.category == 2))))) : p_Lr ρ nL (st2 L i v) ls' := by
  have hiL : i + 1 < L.length := by rw [h.1]; exact hi
  refine ⟨by rw [st2_len]; exact h.1, h'.1, h'.2.1, fun q hq => ?_⟩
  obtain ⟨j, w⟩ := q
  obtain ⟨u, hu, rfl⟩ := lvl_mem.mp hq
  rw [st2_get L i v j hiL] at hu
  by_cases hj : j = i
  · subst hj
    rw [if_pos rfl] at hu
    have := hx u (Option.some.inj hu)
    show ls'[j]? = some (.val (rv ρ u))
    rw [this]
    exact h'.2.2 (j, x) List.mem_cons_self
  · rw [if_neg hj] at hu
    by_cases hj2 : j = i + 1
    · rw [if_pos hj2] at hu; cases hu
    · rw [if_neg hj2] at hu
      refine h'.2.2 (j, rv ρ u) (List.mem_cons_of_mem _ (List.mem_filter.mpr ?_))
      by_cases hj1 : j + 1 = i
      · rw [if_pos hj1] at hu
        cases hLj : L[j]? with
        | none => rw [hLj] at hu; cases hu
        | some a =>
          rw [hLj] at hu
          obtain ⟨ha, hc⟩ := p_cut_some (Option.some.inj hu)
          subst ha
          exact ⟨lvl_mem.mpr ⟨u, hLj, rfl⟩, by simp [hj, hj2, rv_cat, hc]⟩
      · rw [if_neg hj1] at hu
        exact ⟨lvl_mem.mpr ⟨u, hu, rfl⟩, by simp [hj, hj1, hj2]⟩
/-! what the readers of the stack say -/
theorem p_ld_e {L : List (Option Value)} {i : Nat} {k : Value → Prop} (h : p_ld L i k) : ∃ v, L[i]? = some (some v) ∧ k v := by
  unfold p_ld at h
  split at h
  · rename_i v hv; exact ⟨v, hv, h⟩
  · exact h.elim
theorem p_isI_e {v : Value} {k : Int32 → Prop} (h : p_isI v k) : ∃ x, v = .int x ∧ k x := by cases v <;> first | exact ⟨_, rfl, h⟩ | exact h.elim
theorem p_isJ_e {v : Value} {k : Int64 → Prop} (h : p_isJ v k) : ∃ x, v = .long x ∧ k x := by cases v <;> first | exact ⟨_, rfl, h⟩ | exact h.elim
theorem p_isR_e {v : Value} {k : Nat → Prop} (h : p_isR v k) : ∃ x, v = .ref x ∧ k x := by cases v <;> first | exact ⟨_, rfl, h⟩ | exact h.elim
theorem p_pop_e {st : List Value} {k : Value → List Value → Prop} (h : p_pop st k) : ∃ v r, st = v :: r ∧ k v r := by
  cases st with
  | nil => exact h.elim
  | cons v r => exact ⟨v, r, rfl, h⟩
theorem p_popI_e {st : List Value} {k : Int32 → List Value → Prop} (h : p_popI st k) : ∃ x r, st = .int x :: r ∧ k x r := by
  cases st with
  | nil => exact h.elim
  | cons v r => cases v <;> first | exact ⟨_, r, rfl, h⟩ | exact h.elim
theorem p_popJ_e {st : List Value} {k : Int64 → List Value → Prop} (h : p_popJ st k) : ∃ x r, st = .long x :: r ∧ k x r := by
  cases st with
  | nil => exact h.elim
  | cons v r => cases v <;> first | exact ⟨_, r, rfl, h⟩ | exact h.elim
theorem p_popR_e {st : List Value} {k : Nat → List Value → Prop} (h : p_popR st k) : ∃ x r, st = .ref x :: r ∧ k x r := by
  cases st with
  | nil => exact h.elim
  | cons v r => cases v <;> first | exact ⟨_, r, rfl, h⟩ | exact h.elim
theorem p_obj_e {Sh : List PSh} {c k : Nat} {f : List (Nat ⊕ FieldType) → Prop} (h : p_obj Sh c k f) : ∃ fs, Sh[k]? = some (.inl (c, fs)) ∧ f fs := by
  unfold p_obj at h
  split at h
  · rename_i c' fs hs
    split at h
    · rename_i h9; subst h9; exact ⟨fs, hs, h⟩
    · exact h.elim
  · exact h.elim
theorem p_arr_e {Sh : List PSh} {k : Nat} {f : Nat → Nat → FieldType → List Nat → Prop} (h : p_arr Sh k f) : ∃ t n ty rs, Sh[k]? = some (.inr (t, n, ty, rs)) ∧ f t n ty rs := by
  unfold p_arr at h
  split at h
  · rename_i t n ty rs hs
    exact ⟨t, n, ty, rs, hs, h⟩
  · exact h.elim
end
section
/-! Each instruction of the pure machine is the real one's. -/
section PS1
variable {p : Program} {l : Launch} {e : Env} {R : Room} {s : State} {m : MethodId} {args : Array Value} {below : List Frame} {meth : Method} {c : Code} {H : Heap} {locs : List Loc} {cells slots : Nat} {Q : State → Prop} {cc : ByteArray} {pc : Nat} {ls : Array Slot} {rest : List Value}
theorem w_athrow (hexec : p.tables.exec = Jvm.exec) (hb : c.code = cc) {a : Addr} (hdg : decode cc pc = .ok (.athrow, 1)) (kk : vx_W p l e R s m args below meth c H locs cells slots Q (F0 m pc ls rest) a) : W p l e R s m args below meth c H locs cells slots Q (F0 m pc ls (.ref a :: rest)) := by
  intro T hT X
  obtain ⟨t, a1, b1⟩ := kk T hT X
  refine ⟨t, ?_, b1⟩
  subst hb
  have hat : At T (F0 m pc ls (.ref a :: rest)).method c below := X.here
  jvm_step hat [hexec, hdg, athrow.wp_sem]
  exact a1
end PS1
/-- a kind of objects, by its number: its name, its fields' table, what the tables say -/
def p_kind (cl : List vw_C) (Ts : List Cond) (ci : Nat) (C : String) (T : u_T) (N : Nat) (ty : Nat → FieldType) : Prop :=
  cl[ci]? = some (C, T, N) ∧ (∀ w ∈ u_ws C T N, w ∈ Ts) ∧ (∀ k, k < N → parseFieldDescriptor (T k).2.2.1 = some (ty k)) ∧ (∀ a, a < N → ∀ b, b < N → a ≠ b → (T a).2.1 ≠ (T b).2.1)
/-- the entry 'index' of own's pool names the place j of the kind ci -/
def p_fok (cl : List vw_C) (Ts : List Cond) (own : String) (index ci j : Nat) : Prop := ∃ C T N ty, p_kind cl Ts ci C T N ty ∧ j < N ∧ Cond.fieldLink own index (T j).1 (T j).2.1 (T j).2.2.1 ∈ Ts
/-- and it is no final one, of that type -/
def p_fput (cl : List vw_C) (ci j : Nat) (ty : FieldType) : Prop := ∀ C T N, cl[ci]? = some (C, T, N) → (T j).2.2.2 = false ∧ parseFieldDescriptor (T j).2.2.1 = some ty
/-- the shapes fit the kinds and the arrays' types -/
def p_shok (cl : List vw_C) (tys : List (ClassId × FieldType)) (cA : Nat → ClassId) (Sh : List PSh) : Prop :=
  (∀ (k t n : Nat) (ty : FieldType) (rs : List Nat), Sh[k]? = some (.inr (t, n, ty, rs)) → tys[t]? = some (cA t, ty)) ∧ (∀ (k ci : Nat) (fs : List (Nat ⊕ FieldType)) (j : Nat) (ty : FieldType), Sh[k]? = some (.inl (ci, fs)) → fs[j]? = some (.inr ty) → p_fput cl ci j ty)
/-- the words of a method of java.lang.Math -/
def p_mw (Ts : List Cond) (own : String) (i : Nat) (y : MethodName) (cw : Cond) : Prop := Cond.methodLink own i y ∈ Ts ∧ Cond.static y ∈ Ts ∧ Cond.initialized "java/lang/Math" ∈ Ts ∧ cw ∈ Ts
abbrev p_mmax : Cond := .code Lib.Math.max.name Lib.Math.max.code 2 (some .int)
abbrev p_mabs : Cond := .code Lib.MathLoose.abs_long.x Lib.MathLoose.abs_long.code 2 (some .long)
/-- what is asked of a resolved instruction at pc, decoded with length len -/
def p_chk (cl : List vw_C) (Ts : List Cond) (own : String) (nL pc : Nat) (ins : Instr) (len : Nat) (a0 b0 : Nat) (ts0 : List Nat) (cv : Value) : Prop := match ins with
  | .iconst n => len = 1 ∧ cv = .int (Int32.ofInt n)
  | .bipush n => len = 2 ∧ cv = .int (Int8.ofInt n).toInt32
  | .sipush n => len = 3 ∧ cv = .int (Int16.ofInt n).toInt32
  | .lconst n => len = 1 ∧ cv = .long (Int64.ofNat (n : Nat))
  | .ldc i => len = 2 ∧ ∃ v, cv = .int v ∧ Cond.constant own i v ∈ Ts
  | .ldc2_w i => len = 3 ∧ ∃ v, cv = .long v ∧ Cond.constantLong own i v ∈ Ts
  | .iload_n k => len = 1 ∧ (k : Nat) = a0
  | .lload_n k => len = 1 ∧ (k : Nat) = a0
  | .aload_n k => len = 1 ∧ (k : Nat) = a0
  | .iload k => len = 2 ∧ k = a0
  | .lload k => len = 2 ∧ k = a0
  | .aload k => len = 2 ∧ k = a0
  | .istore_n k => len = 1 ∧ (k : Nat) = a0 ∧ a0 < nL
  | .astore_n k => len = 1 ∧ (k : Nat) = a0 ∧ a0 < nL
  | .lstore_n k => len = 1 ∧ (k : Nat) = a0 ∧ a0 + 1 < nL
  | .istore k => len = 2 ∧ k = a0 ∧ a0 < nL
  | .astore k => len = 2 ∧ k = a0 ∧ a0 < nL
  | .lstore k => len = 2 ∧ k = a0 ∧ a0 + 1 < nL
  | .iinc k n => len = 3 ∧ k = a0 ∧ a0 < nL ∧ cv = .int (Int32.ofInt n)
  | .ifCond _ off => len = 3 ∧ (pc : Int) + off = (a0 : Int)
  | .if_icmp _ off => len = 3 ∧ (pc : Int) + off = (a0 : Int)
  | .goto off => len = 3 ∧ (pc : Int) + off = (a0 : Int)
  | .tableswitch d lo hi offs => (pc : Int) + d = (a0 : Int) ∧ -2147483648 ≤ lo ∧ hi ≤ 2147483647 ∧ hi = lo + ts0.length - 1 ∧ offs.toList.map (fun o => (pc : Int) + o) = ts0.map (fun t : Nat => (t : Int))
  | .getfield i => len = 3 ∧ p_fok cl Ts own i a0 b0
  | .putfield i => len = 3 ∧ p_fok cl Ts own i a0 b0
  | .invokevirtual _ => len = 3
  | .invokestatic _ => len = 3
  | _ => len = 1
section PS2
variable {p : Program} {l : Launch} {e : Env} {R : Room} {s : State} {m : MethodId} {args : Array Value} {below : List Frame} {meth : Method} {c : Code} {H0 : Heap} {cells slots mc ms : Nat} {D : va_G} {cl : List vw_C} {tys : List (ClassId × FieldType)} {A free : Nat → Prop} {ρ : Nat → Nat} {cA : Nat → ClassId} {Sh : List PSh} {cc : ByteArray} {nL : Nat} {own : String} {Ts : List Cond} {Qc : Array Value → State → Outcome → State → Prop} {XC : String → State → State → Prop}
/-- the real machine at a point of the pure one -/
def p_sm (p : Program) (l : Launch) (e : Env) (R : Room) (s : State) (m : MethodId) (args : Array Value) (below : List Frame) (meth : Method) (c : Code) (H0 : Heap) (cells slots : Nat) (Qw : State → Prop) (D : va_G) (cl : List vw_C) (A : Nat → Prop) (ρ : Nat → Nat) (cA : Nat → ClassId) (Sh : List PSh) (nL : Nat) (pc : Nat) (L : List (Option Value)) (st : List Value) (M : PM) : Prop :=
  ∀ (H : Heap) (locs : List Loc) (ls : Array Slot), p_Lr ρ nL L ls → va_P D cl (p_w ρ cA Sh M) H → va_D A (p_w ρ cA Sh M) → va_S A H0 H locs → W p l e R s m args below meth c H locs cells slots Qw (F0 m pc ls (st.map (rv ρ)))
/-- the same, with something thrown over it -/
def p_sx (p : Program) (l : Launch) (e : Env) (R : Room) (s : State) (m : MethodId) (args : Array Value) (below : List Frame) (meth : Method) (c : Code) (H0 : Heap) (cells slots : Nat) (Qw : State → Prop) (D : va_G) (cl : List vw_C) (A : Nat → Prop) (ρ : Nat → Nat) (cA : Nat → ClassId) (Sh : List PSh) (nL : Nat) (XN : String) (pc : Nat) (L : List (Option Value)) (M : PM) : Prop :=
  ∀ (H : Heap) (locs : List Loc) (ls : Array Slot) (rest : List Value) (q : Addr) (ce : Cell), p_Lr ρ nL L ls → va_P D cl (p_w ρ cA Sh M) H → va_D A (p_w ρ cA Sh M) → va_S A H0 H locs → H[q]? = some ce → ce.vm = .none → s.vm.findClass XN = some ce.cls → vx_W p l e R s m args below meth c H locs cells slots Qw (F0 m pc ls rest) q
theorem p_sw_e {x : Int32} {k : Nat → Prop} {d : Nat} : ∀ (ts : List Nat) (v : Int), -2147483648 ≤ v → v + ts.length ≤ 2147483648 → p_sw x k d v ts → (x.toInt < v → k d) ∧ (v + ts.length ≤ x.toInt → k d) ∧ ∀ (j t : Nat), ts[j]? = some t → x.toInt = v + j → k t
  | [], v, _, _, h => ⟨fun _ => h, fun _ => h, fun j t ht => by simp at ht⟩
  | t0 :: ts, v, h1, h2, h => by
    simp only [List.length_cons] at h2 ⊢
    have hv : (Int32.ofInt v).toInt = v := Int32.toInt_ofInt_of_le (by show -2 ^ 31 ≤ v; omega) (by show v < 2 ^ 31; omega)
    by_cases hx : x = Int32.ofInt v
    · have hxv : x.toInt = v := by rw [hx, hv]
      refine ⟨fun h9 => by omega, fun h9 => by omega, fun j t ht hj => ?_⟩
      have hj0 : j = 0 := by omega
      subst hj0
      cases ht
      exact h.1 hx
    · have hxv : x.toInt ≠ v := fun h9 => hx (Int32.toInt_inj.mp (by rw [hv]; exact h9))
      obtain ⟨a1, a2, a3⟩ := p_sw_e ts (v + 1) (by omega) (by omega) (h.2 hx)
      refine ⟨fun h9 => a1 (by omega), fun h9 => a2 (by omega), fun j t ht hj => ?_⟩
      cases j with
      | zero => omega
      | succ j => exact a3 j t ht (by omega)
set_option maxHeartbeats 8000000 in
set_option maxRecDepth 20000 in
theorem p_ex_snd {E : PEnv} {hn : Nat → Option (Nat × Nat)} {ret : Option FieldType} {pc : Nat} {ins : Instr} {nx len : Nat} {a0 b0 : Nat} {ts0 : List Nat} {cv : Value} {L : List (Option Value)} {st : List Value} {M : PM} {K : Nat → List (Option Value) → List Value → PM → Prop} {Qp : Option (Option Value) → PM → Prop} {XN : String}
    (hx : p.tables.exec = Jvm.exec) (hb : c.code = cc) (hown : s.vm.findClass own = some m.cls) (hts : ∀ w ∈ Ts, w.before args s = true) (hK : va_K D cl tys s) (hsh : p_shok cl tys cA Sh) (hlocks : meth.locks = false) (hret : meth.sig.returnType = ret) (hmc : cells ≤ mc) (hms : slots ≤ ms) (hAf : ∀ q, A q → free q)
    (hd : decode cc pc = .ok (ins, len)) (hnx : nx = pc + len) (hc : p_chk cl Ts own nL pc ins len a0 b0 ts0 cv) (hml : c.maxLocals = nL) (hR1 : 1 ≤ R.frames ∧ 21 ≤ R.locals ∧ cells ≤ R.cells ∧ slots ≤ R.slots)
    (hmx : ∀ i, ins = .invokestatic i → b0 = 1000 → p_mw Ts own i Lib.Math.max.name p_mmax) (hab : ∀ i, ins = .invokestatic i → b0 = 1001 → p_mw Ts own i Lib.MathLoose.abs_long.x p_mabs)
    (hkind0 : ∀ k fs, Sh[k]? = some (.inl (p_xc, fs)) → ∃ T N, cl[p_xc]? = some (XN, T, N) ∧ ∀ H, va_P D cl (p_w ρ cA Sh M) H → ∃ ce : Cell, H[ρ k]? = some ce ∧ ce.vm = .none)
    (hKK : ∀ pc L st M, K pc L st M → p_sm p l e R s m args below meth c H0 cells slots (vx_MQ below Qc XC args s mc ms free) D cl A ρ cA Sh nL pc L st M)
    (hcall : ∀ (k n : Nat) (L : List (Option Value)) (st : List Value) (M : PM) (Q0 : Option (Option Value) → PM → Prop), (∃ i, ins = .invokevirtual i ∨ (ins = .invokestatic i ∧ b0 ≠ 1000 ∧ b0 ≠ 1001)) → k = a0 → n = b0 → ((st.drop n).map fun v => v.category).sum ≤ 8 → E k (st.take n).reverse M Q0 →
      (∀ v M', Q0 (some v) M' → p_sm p l e R s m args below meth c H0 cells slots (vx_MQ below Qc XC args s mc ms free) D cl A ρ cA Sh nL (pc + 3) L (v.toList ++ st.drop n) M') →
      (∀ M', Q0 none M' → p_sx p l e R s m args below meth c H0 cells slots (vx_MQ below Qc XC args s mc ms free) D cl A ρ cA Sh nL XN pc L M') →
      p_sm p l e R s m args below meth c H0 cells slots (vx_MQ below Qc XC args s mc ms free) D cl A ρ cA Sh nL pc L st M)
    (hth : ∀ (L : List (Option Value)) (M : PM), p_th hn pc L M K Qp → p_sx p l e R s m args below meth c H0 cells slots (vx_MQ below Qc XC args s mc ms free) D cl A ρ cA Sh nL XN pc L M)
    (hQ : ∀ (v : Option Value) (M : PM) (H : Heap) (locs : List Loc), Qp (some v) M → va_P D cl (p_w ρ cA Sh M) H → va_D A (p_w ρ cA Sh M) → va_S A H0 H locs → ∀ t : State, t.heap = H → s.WarmedH t.vm → Qc args s (.returned (v.map (rv ρ))) t)
    (hk : p_ex Sh E hn ret pc ins nx a0 b0 ts0 cv L st M K Qp) : p_sm p l e R s m args below meth c H0 cells slots (vx_MQ below Qc XC args s mc ms free) D cl A ρ cA Sh nL pc L st M := by
  subst hnx
  have hcS : ∀ {k n : Nat} {L : List (Option Value)} {st : List Value} {M : PM}, (∃ i, ins = .invokevirtual i ∨ (ins = .invokestatic i ∧ b0 ≠ 1000 ∧ b0 ≠ 1001)) → len = 3 → k = a0 → n = b0 → (((st.drop n).map fun v => v.category).sum ≤ 8 ∧ ∃ Q0, E k (st.take n).reverse M Q0 ∧ (∀ v M', Q0 (some v) M' → K (pc + len) L (v.toList ++ st.drop n) M') ∧ ∀ M', Q0 none M' → p_th hn pc L M' K Qp) → p_sm p l e R s m args below meth c H0 cells slots (vx_MQ below Qc XC args s mc ms free) D cl A ρ cA Sh nL pc L st M := by
    rintro k n L st M hi rfl e1 e2 ⟨h0, Q0, h1, h2, h3⟩
    exact hcall k n L st M Q0 hi e1 e2 h0 h1 (fun v M' hq => hKK _ _ _ _ (h2 v M' hq)) (fun M' hq => hth _ _ (h3 M' hq))
  cases ins
  case iconst n => obtain ⟨rfl, rfl⟩ := hc; exact fun H locs ls hL hP hD hS => lv_iconst hx hb hd rfl (hKK _ _ _ _ hk H locs ls hL hP hD hS)
  case bipush n => obtain ⟨rfl, rfl⟩ := hc; exact fun H locs ls hL hP hD hS => lv_bipush hx hb hd rfl (hKK _ _ _ _ hk H locs ls hL hP hD hS)
  case sipush n => obtain ⟨rfl, rfl⟩ := hc; exact fun H locs ls hL hP hD hS => lv_sipush hx hb hd rfl (hKK _ _ _ _ hk H locs ls hL hP hD hS)
  case lconst n => obtain ⟨rfl, rfl⟩ := hc; exact fun H locs ls hL hP hD hS => lv_lconst hx hb hd rfl (hKK _ _ _ _ hk H locs ls hL hP hD hS)
  case ldc n => obtain ⟨rfl, v, rfl, hw⟩ := hc; exact fun H locs ls hL hP hD hS => lv_ldc hx hb hown (hts _ hw) hd (hKK _ _ _ _ hk H locs ls hL hP hD hS)
  case ldc2_w n => obtain ⟨rfl, v, rfl, hw⟩ := hc; exact fun H locs ls hL hP hD hS => lv_ldc2 hx hb hown (hts _ hw) hd (hKK _ _ _ _ hk H locs ls hL hP hD hS)
  case iload_n i => obtain ⟨rfl, hi⟩ := hc; obtain ⟨v, hv, hk⟩ := p_ld_e hk; obtain ⟨x, rfl, hk⟩ := p_isI_e hk; exact fun H locs ls hL hP hD hS => lv_iload_n hx hb hd hi (hL.at hv) (hKK _ _ _ _ hk H locs ls hL hP hD hS)
  case lload_n i => obtain ⟨rfl, hi⟩ := hc; obtain ⟨v, hv, hk⟩ := p_ld_e hk; obtain ⟨x, rfl, hk⟩ := p_isJ_e hk; exact fun H locs ls hL hP hD hS => lv_lload_n hx hb hd hi (hL.at hv) (hKK _ _ _ _ hk H locs ls hL hP hD hS)
  case aload_n i => obtain ⟨rfl, hi⟩ := hc; obtain ⟨v, hv, hk⟩ := p_ld_e hk; obtain ⟨x, rfl, hk⟩ := p_isR_e hk; exact fun H locs ls hL hP hD hS => lv_aload_n hx hb hd hi (hL.at hv) (hKK _ _ _ _ hk H locs ls hL hP hD hS)
  case iload i => obtain ⟨rfl, rfl⟩ := hc; obtain ⟨v, hv, hk⟩ := p_ld_e hk; obtain ⟨x, rfl, hk⟩ := p_isI_e hk; exact fun H locs ls hL hP hD hS => lv_iload hx hb hd (hL.at hv) (hKK _ _ _ _ hk H locs ls hL hP hD hS)
  case lload i => obtain ⟨rfl, rfl⟩ := hc; obtain ⟨v, hv, hk⟩ := p_ld_e hk; obtain ⟨x, rfl, hk⟩ := p_isJ_e hk; exact fun H locs ls hL hP hD hS => lv_lload hx hb hd (hL.at hv) (hKK _ _ _ _ hk H locs ls hL hP hD hS)
  case aload i => obtain ⟨rfl, rfl⟩ := hc; obtain ⟨v, hv, hk⟩ := p_ld_e hk; obtain ⟨x, rfl, hk⟩ := p_isR_e hk; exact fun H locs ls hL hP hD hS => lv_aload hx hb hd (hL.at hv) (hKK _ _ _ _ hk H locs ls hL hP hD hS)
  case istore_n i => obtain ⟨rfl, hi, hlt⟩ := hc; obtain ⟨x, r, rfl, hk⟩ := p_popI_e hk; exact fun H locs ls hL hP hD hS => lv_istore_n hx hb hd hi hL.2 hlt rfl (fun ls' hl' => hKK _ _ _ _ hk H locs ls' (hL.set1 hlt (fun w hw => by cases hw; rfl) hl') hP hD hS)
  case astore_n i => obtain ⟨rfl, hi, hlt⟩ := hc; obtain ⟨x, r, rfl, hk⟩ := p_popR_e hk; exact fun H locs ls hL hP hD hS => lv_astore_n hx hb hd hi hL.2 hlt rfl (fun ls' hl' => hKK _ _ _ _ hk H locs ls' (hL.set1 hlt (fun w hw => by cases hw; rfl) hl') hP hD hS)
  case lstore_n i => obtain ⟨rfl, hi, hlt⟩ := hc; obtain ⟨x, r, rfl, hk⟩ := p_popJ_e hk; exact fun H locs ls hL hP hD hS => lv_lstore_n hx hb hd hi hL.2 hlt rfl (fun ls' hl' => hKK _ _ _ _ hk H locs ls' (hL.set2 hlt (fun w hw => by cases hw; rfl) hl') hP hD hS)
  case istore i => obtain ⟨rfl, rfl, hlt⟩ := hc; obtain ⟨x, r, rfl, hk⟩ := p_popI_e hk; exact fun H locs ls hL hP hD hS => lv_istore hx hb hd hL.2 hlt rfl (fun ls' hl' => hKK _ _ _ _ hk H locs ls' (hL.set1 hlt (fun w hw => by cases hw; rfl) hl') hP hD hS)
  case astore i => obtain ⟨rfl, rfl, hlt⟩ := hc; obtain ⟨x, r, rfl, hk⟩ := p_popR_e hk; exact fun H locs ls hL hP hD hS => lv_astore hx hb hd hL.2 hlt rfl (fun ls' hl' => hKK _ _ _ _ hk H locs ls' (hL.set1 hlt (fun w hw => by cases hw; rfl) hl') hP hD hS)
  case lstore i => obtain ⟨rfl, rfl, hlt⟩ := hc; obtain ⟨x, r, rfl, hk⟩ := p_popJ_e hk; exact fun H locs ls hL hP hD hS => lv_lstore hx hb hd hL.2 hlt rfl (fun ls' hl' => hKK _ _ _ _ hk H locs ls' (hL.set2 hlt (fun w hw => by cases hw; rfl) hl') hP hD hS)
  case iinc i n =>
    obtain ⟨rfl, rfl, hlt, rfl⟩ := hc; obtain ⟨v, hv, hk⟩ := p_ld_e hk; obtain ⟨x, rfl, hk⟩ := p_isI_e hk
    intro H locs ls hL hP hD hS
    obtain ⟨kk, hkk⟩ := List.getElem?_of_mem (lvl_mem.mpr ⟨.int x, hv, rfl⟩ : (_, rv ρ (.int x)) ∈ lvl ρ L)
    exact lv_iinc hx hb hd hL.2 hkk rfl hlt rfl (fun ls' hl' => hKK _ _ _ _ hk H locs ls' (hL.set1 hlt (fun w hw => by cases hw; rfl) hl') hP hD hS)
  case iadd => obtain rfl : len = 1 := hc; obtain ⟨y, r, rfl, hk⟩ := p_popI_e hk; obtain ⟨x, r, rfl, hk⟩ := p_popI_e hk; exact fun H locs ls hL hP hD hS => lv_iadd hx hb hd (hKK _ _ _ _ hk H locs ls hL hP hD hS)
  case isub => obtain rfl : len = 1 := hc; obtain ⟨y, r, rfl, hk⟩ := p_popI_e hk; obtain ⟨x, r, rfl, hk⟩ := p_popI_e hk; exact fun H locs ls hL hP hD hS => lv_isub hx hb hd (hKK _ _ _ _ hk H locs ls hL hP hD hS)
  case imul => obtain rfl : len = 1 := hc; obtain ⟨y, r, rfl, hk⟩ := p_popI_e hk; obtain ⟨x, r, rfl, hk⟩ := p_popI_e hk; exact fun H locs ls hL hP hD hS => lv_imul hx hb hd (hKK _ _ _ _ hk H locs ls hL hP hD hS)
  case iand => obtain rfl : len = 1 := hc; obtain ⟨y, r, rfl, hk⟩ := p_popI_e hk; obtain ⟨x, r, rfl, hk⟩ := p_popI_e hk; exact fun H locs ls hL hP hD hS => lv_iand hx hb hd (hKK _ _ _ _ hk H locs ls hL hP hD hS)
  case ishr => obtain rfl : len = 1 := hc; obtain ⟨y, r, rfl, hk⟩ := p_popI_e hk; obtain ⟨x, r, rfl, hk⟩ := p_popI_e hk; exact fun H locs ls hL hP hD hS => lv_ishr hx hb hd (hKK _ _ _ _ hk H locs ls hL hP hD hS)
  case iushr => obtain rfl : len = 1 := hc; obtain ⟨y, r, rfl, hk⟩ := p_popI_e hk; obtain ⟨x, r, rfl, hk⟩ := p_popI_e hk; exact fun H locs ls hL hP hD hS => lv_iushr hx hb hd rfl (hKK _ _ _ _ hk H locs ls hL hP hD hS)
  case idiv => obtain rfl : len = 1 := hc; obtain ⟨y, r, rfl, hk⟩ := p_popI_e hk; obtain ⟨x, r, rfl, hk⟩ := p_popI_e hk; exact fun H locs ls hL hP hD hS => lv_idiv hx hb hd hk.1 (hKK _ _ _ _ hk.2 H locs ls hL hP hD hS)
  case irem => obtain rfl : len = 1 := hc; obtain ⟨y, r, rfl, hk⟩ := p_popI_e hk; obtain ⟨x, r, rfl, hk⟩ := p_popI_e hk; exact fun H locs ls hL hP hD hS => lv_irem hx hb hd hk.1 (hKK _ _ _ _ hk.2 H locs ls hL hP hD hS)
  case ladd => obtain rfl : len = 1 := hc; obtain ⟨y, r, rfl, hk⟩ := p_popJ_e hk; obtain ⟨x, r, rfl, hk⟩ := p_popJ_e hk; exact fun H locs ls hL hP hD hS => lv_ladd hx hb hd (hKK _ _ _ _ hk H locs ls hL hP hD hS)
  case lsub => obtain rfl : len = 1 := hc; obtain ⟨y, r, rfl, hk⟩ := p_popJ_e hk; obtain ⟨x, r, rfl, hk⟩ := p_popJ_e hk; exact fun H locs ls hL hP hD hS => lv_lsub hx hb hd (hKK _ _ _ _ hk H locs ls hL hP hD hS)
  case lmul => obtain rfl : len = 1 := hc; obtain ⟨y, r, rfl, hk⟩ := p_popJ_e hk; obtain ⟨x, r, rfl, hk⟩ := p_popJ_e hk; exact fun H locs ls hL hP hD hS => lv_lmul hx hb hd (hKK _ _ _ _ hk H locs ls hL hP hD hS)
  case land => obtain rfl : len = 1 := hc; obtain ⟨y, r, rfl, hk⟩ := p_popJ_e hk; obtain ⟨x, r, rfl, hk⟩ := p_popJ_e hk; exact fun H locs ls hL hP hD hS => lv_land hx hb hd (hKK _ _ _ _ hk H locs ls hL hP hD hS)
  case lor => obtain rfl : len = 1 := hc; obtain ⟨y, r, rfl, hk⟩ := p_popJ_e hk; obtain ⟨x, r, rfl, hk⟩ := p_popJ_e hk; exact fun H locs ls hL hP hD hS => lv_lor hx hb hd (hKK _ _ _ _ hk H locs ls hL hP hD hS)
  case ldiv => obtain rfl : len = 1 := hc; obtain ⟨y, r, rfl, hk⟩ := p_popJ_e hk; obtain ⟨x, r, rfl, hk⟩ := p_popJ_e hk; exact fun H locs ls hL hP hD hS => lv_ldiv hx hb hd hk.1 (hKK _ _ _ _ hk.2 H locs ls hL hP hD hS)
  case lrem => obtain rfl : len = 1 := hc; obtain ⟨y, r, rfl, hk⟩ := p_popJ_e hk; obtain ⟨x, r, rfl, hk⟩ := p_popJ_e hk; exact fun H locs ls hL hP hD hS => lv_lrem hx hb hd hk.1 (hKK _ _ _ _ hk.2 H locs ls hL hP hD hS)
  case lneg => obtain rfl : len = 1 := hc; obtain ⟨x, r, rfl, hk⟩ := p_popJ_e hk; exact fun H locs ls hL hP hD hS => lv_lneg hx hb hd (hKK _ _ _ _ hk H locs ls hL hP hD hS)
  case i2b => obtain rfl : len = 1 := hc; obtain ⟨x, r, rfl, hk⟩ := p_popI_e hk; exact fun H locs ls hL hP hD hS => lv_i2b hx hb hd rfl (hKK _ _ _ _ hk H locs ls hL hP hD hS)
  case i2l => obtain rfl : len = 1 := hc; obtain ⟨x, r, rfl, hk⟩ := p_popI_e hk; exact fun H locs ls hL hP hD hS => lv_i2l hx hb hd rfl (hKK _ _ _ _ hk H locs ls hL hP hD hS)
  case l2i => obtain rfl : len = 1 := hc; obtain ⟨x, r, rfl, hk⟩ := p_popJ_e hk; exact fun H locs ls hL hP hD hS => lv_l2i hx hb hd rfl (hKK _ _ _ _ hk H locs ls hL hP hD hS)
  case lcmp => obtain rfl : len = 1 := hc; obtain ⟨y, r, rfl, hk⟩ := p_popJ_e hk; obtain ⟨x, r, rfl, hk⟩ := p_popJ_e hk; exact fun H locs ls hL hP hD hS => W.lcmp hx hb hd (hKK _ _ _ _ hk H locs ls hL hP hD hS)
  case dup =>
    obtain rfl : len = 1 := hc; obtain ⟨v, r, rfl, hk1⟩ := p_pop_e hk
    by_cases hv : v.category = 1
    case neg => rw [if_neg hv] at hk1; exact hk1.elim
    rw [if_pos hv] at hk1
    exact fun H locs ls hL hP hD hS => lv_dup hx hb hd (by rw [rv_cat]; exact hv) (hKK _ _ _ _ hk1 H locs ls hL hP hD hS)
  case dup2 =>
    obtain rfl : len = 1 := hc; obtain ⟨v, r0, rfl, hk1⟩ := p_pop_e hk; obtain ⟨w, r, rfl, hk2⟩ := p_pop_e hk1
    by_cases hv : v.category = 1
    case neg => rw [if_neg hv] at hk2; exact hk2.elim
    rw [if_pos hv] at hk2
    by_cases hw : w.category = 1
    case neg => rw [if_neg hw] at hk2; exact hk2.elim
    rw [if_pos hw] at hk2
    exact fun H locs ls hL hP hD hS => lv_dup2_11 hx hb hd (by rw [rv_cat]; exact hv) (by rw [rv_cat]; exact hw) (hKK _ _ _ _ hk2 H locs ls hL hP hD hS)
  case ifCond op off =>
    obtain ⟨rfl, ho⟩ := hc; obtain ⟨x, r, rfl, hk⟩ := p_popI_e hk
    intro H locs ls hL hP hD hS
    cases op
    · exact lv_if_eq hx hb hd ho (fun h => hKK _ _ _ _ (hk.1 h) H locs ls hL hP hD hS) (fun h => hKK _ _ _ _ (hk.2 h) H locs ls hL hP hD hS)
    · exact lv_if_ne hx hb hd ho (fun h => hKK _ _ _ _ (hk.1 h) H locs ls hL hP hD hS) (fun h => hKK _ _ _ _ (hk.2 (fun q => q h)) H locs ls hL hP hD hS)
    · exact lv_if_lt hx hb hd ho (fun h => hKK _ _ _ _ (hk.1 h) H locs ls hL hP hD hS) (fun h => hKK _ _ _ _ (hk.2 h) H locs ls hL hP hD hS)
    · exact lv_if_ge hx hb hd ho (fun h => hKK _ _ _ _ (hk.1 h) H locs ls hL hP hD hS) (fun h => hKK _ _ _ _ (hk.2 h) H locs ls hL hP hD hS)
    · exact lv_if_gt hx hb hd ho (fun h => hKK _ _ _ _ (hk.1 h) H locs ls hL hP hD hS) (fun h => hKK _ _ _ _ (hk.2 h) H locs ls hL hP hD hS)
    · exact lv_if_le hx hb hd ho (fun h => hKK _ _ _ _ (hk.1 h) H locs ls hL hP hD hS) (fun h => hKK _ _ _ _ (hk.2 h) H locs ls hL hP hD hS)
  case if_icmp op off =>
    obtain ⟨rfl, ho⟩ := hc; obtain ⟨y, r, rfl, hk⟩ := p_popI_e hk; obtain ⟨x, r, rfl, hk⟩ := p_popI_e hk
    intro H locs ls hL hP hD hS
    cases op
    · exact lv_icmp_eq hx hb hd ho (fun h => hKK _ _ _ _ (hk.1 h) H locs ls hL hP hD hS) (fun h => hKK _ _ _ _ (hk.2 h) H locs ls hL hP hD hS)
    · exact lv_icmp_ne hx hb hd ho (fun h => hKK _ _ _ _ (hk.1 h) H locs ls hL hP hD hS) (fun h => hKK _ _ _ _ (hk.2 (fun q => q h)) H locs ls hL hP hD hS)
    · exact lv_icmp_lt hx hb hd ho (fun h => hKK _ _ _ _ (hk.1 h) H locs ls hL hP hD hS) (fun h => hKK _ _ _ _ (hk.2 h) H locs ls hL hP hD hS)
    · exact lv_icmp_ge hx hb hd ho (fun h => hKK _ _ _ _ (hk.1 h) H locs ls hL hP hD hS) (fun h => hKK _ _ _ _ (hk.2 h) H locs ls hL hP hD hS)
    · exact lv_icmp_gt hx hb hd ho (fun h => hKK _ _ _ _ (hk.1 h) H locs ls hL hP hD hS) (fun h => hKK _ _ _ _ (hk.2 h) H locs ls hL hP hD hS)
    · exact lv_icmp_le hx hb hd ho (fun h => hKK _ _ _ _ (hk.1 h) H locs ls hL hP hD hS) (fun h => hKK _ _ _ _ (hk.2 h) H locs ls hL hP hD hS)
  case goto off => obtain ⟨rfl, ho⟩ := hc; exact fun H locs ls hL hP hD hS => lv_goto hx hb hd ho (hKK _ _ _ _ hk H locs ls hL hP hD hS)
  case tableswitch d lo hi offs =>
    obtain ⟨h1, h2, h3, h4, h5⟩ := hc; obtain ⟨x, r, rfl, hk⟩ := p_popI_e hk
    intro H locs ls hL hP hD hS
    obtain ⟨a1, a2, a3⟩ := p_sw_e _ _ h2 (by omega) hk
    by_cases hlo : x.toInt < lo
    · exact lv_tableOut hx hb hd (Or.inl hlo) h1 (hKK _ _ _ _ (a1 hlo) H locs ls hL hP hD hS)
    · by_cases hhi : hi < x.toInt
      · exact lv_tableOut hx hb hd (Or.inr hhi) h1 (hKK _ _ _ _ (a2 (by omega)) H locs ls hL hP hD hS)
      · have hlt : (x.toInt - lo).toNat < ts0.length := by omega
        have ht : ts0[(x.toInt - lo).toNat]? = some ts0[(x.toInt - lo).toNat] := List.getElem?_eq_getElem hlt
        have h6 : (offs.toList.map (fun o => (pc : Int) + o))[(x.toInt - lo).toNat]? = some ((ts0[(x.toInt - lo).toNat] : Nat) : Int) := by rw [h5, List.getElem?_map, ht]; rfl
        rw [List.getElem?_map] at h6
        cases ho : offs.toList[(x.toInt - lo).toNat]? with
        | none => rw [ho] at h6; cases h6
        | some o =>
          rw [ho] at h6
          exact lv_tableIn hx hb hd hlo hhi (by rw [← Array.getElem?_toList]; exact ho) (Option.some.inj h6) (hKK _ _ _ _ (a3 _ _ ht (by omega)) H locs ls hL hP hD hS)
  case getfield i =>
    obtain ⟨rfl, C, T, N, ty, ⟨k1, k2, k3, k4⟩, hj, hw⟩ := hc; obtain ⟨k, r, rfl, hk⟩ := p_popR_e hk; obtain ⟨fs, hfs, hk⟩ := p_obj_e hk
    intro H locs ls hL hP hD hS
    have hg : ∀ f, fs[b0]? = some f → (fs.mapIdx (p_fv ρ M k))[b0]? = some (p_fv ρ M k b0 f) := fun f hf => by rw [List.getElem?_mapIdx, hf]; rfl
    split at hk
    · rename_i x hf
      exact va_get hx hb hts k2 hown hK hP k (p_w_get hfs) k1 b0 hj (hts _ hw) (fun _ h9 => h9) (hg _ hf) hd (hKK _ _ _ _ hk H locs ls hL hP hD hS)
    · rename_i hf
      exact va_get hx hb hts k2 hown hK hP k (p_w_get hfs) k1 b0 hj (hts _ hw) (fun _ h9 => h9) (hg _ hf) hd (hKK _ _ _ _ hk H locs ls hL hP hD hS)
    · rename_i t9 hnl hf
      have e9 : p_fv ρ M k b0 (.inr t9) = .int (M.1 k b0) := by
        cases t9 <;> first | rfl | exact absurd rfl hnl
      have g9 := hg _ hf
      rw [e9] at g9
      exact va_get hx hb hts k2 hown hK hP k (p_w_get hfs) k1 b0 hj (hts _ hw) (fun _ h9 => h9) g9 hd (hKK _ _ _ _ hk H locs ls hL hP hD hS)
    · exact hk.elim
  case putfield i =>
    obtain ⟨rfl, C, T, N, ty, ⟨k1, k2, k3, k4⟩, hj, hw⟩ := hc; obtain ⟨v, r, rfl, hk⟩ := p_pop_e hk; obtain ⟨k, r, rfl, hk⟩ := p_popR_e hk; obtain ⟨fs, hfs, hk⟩ := p_obj_e hk
    intro H locs ls hL hP hD hS
    have hlen : ∀ {f}, fs[b0]? = some f → b0 < (fs.mapIdx (p_fv ρ M k)).length := fun hf => by rw [List.length_mapIdx]; exact (List.getElem?_eq_some_iff.mp hf).1
    split at hk
    · rename_i hf
      obtain ⟨x, rfl, hk⟩ := p_isJ_e hk
      obtain ⟨f1, f2⟩ := hsh.2 k _ _ _ _ hfs hf C T N k1
      refine va_put (v := .long x) hx hb hts k2 ty k3 k4 hown hK hP hD hS k (p_w_get hfs) k1 b0 hj (hts _ hw) (fun _ h9 => h9) f1 f2 rfl rfl (hlen hf) hd (fun H1 locs1 hP1 hD1 hS1 => ?_)
      rw [p_w_putJ hfs hf] at hP1 hD1
      exact hKK _ _ _ _ hk H1 locs1 ls hL hP1 hD1 hS1
    · rename_i hf
      obtain ⟨x, rfl, hk⟩ := p_isI_e hk
      obtain ⟨f1, f2⟩ := hsh.2 k _ _ _ _ hfs hf C T N k1
      refine va_put (v := .int x) hx hb hts k2 ty k3 k4 hown hK hP hD hS k (p_w_get hfs) k1 b0 hj (hts _ hw) (fun _ h9 => h9) f1 f2 rfl rfl (hlen hf) hd (fun H1 locs1 hP1 hD1 hS1 => ?_)
      rw [p_w_putI hfs hf trivial] at hP1 hD1
      exact hKK _ _ _ _ hk H1 locs1 ls hL hP1 hD1 hS1
    · rename_i hf
      obtain ⟨x, rfl, h8, h9, hk⟩ := p_isI_e hk
      obtain ⟨f1, f2⟩ := hsh.2 k _ _ _ _ hfs hf C T N k1
      refine va_put (v := .int x) hx hb hts k2 ty k3 k4 hown hK hP hD hS k (p_w_get hfs) k1 b0 hj (hts _ hw) (fun _ h9 => h9) f1 f2 h8 h9 (hlen hf) hd (fun H1 locs1 hP1 hD1 hS1 => ?_)
      rw [p_w_putI hfs hf trivial] at hP1 hD1
      exact hKK _ _ _ _ hk H1 locs1 ls hL hP1 hD1 hS1
    · exact hk.elim
  case iaload =>
    obtain rfl : len = 1 := hc; obtain ⟨i, r, rfl, hk⟩ := p_popI_e hk; obtain ⟨k, r, rfl, hk⟩ := p_popR_e hk; obtain ⟨t, n, ty, rs, hs, rfl, hin, hk⟩ := p_arr_e hk
    exact fun H locs ls hL hP hD hS => va_iald hx hb hK hP k t (p_w_get hs) (hsh.1 _ _ _ _ _ hs) hin hd (hKK _ _ _ _ hk H locs ls hL hP hD hS)
  case baload =>
    obtain rfl : len = 1 := hc; obtain ⟨i, r, rfl, hk⟩ := p_popI_e hk; obtain ⟨k, r, rfl, hk⟩ := p_popR_e hk; obtain ⟨t, n, ty, rs, hs, hty, hin, hk⟩ := p_arr_e hk
    rcases hty with rfl | rfl
    · exact fun H locs ls hL hP hD hS => va_bald hx hb hK hP k t (p_w_get hs) (hsh.1 _ _ _ _ _ hs) hin hd (hKK _ _ _ _ hk H locs ls hL hP hD hS)
    · exact fun H locs ls hL hP hD hS => va_zald hx hb hK hP k t (p_w_get hs) (hsh.1 _ _ _ _ _ hs) hin hd (hKK _ _ _ _ hk H locs ls hL hP hD hS)
  case laload =>
    obtain rfl : len = 1 := hc; obtain ⟨i, r, rfl, hk⟩ := p_popI_e hk; obtain ⟨k, r, rfl, hk⟩ := p_popR_e hk; obtain ⟨t, n, ty, rs, hs, rfl, hin, hk⟩ := p_arr_e hk
    exact fun H locs ls hL hP hD hS => va_lald hx hb hK hP k t (p_w_get hs) (hsh.1 _ _ _ _ _ hs) hin hd (hKK _ _ _ _ hk H locs ls hL hP hD hS)
  case aaload =>
    obtain rfl : len = 1 := hc; obtain ⟨i, r, rfl, hk⟩ := p_popI_e hk; obtain ⟨k, r, rfl, hk⟩ := p_popR_e hk; obtain ⟨t, n, ty, rs, hs, ⟨C, rfl⟩, hin, x, hrs, hk⟩ := p_arr_e hk
    intro H locs ls hL hP hD hS
    refine va_aldq hx hb hK hP k t (p_w_get hs) (hsh.1 _ _ _ _ _ hs) hin hd ?_
    rw [hrs]
    exact hKK _ _ _ _ hk H locs ls hL hP hD hS
  case iastore =>
    obtain rfl : len = 1 := hc; obtain ⟨x, r, rfl, hk⟩ := p_popI_e hk; obtain ⟨i, r, rfl, hk⟩ := p_popI_e hk; obtain ⟨k, r, rfl, hk⟩ := p_popR_e hk; obtain ⟨t, n, ty, rs, hs, rfl, hin, hk⟩ := p_arr_e hk
    intro H locs ls hL hP hD hS
    refine va_iast hx hb hK hP hD hS k t (p_w_get hs) (hsh.1 _ _ _ _ _ hs) hin hd (fun H1 locs1 hP1 hD1 hS1 => ?_)
    rw [p_w_arrI hs (Or.inl rfl)] at hP1 hD1
    exact hKK _ _ _ _ hk H1 locs1 ls hL hP1 hD1 hS1
  case bastore =>
    obtain rfl : len = 1 := hc; obtain ⟨x, r, rfl, hk⟩ := p_popI_e hk; obtain ⟨i, r, rfl, hk⟩ := p_popI_e hk; obtain ⟨k, r, rfl, hk⟩ := p_popR_e hk; obtain ⟨t, n, ty, rs, hs, hty, hin, hk⟩ := p_arr_e hk
    intro H locs ls hL hP hD hS
    rcases hty with rfl | rfl
    · refine va_bast hx hb hK hP hD hS k t (p_w_get hs) (hsh.1 _ _ _ _ _ hs) hin hd (fun H1 locs1 hP1 hD1 hS1 => ?_)
      rw [p_w_arrI hs (Or.inr (Or.inl rfl))] at hP1 hD1
      exact hKK _ _ _ _ hk H1 locs1 ls hL hP1 hD1 hS1
    · refine va_zast hx hb hK hP hD hS k t (p_w_get hs) (hsh.1 _ _ _ _ _ hs) hin hd (fun H1 locs1 hP1 hD1 hS1 => ?_)
      rw [p_w_arrI hs (Or.inr (Or.inr rfl))] at hP1 hD1
      exact hKK _ _ _ _ hk H1 locs1 ls hL hP1 hD1 hS1
  case lastore =>
    obtain rfl : len = 1 := hc; obtain ⟨x, r, rfl, hk⟩ := p_popJ_e hk; obtain ⟨i, r, rfl, hk⟩ := p_popI_e hk; obtain ⟨k, r, rfl, hk⟩ := p_popR_e hk; obtain ⟨t, n, ty, rs, hs, rfl, hin, hk⟩ := p_arr_e hk
    intro H locs ls hL hP hD hS
    refine va_last hx hb hK hP hD hS k t (p_w_get hs) (hsh.1 _ _ _ _ _ hs) hin hd (fun H1 locs1 hP1 hD1 hS1 => ?_)
    rw [p_w_arrJ hs] at hP1 hD1
    exact hKK _ _ _ _ hk H1 locs1 ls hL hP1 hD1 hS1
  case arraylength =>
    obtain rfl : len = 1 := hc; obtain ⟨k, r, rfl, hk⟩ := p_popR_e hk; obtain ⟨t, n, ty, rs, hs, hk⟩ := p_arr_e hk
    exact fun H locs ls hL hP hD hS => va_alen hx hb hK hP k t (p_w_get hs) (hsh.1 _ _ _ _ _ hs) rfl hd (hKK _ _ _ _ hk H locs ls hL hP hD hS)
  case invokevirtual i => exact hcS ⟨i, Or.inl rfl⟩ hc rfl rfl hk
  case invokestatic i =>
    have hcat : ∀ r : List Value, ((r.map (rv ρ)).map fun v => v.category).sum = (r.map fun v => v.category).sum := fun r => by rw [List.map_map, show (fun v : Value => v.category) ∘ rv ρ = fun v => v.category from funext fun v => rv_cat ρ v]
    unfold p_ex at hk
    dsimp only at hk
    split at hk
    · rename_i h0
      obtain rfl : len = 3 := hc
      obtain ⟨y, r0, rfl, hk2⟩ := p_popI_e hk; obtain ⟨x, r, rfl, h8, hk3⟩ := p_popI_e hk2
      obtain ⟨w1, w2, w3, w4⟩ := hmx i rfl h0
      exact fun H locs ls hL hP hD hS => va_mmax hx hb (hml.trans hL.2.1.symm) hown (hts _ w1) (hts _ w2) (hts _ w3) (hts _ w4) hR1.1 (by rw [hcat]; omega) hR1.2.2.1 hR1.2.2.2 hd (hKK _ _ _ _ hk3 H locs ls hL hP hD hS)
    · rename_i h0
      split at hk
      · rename_i h1
        obtain rfl : len = 3 := hc
        obtain ⟨x, r, rfl, h8, hk2⟩ := p_popJ_e hk
        obtain ⟨w1, w2, w3, w4⟩ := hab i rfl h1
        exact fun H locs ls hL hP hD hS => va_mabs_long hx hb (hml.trans hL.2.1.symm) hown (hts _ w1) (hts _ w2) (hts _ w3) (hts _ w4) hR1.1 (by rw [hcat]; omega) hR1.2.2.1 hR1.2.2.2 hd (hKK _ _ _ _ hk2 H locs ls hL hP hD hS)
      · rename_i h1
        exact hcS ⟨i, Or.inr ⟨rfl, h0, h1⟩⟩ hc rfl rfl hk
  case ireturn =>
    obtain rfl : len = 1 := hc; obtain ⟨x, r, rfl, rfl, ⟨ty, hty, hsm, hnr⟩, hk⟩ := p_popI_e hk
    exact fun H locs ls hL hP hD hS => W.widen hmc hms (vx_ret (W.zret hx hb (hret.trans hty) hnr (hQ _ M H locs hk hP hD hS) (fun q hq => hAf _ (hS.2.2 q hq)) hd))
  case lreturn =>
    obtain rfl : len = 1 := hc; obtain ⟨x, r, rfl, rfl, hty, hk⟩ := p_popJ_e hk
    exact fun H locs ls hL hP hD hS => W.widen hmc hms (vx_ret (W.lret hx hb (hret.trans hty) (hQ _ M H locs hk hP hD hS) (fun q hq => hAf _ (hS.2.2 q hq)) hd))
  case areturn =>
    obtain rfl : len = 1 := hc; obtain ⟨x, r, rfl, rfl, ⟨C, hC⟩, hk⟩ := p_popR_e hk
    exact fun H locs ls hL hP hD hS => W.widen hmc hms (vx_ret (W.aret hx hb (hret.trans hC) (Or.inl ⟨C, rfl⟩) (Or.inr ⟨_, rfl⟩) (hQ _ M H locs hk hP hD hS) (fun q hq => hAf _ (hS.2.2 q hq)) hd))
  case return_ =>
    obtain rfl : len = 1 := hc; obtain ⟨rfl, hty, hk⟩ := hk
    exact fun H locs ls hL hP hD hS => W.widen hmc hms (vx_ret (W.vret hx hb (hret.trans hty) (hQ none M H locs hk hP hD hS) (fun q hq => hAf _ (hS.2.2 q hq)) hd))
  case athrow =>
    obtain rfl : len = 1 := hc; obtain ⟨k, r, rfl, hk⟩ := p_popR_e hk; obtain ⟨fs, hfs, hk⟩ := p_obj_e hk
    intro H locs ls hL hP hD hS
    obtain ⟨T, N, hcl, hce⟩ := hkind0 k fs hfs
    obtain ⟨ce, hce, hcv⟩ := hce H hP
    obtain ⟨cell, r1, r2, r3⟩ := va_recv hK hP hcl (p_w_get hfs)
    cases Option.some.inj (hce.symm.trans r1)
    exact w_athrow hx hb hd (hth _ _ hk H locs ls _ _ _ hL hP hD hS hce hcv r3)
  all_goals exact hk.elim
end PS2
end
section
/-! Methods: what the pure machine says of a method is a contract of the real one. -/
/-- name, bytes, locals, answer's type, table of handlers, resolved code, handlers by place, the receiver's kind, how many parameters -/
abbrev PMeth : Type := MethodName × ByteArray × Nat × Option FieldType × List (Nat × Nat × Nat × Nat) × PCode × (Nat → Option (Nat × Nat)) × Option Nat × Nat
abbrev PMeth.y (q : PMeth) : MethodName := q.1
abbrev PMeth.bytes (q : PMeth) : ByteArray := q.2.1
abbrev PMeth.maxL (q : PMeth) : Nat := q.2.2.1
abbrev PMeth.ret (q : PMeth) : Option FieldType := q.2.2.2.1
abbrev PMeth.hh (q : PMeth) : List (Nat × Nat × Nat × Nat) := q.2.2.2.2.1
abbrev PMeth.code (q : PMeth) : PCode := q.2.2.2.2.2.1
abbrev PMeth.hn (q : PMeth) : Nat → Option (Nat × Nat) := q.2.2.2.2.2.2.1
abbrev PMeth.rc (q : PMeth) : Option Nat := q.2.2.2.2.2.2.2.1
abbrev PMeth.np (q : PMeth) : Nat := q.2.2.2.2.2.2.2.2
def PMeth.cw (q : PMeth) : Cond := if q.hh = [] then .code q.y q.bytes q.maxL q.ret else .codeWith q.y q.bytes q.maxL q.ret q.hh
/-- how a method may be entered -/
def p_in (Sh : List PSh) (q : PMeth) (as : List Value) : Prop := (p_ent as).length ≤ q.maxL ∧ match q.rc with
  | none => as.length = q.np
  | some ci => as.length = q.np + 1 ∧ ∃ b r fs, as = .ref b :: r ∧ Sh[b]? = some (.inl (ci, fs))
def p_sem (MT : Nat → Option PMeth) (Sh : List PSh) : Nat → PEnv
  | 0 => fun _ _ _ _ => False
  | d + 1 => fun k as M Q => ∃ q, MT k = some q ∧ p_in Sh q as ∧ Ev (Sh, p_sem MT Sh d, q.hn, q.ret, q.code, fun _ _ _ _ => False) Q 0 (p_ent0 q.maxL as) [] M
/-- a handler's table beside its places -/
def p_hok (Ts : List Cond) (own XN : String) (bytes : ByteArray) (nL : Nat) (hh : List (Nat × Nat × Nat × Nat)) (hn : Nat → Option (Nat × Nat)) : Prop :=
  (∀ pc, hn pc = none → ∀ x ∈ tableOf hh, covers x pc = false) ∧
  ∀ pc p2 i, hn pc = some (p2, i) → ∃ pre x suf, tableOf hh = pre ++ x :: suf ∧ (∀ z ∈ pre, covers z pc = false) ∧ covers x pc = true ∧ x.catchType ≠ 0 ∧ Cond.classLink own x.catchType XN ∈ Ts ∧ i < nL ∧
    ((∃ k : Fin 4, (k : Nat) = i ∧ decode bytes x.handlerPc = .ok (.astore_n k, 1) ∧ p2 = x.handlerPc + 1) ∨ (decode bytes x.handlerPc = .ok (.astore i, 2) ∧ p2 = x.handlerPc + 2))
/-- a call's entry -/
def p_cok (cl : List vw_C) (Ts : List Cond) (MT : Nat → Option PMeth) (own : String) (st : Bool) (idx k n : Nat) : Prop := ∃ q, MT k = some q ∧ Cond.methodLink own idx q.y ∈ Ts ∧ Cond.initialized q.y.cls ∈ Ts ∧ q.cw ∈ Ts ∧ (q.y.cls ≠ "java/lang/invoke/MethodHandle" ∧ q.y.cls ≠ "java/lang/invoke/VarHandle") ∧ (parseMethodDescriptor q.y.desc).map (fun d => d.parameters.length) = some q.np ∧
  match st with
  | true => q.rc = none ∧ n = q.np ∧ Cond.static q.y ∈ Ts
  | false => n = q.np + 1 ∧ Cond.instanceMethod q.y ∈ Ts ∧ Cond.selects q.y.cls q.y q.y ∈ Ts ∧ ∃ ci T N, q.rc = some ci ∧ cl[ci]? = some (q.y.cls, T, N)
/-- a static call: of Math, or of a method of the table -/
def p_csx (cl : List vw_C) (Ts : List Cond) (MT : Nat → Option PMeth) (own : String) (i k n : Nat) : Prop := if n = 1000 then p_mw Ts own i Lib.Math.max.name p_mmax else if n = 1001 then p_mw Ts own i Lib.MathLoose.abs_long.x p_mabs else p_cok cl Ts MT own true i k n
/-- what is checked of a method -/
def p_mok (cl : List vw_C) (Ts : List Cond) (MT : Nat → Option PMeth) (XN : String) (q : PMeth) : Prop :=
  plainName q.y.cls = true ∧ p_hok Ts q.y.cls XN q.bytes q.maxL q.hh q.hn ∧
  ∀ pc ins nx a0 b0 ts0 cv, q.code pc = some (ins, nx, a0, b0, ts0, cv) → ∃ len, decode q.bytes pc = .ok (ins, len) ∧ nx = pc + len ∧ p_chk cl Ts q.y.cls q.maxL pc ins len a0 b0 ts0 cv ∧ (∀ i, ins = .invokevirtual i → p_cok cl Ts MT q.y.cls false i a0 b0) ∧ (∀ i, ins = .invokestatic i → p_csx cl Ts MT q.y.cls i a0 b0)
def p_A (ρ : Nat → Nat) (n sz : Nat) : Nat → Prop := fun q => (∃ k, k < n ∧ q = ρ k) ∨ sz ≤ q
def p_Pc (cl : List vw_C) (Sh : List PSh) (ρ : Nat → Nat) (cA : Nat → ClassId) (D : va_G) (tys : List (ClassId × FieldType)) (sz : Nat) (as : List Value) (M : PM) : Array Value → State → Prop :=
  va_Pc (as.map (rv ρ)) (fun U => U.heap.size = sz ∧ va_P D cl (p_w ρ cA Sh M) U.heap ∧ va_K D cl tys U ∧ va_D (fun _ => True) (p_w ρ cA Sh M))
def p_Qc (cl : List vw_C) (Sh : List PSh) (ρ : Nat → Nat) (cA : Nat → ClassId) (D : va_G) (sz : Nat) (Q0 : Option (Option Value) → PM → Prop) : Array Value → State → Outcome → State → Prop :=
  fun _ st o t => (∃ v M', o = .returned (v.map (rv ρ)) ∧ Q0 (some v) M' ∧ va_P D cl (p_w ρ cA Sh M') t.heap) ∧ va_F (p_A ρ Sh.length sz) st t
def p_XC (cl : List vw_C) (Sh : List PSh) (XN : String) (ρ : Nat → Nat) (cA : Nat → ClassId) (D : va_G) (sz : Nat) (Q0 : Option (Option Value) → PM → Prop) : String → State → State → Prop :=
  fun E st t => E = XN ∧ (∃ M', Q0 none M' ∧ va_P D cl (p_w ρ cA Sh M') t.heap) ∧ va_F (p_A ρ Sh.length sz) st t
def p_rm (K9 d : Nat) : Room := { frames := d, cells := 0, slots := 0, locals := d * K9 }
/-- the contract of every method at depth d -/
def p_CT (l : Launch) (cl : List vw_C) (Ts : List Cond) (MT : Nat → Option PMeth) (Sh : List PSh) (XN : String) (K9 d : Nat) : Prop :=
  ∀ k q, MT k = some q → ∀ (ρ : Nat → Nat) (cA : Nat → ClassId) (D : va_G) (tys : List (ClassId × FieldType)) (sz : Nat) (as : List Value) (M : PM) (Q0 : Option (Option Value) → PM → Prop), p_shok cl tys cA Sh → p_sem MT Sh d k as M Q0 →
    vx_Met l q.y (q.cw :: Ts) (p_rm K9 d) (p_Pc cl Sh ρ cA D tys sz as M) (p_Qc cl Sh ρ cA D sz Q0) (p_XC cl Sh XN ρ cA D sz Q0) 0 0 (p_A ρ Sh.length sz)
theorem p_w_D {A : Nat → Prop} {ρ : Nat → Nat} {cA : Nat → ClassId} {Sh : List PSh} {M M' : PM} (h : va_D A (p_w ρ cA Sh M)) : va_D A (p_w ρ cA Sh M') := by
  have key : ∀ (k : Nat) (q : Nat × va_E), (p_w ρ cA Sh M')[k]? = some q → ∃ q0, (p_w ρ cA Sh M)[k]? = some q0 ∧ q0.1 = q.1 := by
    intro k q hq
    obtain ⟨sh, hs, rfl⟩ := p_w_inv hq
    exact ⟨_, p_w_get hs, rfl⟩
  refine ⟨fun i j x y hi hj hxy => ?_, fun k q hk => ?_⟩
  · obtain ⟨x0, h1, h2⟩ := key i x hi
    obtain ⟨y0, h3, h4⟩ := key j y hj
    exact h.1 i j x0 y0 h1 h3 (h2.trans (hxy.trans h4.symm))
  · obtain ⟨q0, h1, h2⟩ := key k q hk
    rw [← h2]
    exact h.2 k q0 h1
theorem p_A_in {A : Nat → Prop} {ρ : Nat → Nat} {cA : Nat → ClassId} {Sh : List PSh} {M : PM} {sz : Nat} (h : va_D A (p_w ρ cA Sh M)) (hA : ∀ q, sz ≤ q → A q) : ∀ q, p_A ρ Sh.length sz q → A q := by
  rintro q (⟨k, hk, rfl⟩ | h2)
  · exact h.2 k _ (p_w_get (List.getElem?_eq_getElem hk))
  · exact hA q h2
theorem p_blind {cl : List vw_C} {Sh : List PSh} {ρ : Nat → Nat} {cA : Nat → ClassId} {D : va_G} {tys : List (ClassId × FieldType)} {sz : Nat} {as : List Value} {M : PM} : FrameBlind (p_Pc cl Sh ρ cA D tys sz as M) := by
  rintro a U g mk ⟨h1, h2, h3, h4, h5⟩
  exact ⟨h1, h2, h3, va_K.moved (u := U) (U := U.calling g mk a) (Vm.Alike.refl U.vm) h4, h5⟩
theorem cw_code {q : PMeth} (h : q.hh = []) : q.cw = .code q.y q.bytes q.maxL q.ret := if_pos h
theorem cw_with {q : PMeth} (h : ¬ q.hh = []) : q.cw = .codeWith q.y q.bytes q.maxL q.ret q.hh := if_neg h
theorem goodIn_all {Ts : List Cond} (hg : ∀ w ∈ Ts, goodWord w = true) {w : Cond} (h : w ∈ Ts) : w ∈ Ts ∧ ((w.onTables && w.keeps) = true ∨ ∃ ty, w = .arrayClass ty) := ⟨h, good_of_word (hg w h)⟩
section PCALL
variable {p : Program} {l : Launch} {e : Env} {R : Room} {s : State} {m : MethodId} {args : Array Value} {below : List Frame} {meth : Method} {c : Code} {H0 : Heap} {cells slots mc ms : Nat} {D : va_G} {cl : List vw_C} {tys : List (ClassId × FieldType)} {A : Nat → Prop} {ρ : Nat → Nat} {cA : Nat → ClassId} {Sh : List PSh} {cc : ByteArray} {nL : Nat} {own : String} {Ts : List Cond} {Qw : State → Prop} {MT : Nat → Option PMeth} {XN : String} {K9 d : Nat}
set_option maxHeartbeats 4000000 in
theorem p_call (CT : p_CT l cl Ts MT Sh XN K9 d) (S : CallFix p m c cc nL s args Ts own) (hg : ∀ w ∈ Ts, goodWord w = true) (hK : va_K D cl tys s) (hsh : p_shok cl tys cA Sh) (hAn : ∀ q, H0.size ≤ q → A q) (hRf : d + 1 ≤ R.frames) (hRl : ∀ k q, MT k = some q → 8 + (q.maxL + 11) + d * K9 ≤ R.locals) (hRc : cells ≤ R.cells) (hRs : slots ≤ R.slots)
    {pc : Nat} {ins : Instr} {idx k n : Nat} {st9 : Bool} (hins : ins = if st9 then .invokestatic idx else .invokevirtual idx) (hd : decode cc pc = .ok (ins, 3)) (hcok : p_cok cl Ts MT own st9 idx k n)
    {L : List (Option Value)} {st : List Value} {M : PM} {Q0 : Option (Option Value) → PM → Prop} (hcat : ((st.drop n).map fun v => v.category).sum ≤ 8) (hE : p_sem MT Sh d k (st.take n).reverse M Q0)
    (kr : ∀ v M', Q0 (some v) M' → p_sm p l e R s m args below meth c H0 cells slots Qw D cl A ρ cA Sh nL (pc + 3) L (v.toList ++ st.drop n) M')
    (kx : ∀ M', Q0 none M' → p_sx p l e R s m args below meth c H0 cells slots Qw D cl A ρ cA Sh nL XN pc L M') :
    p_sm p l e R s m args below meth c H0 cells slots Qw D cl A ρ cA Sh nL pc L st M := by
  intro H locs ls hL hP hD hS
  obtain ⟨q, hq, hlk, hini, hcw, hy, hdesc, hkind⟩ := hcok
  have hin : p_in Sh q (st.take n).reverse := by
    cases d with
    | zero => exact hE.elim
    | succ d =>
      obtain ⟨q', hq', h1, -⟩ := hE
      cases Option.some.inj (hq.symm.trans hq')
      exact h1
  have hM := CT k q hq ρ cA D tys H.size (st.take n).reverse M Q0 hsh hE
  have hb0 : FrameBlind (p_Pc cl Sh ρ cA D tys H.size (st.take n).reverse M) := p_blind
  have hPc : ∀ U : State, U.heap = H → s.WarmedH U.vm → p_Pc cl Sh ρ cA D tys H.size (st.take n).reverse M ((st.take n).reverse.map (rv ρ)).toArray U := fun U hU hW => ⟨rfl, by rw [hU], by rw [hU]; exact hP, va_K.moved hW.alike hK, hD.weaken (fun _ _ _ _ => trivial)⟩
  have hws : ∀ w ∈ q.cw :: Ts, ∀ (a' : Array Value) (U : State), s.WarmedH U.vm → w.before a' U = true := pay_in S.2.2.2.2 (fun w hw => (List.mem_cons.mp hw).elim (fun h9 => by rw [h9]; exact goodIn_all hg hcw) (fun h9 => goodIn_all hg h9))
  have hfr : (p_rm K9 d).frames + 1 ≤ R.frames := hRf
  have hlo : 8 + (q.maxL + 11) + (p_rm K9 d).locals ≤ R.locals := hRl k q hq
  have hsig : ∀ sig, parseMethodDescriptor q.y.desc = some sig → q.np = sig.parameters.length := fun sig h9 => by rw [h9] at hdesc; exact (Option.some.inj hdesc).symm
  have hst : st.map (rv ρ) = (st.take n).map (rv ρ) ++ (st.drop n).map (rv ρ) := by rw [← List.map_append, List.take_append_drop]
  have hcat' : (((st.drop n).map (rv ρ)).map fun v => v.category).sum ≤ 8 := by
    rw [List.map_map, show (fun v : Value => v.category) ∘ rv ρ = fun v => v.category from funext fun v => rv_cat ρ v]; exact hcat
  have hrun : vx_Run p l e R s m args below meth c H locs cells slots 0 0 (F0 m pc ls (st.map (rv ρ))) ((st.drop n).map (rv ρ)) (p_Qc cl Sh ρ cA D H.size Q0 ((st.take n).reverse.map (rv ρ)).toArray) (p_XC cl Sh XN ρ cA D H.size Q0) (p_A ρ Sh.length H.size) := by
    cases st9 with
    | true =>
      obtain ⟨hrc, hn, hstat⟩ := hkind
      subst hins
      have hlen : ((st.take n).reverse.map (rv ρ)).length = q.np := by
        have h2 := hin.2
        rw [hrc] at h2
        rw [List.length_map]; exact h2
      by_cases hh : q.hh = []
      · rw [cw_code hh] at hM hws hcw
        exact vx_runS S hM ⟨⟨rfl, rfl, hfr, hlo, hws, List.mem_cons_self, S.2.2.2.2 _ hcw, S.2.2.2.2 _ hini, hy, hsig, S.2.2.2.2 _ hlk⟩, S.2.2.2.2 _ hstat⟩ ⟨hb0, hPc⟩ rfl hlen hL.2.1 (by show st.map (rv ρ) = _; rw [hst, ← List.map_reverse, List.reverse_reverse]) (lv_room hcat') hd ⟨hRc, hRs⟩
      · rw [cw_with hh] at hM hws hcw
        exact vx_runSX S hM ⟨⟨rfl, rfl, hfr, hlo, hws, List.mem_cons_self⟩, S.2.2.2.2 _ hcw, S.2.2.2.2 _ hini, hy, hsig, S.2.2.2.2 _ hlk, S.2.2.2.2 _ hstat⟩ ⟨hb0, hPc⟩ rfl hlen hL.2.1 (by show st.map (rv ρ) = _; rw [hst, ← List.map_reverse, List.reverse_reverse]) (lv_room hcat') hd ⟨hRc, hRs⟩
    | false =>
      obtain ⟨hn, hinst, hsel, ci, T, N, hrc, hcl⟩ := hkind
      subst hins
      have h2 := hin.2
      rw [hrc] at h2
      obtain ⟨hlen, b, r, fs, has, hfs⟩ := h2
      have hrecv := va_recv hK hP hcl (p_w_get hfs)
      have hlen' : (r.map (rv ρ)).length = q.np := by rw [List.length_map]; rw [has] at hlen; simpa using hlen
      have hstk : st.map (rv ρ) = (r.map (rv ρ)).reverse ++ .ref (ρ b) :: (st.drop n).map (rv ρ) := by
        have h9 : st.take n = (.ref b :: r).reverse := by rw [← has, List.reverse_reverse]
        rw [hst, h9]
        simp [rv]
      have hPc' : ∀ U : State, U.heap = H → s.WarmedH U.vm → p_Pc cl Sh ρ cA D tys H.size (st.take n).reverse M (Value.ref (ρ b) :: r.map (rv ρ)).toArray U := fun U hU hW => by have h9 := hPc U hU hW; rw [has] at h9 ⊢; exact h9
      have e9 : ((st.take n).reverse.map (rv ρ)).toArray = (Value.ref (ρ b) :: r.map (rv ρ)).toArray := by rw [has]; rfl
      rw [e9]
      by_cases hh : q.hh = []
      · rw [cw_code hh] at hM hws hcw
        exact vx_runV S hM ⟨⟨rfl, rfl, hfr, hlo, hws, List.mem_cons_self, S.2.2.2.2 _ hcw, S.2.2.2.2 _ hini, hy, hsig, S.2.2.2.2 _ hlk⟩, S.2.2.2.2 _ hinst, S.2.2.2.2 _ hsel⟩ ⟨hb0, hrecv, hPc'⟩ rfl hlen' hL.2.1 hstk (lv_room hcat') hd ⟨hRc, hRs⟩
      · rw [cw_with hh] at hM hws hcw
        exact vx_runVX S hM ⟨⟨rfl, rfl, hfr, hlo, hws, List.mem_cons_self⟩, S.2.2.2.2 _ hcw, S.2.2.2.2 _ hini, hy, hsig, S.2.2.2.2 _ hlk, S.2.2.2.2 _ hinst, S.2.2.2.2 _ hsel⟩ ⟨hb0, hrecv, hPc'⟩ rfl hlen' hL.2.1 hstk (lv_room hcat') hd ⟨hRc, hRs⟩
  have hA1 : ∀ q, q < H.size → p_A ρ Sh.length H.size q → A q := fun q9 _ h9 => p_A_in hD (fun z hz => hAn z (Nat.le_trans hS.1 hz)) q9 h9
  have hA2 : ∀ q, p_A ρ Sh.length H.size q → A q := fun q9 h9 => p_A_in hD (fun z hz => hAn z (Nat.le_trans hS.1 hz)) q9 h9
  intro T hT X
  rcases hrun T hT X with ⟨v, st₀, t, T', L9, h0, X', hL9, e1, e2, ⟨⟨v', M', hv, hq0, hP'⟩, hF⟩, hgo⟩ | ⟨q9, st₀, t, T', L9, E9, ce, h0, X', hL9, e1, e2, ⟨hE9, ⟨M', hq0, hP'⟩, hF⟩, hce, hcv, hcl9, hgo⟩
  · cases hv
    obtain ⟨k1, k2, k3⟩ := vx_keep h0 e1 hS hA1 hA2 hL9 hF
    obtain ⟨t2, a1, b1⟩ := kr v' M' hq0 T'.heap (locs ++ L9) ls hL (by rw [e1]; exact hP') (p_w_D hD) k3 T' rfl X'
    refine ⟨t2, hgo t2 ?_, b1⟩
    have e7 : (v'.map (rv ρ)).toList ++ (st.drop n).map (rv ρ) = (v'.toList ++ st.drop n).map (rv ρ) := by cases v' <;> simp
    rw [e7]
    exact a1
  · subst hE9
    obtain ⟨k1, k2, k3⟩ := vx_keep h0 e1 hS hA1 hA2 hL9 hF
    obtain ⟨t2, a1, b1⟩ := kx M' hq0 T'.heap (locs ++ L9) ls ((st.drop n).map (rv ρ)) q9 ce hL (by rw [e1]; exact hP') (p_w_D hD) k3 (by rw [e1]; exact hce) hcv hcl9 T' rfl X'
    exact ⟨t2, hgo.trans a1, b1⟩
end PCALL
end
section
/-! The induction over the depth of calls. -/
theorem lv_args_mem {ρ : Nat → Nat} : ∀ (vs : List Value) (i j : Nat) (v : Value), (p_ent vs)[j]? = some (some v) → (i + j, rv ρ v) ∈ lv_args i (vs.map (rv ρ))
  | [], _, _, _, h => by simp [p_ent] at h
  | w :: vs, i, j, v, h => by
    have key : ∀ (hc : w.category = 1), p_ent (w :: vs) = some w :: p_ent vs := fun hc => by cases w <;> first | rfl | simp [Value.category] at hc
    have key2 : ∀ (hc : w.category = 2), p_ent (w :: vs) = some w :: none :: p_ent vs := fun hc => by cases w <;> first | rfl | simp [Value.category] at hc
    show _ ∈ (i, rv ρ w) :: lv_args (if (rv ρ w).category = 2 then i + 2 else i + 1) (vs.map (rv ρ))
    rcases lv_cat w with hc | hc
    · rw [key hc] at h
      rw [rv_cat, if_neg (by omega)]
      cases j with
      | zero => cases h; exact List.mem_cons_self
      | succ j =>
        have := lv_args_mem (ρ := ρ) vs (i + 1) j v h
        rw [show i + (j + 1) = i + 1 + j by omega]
        exact List.mem_cons_of_mem _ this
    · rw [key2 hc] at h
      rw [rv_cat, if_pos hc]
      rcases j with _ | _ | j
      · cases h; exact List.mem_cons_self
      · cases h
      · have := lv_args_mem (ρ := ρ) vs (i + 2) j v h
        rw [show i + (j + 2) = i + 2 + j by omega]
        exact List.mem_cons_of_mem _ this
theorem p_ent_sl {ρ : Nat → Nat} : ∀ vs : List Value, (lg_sl (vs.map (rv ρ))).length = (p_ent vs).length
  | [] => rfl
  | w :: vs => by
    have ih := p_ent_sl (ρ := ρ) vs
    have e : lg_sl ((w :: vs).map (rv ρ)) = (if (rv ρ w).category = 2 then [.val (rv ρ w), .second] else [.val (rv ρ w)]) ++ lg_sl (vs.map (rv ρ)) := rfl
    rw [e, List.length_append, ih]
    cases w <;> simp [rv, Value.category, p_ent] <;> omega
theorem p_entry {ρ : Nat → Nat} {n : Nat} {vs : List Value} (h : (p_ent vs).length ≤ n) : p_Lr ρ n (p_ent0 n vs) ((lg_sl (vs.map (rv ρ)) ++ List.replicate (n - (lg_sl (vs.map (rv ρ))).length) Slot.unset).toArray) := by
  have h1 := lv_entry (vs.map (rv ρ)) (n := n) (by rw [p_ent_sl]; exact h)
  refine ⟨by simp [p_ent0]; omega, h1.1, h1.2.1, fun q hq => ?_⟩
  obtain ⟨j, w⟩ := q
  obtain ⟨v, hv, rfl⟩ := lvl_mem.mp hq
  refine h1.2.2 (j, rv ρ v) ?_
  have hv' : (p_ent vs)[j]? = some (some v) := by
    unfold p_ent0 at hv
    by_cases hj : j < (p_ent vs).length
    · rw [List.getElem?_append_left hj] at hv; exact hv
    · rw [List.getElem?_append_right (by omega), List.getElem?_replicate] at hv
      split at hv <;> cases hv
  have := lv_args_mem (ρ := ρ) vs 0 j v hv'
  rwa [Nat.zero_add] at this
section PTH
variable {p : Program} {l : Launch} {e : Env} {R : Room} {s : State} {m : MethodId} {args : Array Value} {below : List Frame} {meth : Method} {c : Code} {H0 : Heap} {cells slots mc ms : Nat} {D : va_G} {cl : List vw_C} {tys : List (ClassId × FieldType)} {A free : Nat → Prop} {ρ : Nat → Nat} {cA : Nat → ClassId} {Sh : List PSh} {cc : ByteArray} {nL : Nat} {own : String} {Ts : List Cond} {MT : Nat → Option PMeth} {XN : String} {K9 d : Nat} {Qc : Array Value → State → Outcome → State → Prop} {XC : String → State → State → Prop}
theorem p_throw {hh : List (Nat × Nat × Nat × Nat)} {hn : Nat → Option (Nat × Nat)} (S : CallFix p m c cc nL s args Ts own) (htab : c.exceptionTable.toList = tableOf hh) (hok : p_hok Ts own XN cc nL hh hn) (hlocks : meth.locks = false) (hmc : cells ≤ mc) (hms : slots ≤ ms) (hAf : ∀ q, A q → free q)
    {K : Nat → List (Option Value) → List Value → PM → Prop} {Qp : Option (Option Value) → PM → Prop}
    (hKK : ∀ pc L st M, K pc L st M → p_sm p l e R s m args below meth c H0 cells slots (vx_MQ below Qc XC args s mc ms free) D cl A ρ cA Sh nL pc L st M)
    (hX : ∀ (M : PM) (H : Heap) (locs : List Loc), Qp none M → va_P D cl (p_w ρ cA Sh M) H → va_D A (p_w ρ cA Sh M) → va_S A H0 H locs → ∀ t : State, t.heap = H → s.vm.Alike t.vm → XC XN s t)
    {pc : Nat} {L : List (Option Value)} {M : PM} (h : p_th hn pc L M K Qp) : p_sx p l e R s m args below meth c H0 cells slots (vx_MQ below Qc XC args s mc ms free) D cl A ρ cA Sh nL XN pc L M := by
  intro H locs ls rest q ce hL hP hD hS hce hcv hcl
  obtain ⟨hx, hb, hml, hown, hts⟩ := S
  unfold p_th at h
  split at h
  · rename_i p2 i hi
    obtain ⟨pre, x, suf, h1, h2, h3, h4, h5, h7, h8⟩ := hok.2 pc p2 i hi
    refine vx_catch hown pre x suf (htab.trans h1) h2 h3 h4 (hts _ h5) hce hcv hcl ?_
    rcases h8 with ⟨k, hk, hd, rfl⟩ | ⟨hd, rfl⟩
    · exact lv_astore_n hx hb hd hk hL.2 h7 rfl (fun ls' hl' => hKK _ _ _ _ h H locs ls' (hL.set1 h7 (fun w hw => by cases hw) hl') hP hD hS)
    · exact lv_astore hx hb hd hL.2 h7 rfl (fun ls' hl' => hKK _ _ _ _ h H locs ls' (hL.set1 h7 (fun w hw => by cases hw) hl') hP hD hS)
  · rename_i hi
    exact vx_out (fun x hx9 => hok.1 pc hi x (by rw [← htab]; exact hx9)) hlocks hce hcv hcl (fun t ht ha => hX M H locs h hP hD hS t ht ha) (fun z hz => hAf _ (hS.2.2 z hz)) hmc hms
/-- the walk of a body: from a point where the pure machine goes through, the real one does, up to where the pure code ends -/
theorem p_body {q : PMeth} {X9 : Nat → List (Option Value) → List Value → PM → Prop} (CT : p_CT l cl Ts MT Sh XN K9 d) (S : CallFix p m c q.bytes q.maxL s args Ts q.y.cls) (hg : ∀ w ∈ Ts, goodWord w = true) (hK : va_K D cl tys s) (hsh : p_shok cl tys cA Sh) (hAn : ∀ q, H0.size ≤ q → A q) (hRf : d + 1 ≤ R.frames) (hRl : ∀ k q, MT k = some q → 8 + (q.maxL + 11) + d * K9 ≤ R.locals) (hRc : cells ≤ R.cells) (hRs : slots ≤ R.slots) (hR21 : 21 ≤ R.locals)
    (hmok : p_mok cl Ts MT XN q) (htab : c.exceptionTable.toList = tableOf q.hh) (hlocks : meth.locks = false) (hret : meth.sig.returnType = q.ret) (hmc : cells ≤ mc) (hms : slots ≤ ms) (hAf : ∀ q, A q → free q)
    (hkind0 : ∀ (k : Nat) (fs : List (Nat ⊕ FieldType)), Sh[k]? = some (.inl (p_xc, fs)) → ∃ T N, cl[p_xc]? = some (XN, T, N))
    {Qp : Option (Option Value) → PM → Prop}
    (hX9 : ∀ pc L st M, X9 pc L st M → p_sm p l e R s m args below meth c H0 cells slots (vx_MQ below Qc XC args s mc ms free) D cl A ρ cA Sh q.maxL pc L st M)
    (hX : ∀ (M : PM) (H : Heap) (locs : List Loc), Qp none M → va_P D cl (p_w ρ cA Sh M) H → va_D A (p_w ρ cA Sh M) → va_S A H0 H locs → ∀ t : State, t.heap = H → s.vm.Alike t.vm → XC XN s t)
    (hQ : ∀ (v : Option Value) (M : PM) (H : Heap) (locs : List Loc), Qp (some v) M → va_P D cl (p_w ρ cA Sh M) H → va_D A (p_w ρ cA Sh M) → va_S A H0 H locs → ∀ t : State, t.heap = H → s.WarmedH t.vm → Qc args s (.returned (v.map (rv ρ))) t)
    {pc : Nat} {L : List (Option Value)} {st : List Value} {M : PM} (h : Ev (Sh, p_sem MT Sh d, q.hn, q.ret, q.code, X9) Qp pc L st M) :
    p_sm p l e R s m args below meth c H0 cells slots (vx_MQ below Qc XC args s mc ms free) D cl A ρ cA Sh q.maxL pc L st M := by
  refine h (p_sm p l e R s m args below meth c H0 cells slots (vx_MQ below Qc XC args s mc ms free) D cl A ρ cA Sh q.maxL) (fun pc L st M hs => ?_)
  unfold p_st at hs
  split at hs
  · exact hX9 _ _ _ _ hs
  · rename_i ins nx a0 b0 ts0 cv hcode
    obtain ⟨len, hd, hnx, hchk, hcv, hcs⟩ := hmok.2.2 pc ins nx a0 b0 ts0 cv hcode
    refine p_ex_snd (E := p_sem MT Sh d) (hn := q.hn) (XN := XN) S.1 S.2.1 S.2.2.2.1 S.2.2.2.2 hK hsh hlocks hret hmc hms hAf hd hnx hchk S.2.2.1 ⟨by omega, hR21, hRc, hRs⟩ (fun i hi h0 => by have h8 := hcs i hi; unfold p_csx at h8; rw [if_pos h0] at h8; exact h8) (fun i hi h0 => by have h8 := hcs i hi; unfold p_csx at h8; rw [if_neg (by omega), if_pos h0] at h8; exact h8) ?_ (fun _ _ _ _ h9 => h9) ?_ (fun L M h9 => p_throw S htab hmok.2.1 hlocks hmc hms hAf (fun _ _ _ _ h8 => h8) hX h9) hQ hs
    · intro k fs hfs
      obtain ⟨T, N, hcl⟩ := hkind0 k fs hfs
      refine ⟨T, N, hcl, fun H hP => ?_⟩
      obtain ⟨r, -, cell, hc1, hc2, hc3, -⟩ := hP k _ (p_w_get hfs)
      exact ⟨cell, hc1, hc3⟩
    · rintro k n L st M Q0 ⟨i, hi⟩ rfl rfl hcat hE kr kx
      rcases hi with rfl | ⟨rfl, n0, n1⟩
      · have hlen : len = 3 := hchk
        subst hlen
        exact p_call CT S hg hK hsh hAn hRf hRl hRc hRs (st9 := false) rfl hd (hcv i rfl) hcat hE kr kx
      · have hlen : len = 3 := hchk
        subst hlen
        exact p_call CT S hg hK hsh hAn hRf hRl hRc hRs (st9 := true) rfl hd (by have h8 := hcs i rfl; unfold p_csx at h8; rw [if_neg n0, if_neg n1] at h8; exact h8) hcat hE kr kx
end PTH
theorem p_ct {l : Launch} {cl : List vw_C} {Ts : List Cond} {MT : Nat → Option PMeth} {Sh : List PSh} {XN : String} {K9 : Nat} (hg : ∀ w ∈ Ts, goodWord w = true) (hmok : ∀ k q, MT k = some q → p_mok cl Ts MT XN q) (hK9 : ∀ k q, MT k = some q → q.maxL + 19 ≤ K9 ∧ 21 ≤ K9)
    (hkind0 : ∀ (k : Nat) (fs : List (Nat ⊕ FieldType)), Sh[k]? = some (.inl (p_xc, fs)) → ∃ T N, cl[p_xc]? = some (XN, T, N)) : ∀ d, p_CT l cl Ts MT Sh XN K9 d := by
  intro d
  induction d with
  | zero => intro k q hq ρ cA D tys sz as M Q0 hsh hE; exact hE.elim
  | succ d CT =>
    intro k q hq ρ cA D tys sz as M Q0 hsh hE
    obtain ⟨q', hq', hin, hev⟩ := hE
    cases Option.some.inj (hq.symm.trans hq')
    have hm := hmok k q hq
    have body : ∀ (p : Program) (e : Env) (s : State) (m : MethodId) (args : Array Value) (below : List Frame) (meth : Method) (c : Code) (s₁ : State), BodyLoose p l q.y (headSpec (q.cw :: Ts) (p_rm K9 (d + 1))) q.bytes q.maxL q.ret e s m args below meth c s₁ → c.maxLocals = q.maxL → c.exceptionTable.toList = tableOf q.hh → p_Pc cl Sh ρ cA D tys sz as M args s →
        W p l e (headSpec (q.cw :: Ts) (p_rm K9 (d + 1))).room s m args below meth c s.heap [] 0 0 (vx_MQ below (p_Qc cl Sh ρ cA D sz Q0) (p_XC cl Sh XN ρ cA D sz Q0) args s 0 0 (p_A ρ Sh.length sz)) (entryFrame m args q.maxL) := by
      intro p e s m args below meth c s₁ B hml htab hPc
      obtain ⟨rfl, hsz, hP, hK, hD⟩ := hPc
      subst hsz
      have hts0 := atoms_spec (ws := q.cw :: Ts) B.pre
      have hts : ∀ w ∈ Ts, w.before (as.map (rv ρ)).toArray s = true := fun w hw => hts0 w (List.mem_cons_of_mem _ hw)
      have hown : s.vm.findClass q.y.cls = some m.cls := findClass_of_methodNamed B.named
      have hDA : va_D (p_A ρ Sh.length s.heap.size) (p_w ρ cA Sh M) := hD.weaken (fun k9 q9 hk9 _ => by
        obtain ⟨sh, hs, rfl⟩ := p_w_inv hk9
        exact Or.inl ⟨k9, (List.getElem?_eq_some_iff.mp hs).1, rfl⟩)
      rw [lg_entry_eq]
      refine p_body (d := d) (H0 := s.heap) (A := p_A ρ Sh.length s.heap.size) (X9 := fun _ _ _ _ => False) CT ⟨B.exec, B.bytes, hml, hown, hts⟩ hg hK hsh (fun q9 h9 => Or.inr h9) (Nat.le_refl _) (fun k9 q9 h9 => ?_) (Nat.zero_le _) (Nat.zero_le _) (by show 21 ≤ (d + 1) * K9; have := (hK9 k q hq).2; rw [Nat.succ_mul]; omega) hm htab B.notSynchronized B.returns (Nat.le_refl 0) (Nat.le_refl 0) (fun _ h9 => h9) hkind0 (Qp := Q0) (fun _ _ _ _ h9 => h9.elim) ?_ ?_ hev s.heap [] _ (p_entry hin.1) hP hDA va_S.rf
      · show 8 + (q9.maxL + 11) + d * K9 ≤ (d + 1) * K9
        have := (hK9 k9 q9 h9).1
        rw [Nat.succ_mul]; omega
      · intro M' H locs hq0 hP' hD' hS' t ht ha
        exact ⟨rfl, ⟨M', hq0, by rw [ht]; exact hP'⟩, hS'.F ht⟩
      · intro v M' H locs hq0 hP' hD' hS' t ht hW
        exact ⟨⟨v, M', rfl, hq0, by rw [ht]; exact hP'⟩, hS'.F ht⟩
    by_cases hh : q.hh = []
    · have e1 := cw_code hh
      rw [e1] at body ⊢
      exact vx_ofW hm.1 rfl (fun p e s m args below meth c s₁ B hml hno hPc => body p e s m args below meth c s₁ B hml (by
        rw [hh]
        exact List.eq_nil_iff_forall_not_mem.mpr (fun x hx => hno x hx)) hPc)
    · have e1 := cw_with hh
      rw [e1] at body ⊢
      exact vx_ofWH hm.1 rfl (fun p e s m args below meth c s₁ B hml hPc => body p e s m args below meth c s₁ B hml (vx_table (x := q.y) B (atoms_spec (ws := _) B.pre _ List.mem_cons_self)) hPc)
end
section
/-! A method's code checked by program. -/
/-- what a call asks of the called method -/
def p_cal (cl : List vw_C) (Ts : List Cond) (MT : Nat → Option PMeth) (st : Bool) (k n : Nat) (y : MethodName) : Prop := ∃ q, MT k = some q ∧ q.y = y ∧ Cond.initialized q.y.cls ∈ Ts ∧ q.cw ∈ Ts ∧ (q.y.cls ≠ "java/lang/invoke/MethodHandle" ∧ q.y.cls ≠ "java/lang/invoke/VarHandle") ∧ (parseMethodDescriptor q.y.desc).map (fun d => d.parameters.length) = some q.np ∧
  match st with
  | true => q.rc = none ∧ n = q.np ∧ Cond.static q.y ∈ Ts
  | false => n = q.np + 1 ∧ Cond.instanceMethod q.y ∈ Ts ∧ Cond.selects q.y.cls q.y q.y ∈ Ts ∧ ∃ ci T N, q.rc = some ci ∧ cl[ci]? = some (q.y.cls, T, N)
theorem p_cal.ok {cl : List vw_C} {Ts : List Cond} {MT : Nat → Option PMeth} {st : Bool} {k n : Nat} {y : MethodName} (h : p_cal cl Ts MT st k n y) {own : String} {idx : Nat} (hl : Cond.methodLink own idx y ∈ Ts) : p_cok cl Ts MT own st idx k n := by
  obtain ⟨q, h1, rfl, h2, h3, h4, h5, h6⟩ := h
  exact ⟨q, h1, hl, h2, h3, h4, h5, h6⟩
/-- a call's entry, virtual or static -/
def p_cx (cl : List vw_C) (Ts : List Cond) (MT : Nat → Option PMeth) (own : String) (st : Bool) (i k n : Nat) : Prop := match st with
  | true => p_csx cl Ts MT own i k n
  | false => p_cok cl Ts MT own false i k n
theorem p_cal.okS {cl : List vw_C} {Ts : List Cond} {MT : Nat → Option PMeth} {k n : Nat} {y : MethodName} (h : p_cal cl Ts MT true k n y) (h0 : n ≠ 1000) (h1 : n ≠ 1001) {own : String} {idx : Nat} (hl : Cond.methodLink own idx y ∈ Ts) : p_cx cl Ts MT own true idx k n := by
  show p_csx cl Ts MT own idx k n
  unfold p_csx
  rw [if_neg h0, if_neg h1]
  exact h.ok hl
def p_ckI (F : List (Nat × Nat × Nat)) (Ml : List (Bool × Nat × Nat × Nat)) (Kc : List (Nat × Int64)) (nL pc : Nat) (ins : Instr) (len : Nat) (a0 b0 : Nat) (ts0 : List Nat) (cv : Value) : Bool := match ins with
  | .iconst n => len == 1 && decide (cv = .int (Int32.ofInt n))
  | .bipush n => len == 2 && decide (cv = .int (Int8.ofInt n).toInt32)
  | .sipush n => len == 3 && decide (cv = .int (Int16.ofInt n).toInt32)
  | .lconst n => len == 1 && decide (cv = .long (Int64.ofNat (n : Nat)))
  | .ldc _ => false
  | .ldc2_w i => len == 3 && (match cv with
    | .long v => decide ((i, v) ∈ Kc)
    | _ => false)
  | .iload_n k => len == 1 && (k : Nat) == a0
  | .lload_n k => len == 1 && (k : Nat) == a0
  | .aload_n k => len == 1 && (k : Nat) == a0
  | .iload k => len == 2 && k == a0
  | .lload k => len == 2 && k == a0
  | .aload k => len == 2 && k == a0
  | .istore_n k => len == 1 && ((k : Nat) == a0 && decide (a0 < nL))
  | .astore_n k => len == 1 && ((k : Nat) == a0 && decide (a0 < nL))
  | .lstore_n k => len == 1 && ((k : Nat) == a0 && decide (a0 + 1 < nL))
  | .istore k => len == 2 && (k == a0 && decide (a0 < nL))
  | .astore k => len == 2 && (k == a0 && decide (a0 < nL))
  | .lstore k => len == 2 && (k == a0 && decide (a0 + 1 < nL))
  | .iinc k n => len == 3 && (k == a0 && (decide (a0 < nL) && decide (cv = .int (Int32.ofInt n))))
  | .ifCond _ off => len == 3 && decide ((pc : Int) + off = (a0 : Int))
  | .if_icmp _ off => len == 3 && decide ((pc : Int) + off = (a0 : Int))
  | .goto off => len == 3 && decide ((pc : Int) + off = (a0 : Int))
  | .tableswitch d lo hi offs => decide ((pc : Int) + d = (a0 : Int)) && (decide (-2147483648 ≤ lo) && (decide (hi ≤ 2147483647) && (decide (hi = lo + ts0.length - 1) && decide (offs.toList.map (fun o => (pc : Int) + o) = ts0.map (fun t : Nat => (t : Int))))))
  | .getfield i => len == 3 && decide ((i, a0, b0) ∈ F)
  | .putfield i => len == 3 && decide ((i, a0, b0) ∈ F)
  | .invokevirtual i => len == 3 && decide ((false, i, a0, b0) ∈ Ml)
  | .invokestatic i => len == 3 && decide ((true, i, a0, b0) ∈ Ml)
  | _ => len == 1
def p_ckB (F : List (Nat × Nat × Nat)) (Ml : List (Bool × Nat × Nat × Nat)) (Kc : List (Nat × Int64)) (nL : Nat) (bytes : ByteArray) (pc : Nat) (o : Option PI) : Bool := match o with
  | none => true
  | some (ins, nx, a0, b0, ts0, cv) => decide (decode bytes pc = .ok (ins, nx - pc)) && (decide (pc ≤ nx) && p_ckI F Ml Kc nL pc ins (nx - pc) a0 b0 ts0 cv)
set_option maxHeartbeats 4000000 in
theorem p_ckI_ok {cl : List vw_C} {Ts : List Cond} {MT : Nat → Option PMeth} {own : String} {F : List (Nat × Nat × Nat)} {Ml : List (Bool × Nat × Nat × Nat)} {Kc : List (Nat × Int64)} {nL pc : Nat} {ins : Instr} {len : Nat} {a0 b0 : Nat} {ts0 : List Nat} {cv : Value}
    (hF : ∀ t ∈ F, p_fok cl Ts own t.1 t.2.1 t.2.2) (hM : ∀ t ∈ Ml, p_cx cl Ts MT own t.1 t.2.1 t.2.2.1 t.2.2.2) (hC : ∀ t ∈ Kc, Cond.constantLong own t.1 t.2 ∈ Ts) (h : p_ckI F Ml Kc nL pc ins len a0 b0 ts0 cv = true) :
    p_chk cl Ts own nL pc ins len a0 b0 ts0 cv ∧ (∀ i, ins = .invokevirtual i → p_cok cl Ts MT own false i a0 b0) ∧ (∀ i, ins = .invokestatic i → p_csx cl Ts MT own i a0 b0) := by
  cases ins
  case ldc => exact Bool.noConfusion h
  case ldc2_w i =>
    simp only [p_ckI, Bool.and_eq_true, beq_iff_eq] at h
    obtain ⟨h1, h2⟩ := h
    cases cv <;> first | exact Bool.noConfusion h2 | skip
    exact ⟨⟨h1, _, rfl, hC _ (of_decide_eq_true h2)⟩, fun _ h9 => Instr.noConfusion h9, fun _ h9 => Instr.noConfusion h9⟩
  case getfield i =>
    simp only [p_ckI, Bool.and_eq_true, beq_iff_eq, decide_eq_true_eq] at h
    exact ⟨⟨h.1, hF _ h.2⟩, fun _ h9 => Instr.noConfusion h9, fun _ h9 => Instr.noConfusion h9⟩
  case putfield i =>
    simp only [p_ckI, Bool.and_eq_true, beq_iff_eq, decide_eq_true_eq] at h
    exact ⟨⟨h.1, hF _ h.2⟩, fun _ h9 => Instr.noConfusion h9, fun _ h9 => Instr.noConfusion h9⟩
  case invokevirtual i =>
    simp only [p_ckI, Bool.and_eq_true, beq_iff_eq, decide_eq_true_eq] at h
    exact ⟨h.1, fun _ h9 => by cases h9; exact hM _ h.2, fun _ h9 => Instr.noConfusion h9⟩
  case invokestatic i =>
    simp only [p_ckI, Bool.and_eq_true, beq_iff_eq, decide_eq_true_eq] at h
    exact ⟨h.1, fun _ h9 => Instr.noConfusion h9, fun _ h9 => by cases h9; exact hM _ h.2⟩
  all_goals (simp only [p_ckI, Bool.and_eq_true, beq_iff_eq, decide_eq_true_eq] at h; exact ⟨h, fun _ h9 => Instr.noConfusion h9, fun _ h9 => Instr.noConfusion h9⟩)
/-- a code's table: nothing from N on, below it all is checked -/
theorem p_ck_ok {cl : List vw_C} {Ts : List Cond} {MT : Nat → Option PMeth} {XN : String} {F : List (Nat × Nat × Nat)} {Ml : List (Bool × Nat × Nat × Nat)} {Kc : List (Nat × Int64)} {q : PMeth} (N : Nat) (hpl : plainName q.y.cls = true) (hh : p_hok Ts q.y.cls XN q.bytes q.maxL q.hh q.hn)
    (hF : ∀ t ∈ F, p_fok cl Ts q.y.cls t.1 t.2.1 t.2.2) (hM : ∀ t ∈ Ml, p_cx cl Ts MT q.y.cls t.1 t.2.1 t.2.2.1 t.2.2.2) (hC : ∀ t ∈ Kc, Cond.constantLong q.y.cls t.1 t.2 ∈ Ts)
    (hN : ∀ pc, ¬ pc < N → q.code pc = none) (h : ∀ pc, pc < N → p_ckB F Ml Kc q.maxL q.bytes pc (q.code pc) = true) : p_mok cl Ts MT XN q := by
  refine ⟨hpl, hh, fun pc ins nx a0 b0 ts0 cv hc => ?_⟩
  have hlt : pc < N := Decidable.byContradiction fun h9 => by rw [hN pc h9] at hc; cases hc
  have h1 := h pc hlt
  rw [hc] at h1
  simp only [p_ckB, Bool.and_eq_true, decide_eq_true_eq] at h1
  obtain ⟨h2, h3, h4⟩ := h1
  obtain ⟨k1, k2, k3⟩ := p_ckI_ok hF hM hC h4
  exact ⟨nx - pc, h2, by omega, k1, k2, k3⟩
theorem p_hok_nil {Ts : List Cond} {own XN : String} {bytes : ByteArray} {nL : Nat} : p_hok Ts own XN bytes nL [] (fun _ => none) :=
  ⟨fun _ _ x hx => (List.not_mem_nil hx).elim, fun _ _ _ h => by cases h⟩
def TS : List Cond := lw_tbl.filter goodWord
theorem TS_good : ∀ w ∈ TS, goodWord w = true := fun w h => (List.mem_filter.mp h).2
theorem mT {w : Cond} (i : Nat) (h : lw_tbl[i]? = some w) (hg : goodWord w = true) : w ∈ TS := List.mem_filter.mpr ⟨List.mem_of_getElem? h, hg⟩
end
section
theorem zz_end : True := trivial
end
