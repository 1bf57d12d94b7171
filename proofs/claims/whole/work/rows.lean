section
-- ===== PART A: goes FIRST, ahead of the names: the tables' words, and 'selects' of the private methods out of them =====
/-- a private method of a class that the tables say can be made, by its rows of tables_1 -/
def lw_okq (q : MethodName × Nat) : Prop := (q.1.cls ≠ "java/lang/invoke/MethodHandle" ∧ q.1.cls ≠ "java/lang/invoke/VarHandle") ∧ Cond.instantiable q.1.cls q.2 ∈ tables_1 ∧ Cond.privateMethod q.1 ∈ tables_1 ∧ Cond.instanceMethod q.1 ∈ tables_1
theorem lw_p0 : lw_okq (⟨"ConsYard$Symbols", "addSign", "(I)V"⟩, 3) := ⟨⟨by decide +kernel, by decide +kernel⟩, List.mem_of_getElem? (i := 104) (by decide +kernel), List.mem_of_getElem? (i := 159) (by decide +kernel), List.mem_of_getElem? (i := 160) (by decide +kernel)⟩
theorem lw_p1 : lw_okq (⟨"ConsYard$Cells", "takeBack", "()V"⟩, 10) := ⟨⟨by decide +kernel, by decide +kernel⟩, List.mem_of_getElem? (i := 174) (by decide +kernel), List.mem_of_getElem? (i := 182) (by decide +kernel), List.mem_of_getElem? (i := 183) (by decide +kernel)⟩
theorem lw_p2 : lw_okq (⟨"ConsYard$Cells", "collect", "(JJ)V"⟩, 10) := ⟨⟨by decide +kernel, by decide +kernel⟩, List.mem_of_getElem? (i := 174) (by decide +kernel), List.mem_of_getElem? (i := 394) (by decide +kernel), List.mem_of_getElem? (i := 395) (by decide +kernel)⟩
theorem lw_p3 : lw_okq (⟨"ConsYard$Cells", "reach", "(J)V"⟩, 10) := ⟨⟨by decide +kernel, by decide +kernel⟩, List.mem_of_getElem? (i := 174) (by decide +kernel), List.mem_of_getElem? (i := 398) (by decide +kernel), List.mem_of_getElem? (i := 399) (by decide +kernel)⟩
theorem lw_p4 : lw_okq (⟨"ConsYard$Cells", "inUse", "()I"⟩, 10) := ⟨⟨by decide +kernel, by decide +kernel⟩, List.mem_of_getElem? (i := 174) (by decide +kernel), List.mem_of_getElem? (i := 413) (by decide +kernel), List.mem_of_getElem? (i := 414) (by decide +kernel)⟩
theorem lw_p5 : lw_okq (⟨"ConsYard$Printer", "printAtom", "(J)V"⟩, 4) := ⟨⟨by decide +kernel, by decide +kernel⟩, List.mem_of_getElem? (i := 312) (by decide +kernel), List.mem_of_getElem? (i := 472) (by decide +kernel), List.mem_of_getElem? (i := 473) (by decide +kernel)⟩
theorem lw_p6 : lw_okq (⟨"ConsYard$Printer", "printNumber", "(I)V"⟩, 4) := ⟨⟨by decide +kernel, by decide +kernel⟩, List.mem_of_getElem? (i := 312) (by decide +kernel), List.mem_of_getElem? (i := 483) (by decide +kernel), List.mem_of_getElem? (i := 484) (by decide +kernel)⟩
theorem lw_p7 : lw_okq (⟨"ConsYard$Printer", "nextElement", "()J"⟩, 4) := ⟨⟨by decide +kernel, by decide +kernel⟩, List.mem_of_getElem? (i := 312) (by decide +kernel), List.mem_of_getElem? (i := 501) (by decide +kernel), List.mem_of_getElem? (i := 502) (by decide +kernel)⟩
theorem lw_p8 : lw_okq (⟨"ConsYard$Printer", "closeList", "(J)V"⟩, 4) := ⟨⟨by decide +kernel, by decide +kernel⟩, List.mem_of_getElem? (i := 312) (by decide +kernel), List.mem_of_getElem? (i := 511) (by decide +kernel), List.mem_of_getElem? (i := 512) (by decide +kernel)⟩
theorem lw_p9 : lw_okq (⟨"java/lang/Throwable", "fillInStackTrace", "(I)Ljava/lang/Throwable;"⟩, 6) := ⟨⟨by decide +kernel, by decide +kernel⟩, List.mem_of_getElem? (i := 568) (by decide +kernel), List.mem_of_getElem? (i := 566) (by decide +kernel), List.mem_of_getElem? (i := 567) (by decide +kernel)⟩
theorem lw_p10 : lw_okq (⟨"ConsYard$Reader", "fail", "(II)V"⟩, 13) := ⟨⟨by decide +kernel, by decide +kernel⟩, List.mem_of_getElem? (i := 218) (by decide +kernel), List.mem_of_getElem? (i := 609) (by decide +kernel), List.mem_of_getElem? (i := 610) (by decide +kernel)⟩
theorem lw_p11 : lw_okq (⟨"ConsYard$Reader", "readSymbol", "()I"⟩, 13) := ⟨⟨by decide +kernel, by decide +kernel⟩, List.mem_of_getElem? (i := 218) (by decide +kernel), List.mem_of_getElem? (i := 613) (by decide +kernel), List.mem_of_getElem? (i := 614) (by decide +kernel)⟩
theorem lw_p12 : lw_okq (⟨"ConsYard$Symbols", "isNamed", "(ILConsYard$Bytes;I)Z"⟩, 3) := ⟨⟨by decide +kernel, by decide +kernel⟩, List.mem_of_getElem? (i := 104) (by decide +kernel), List.mem_of_getElem? (i := 624) (by decide +kernel), List.mem_of_getElem? (i := 625) (by decide +kernel)⟩
theorem lw_p13 : lw_okq (⟨"ConsYard$Reader", "readToken", "()V"⟩, 13) := ⟨⟨by decide +kernel, by decide +kernel⟩, List.mem_of_getElem? (i := 218) (by decide +kernel), List.mem_of_getElem? (i := 633) (by decide +kernel), List.mem_of_getElem? (i := 634) (by decide +kernel)⟩
theorem lw_p14 : lw_okq (⟨"ConsYard$Reader", "openOne", "(I)V"⟩, 13) := ⟨⟨by decide +kernel, by decide +kernel⟩, List.mem_of_getElem? (i := 218) (by decide +kernel), List.mem_of_getElem? (i := 637) (by decide +kernel), List.mem_of_getElem? (i := 638) (by decide +kernel)⟩
theorem lw_p15 : lw_okq (⟨"ConsYard$Reader", "mayBegin", "()Z"⟩, 13) := ⟨⟨by decide +kernel, by decide +kernel⟩, List.mem_of_getElem? (i := 218) (by decide +kernel), List.mem_of_getElem? (i := 641) (by decide +kernel), List.mem_of_getElem? (i := 642) (by decide +kernel)⟩
def lw_privs_1 : List (MethodName × Nat) := [(⟨"ConsYard$Symbols", "addSign", "(I)V"⟩, 3), (⟨"ConsYard$Cells", "takeBack", "()V"⟩, 10), (⟨"ConsYard$Cells", "collect", "(JJ)V"⟩, 10), (⟨"ConsYard$Cells", "reach", "(J)V"⟩, 10), (⟨"ConsYard$Cells", "inUse", "()I"⟩, 10), (⟨"ConsYard$Printer", "printAtom", "(J)V"⟩, 4), (⟨"ConsYard$Printer", "printNumber", "(I)V"⟩, 4), (⟨"ConsYard$Printer", "nextElement", "()J"⟩, 4), (⟨"ConsYard$Printer", "closeList", "(J)V"⟩, 4), (⟨"java/lang/Throwable", "fillInStackTrace", "(I)Ljava/lang/Throwable;"⟩, 6), (⟨"ConsYard$Reader", "fail", "(II)V"⟩, 13), (⟨"ConsYard$Reader", "readSymbol", "()I"⟩, 13), (⟨"ConsYard$Symbols", "isNamed", "(ILConsYard$Bytes;I)Z"⟩, 3), (⟨"ConsYard$Reader", "readToken", "()V"⟩, 13), (⟨"ConsYard$Reader", "openOne", "(I)V"⟩, 13), (⟨"ConsYard$Reader", "mayBegin", "()Z"⟩, 13)]
theorem lw_r1 : ∀ q ∈ lw_privs_1, lw_okq q := List.forall_mem_cons.mpr ⟨lw_p0, List.forall_mem_cons.mpr ⟨lw_p1, List.forall_mem_cons.mpr ⟨lw_p2, List.forall_mem_cons.mpr ⟨lw_p3, List.forall_mem_cons.mpr ⟨lw_p4, List.forall_mem_cons.mpr ⟨lw_p5, List.forall_mem_cons.mpr ⟨lw_p6, List.forall_mem_cons.mpr ⟨lw_p7, List.forall_mem_cons.mpr ⟨lw_p8, List.forall_mem_cons.mpr ⟨lw_p9, List.forall_mem_cons.mpr ⟨lw_p10, List.forall_mem_cons.mpr ⟨lw_p11, List.forall_mem_cons.mpr ⟨lw_p12, List.forall_mem_cons.mpr ⟨lw_p13, List.forall_mem_cons.mpr ⟨lw_p14, List.forall_mem_cons.mpr ⟨lw_p15, fun _ h => absurd h List.not_mem_nil⟩⟩⟩⟩⟩⟩⟩⟩⟩⟩⟩⟩⟩⟩⟩⟩
theorem lw_p16 : lw_okq (⟨"ConsYard$Reader", "state", "()I"⟩, 13) := ⟨⟨by decide +kernel, by decide +kernel⟩, List.mem_of_getElem? (i := 218) (by decide +kernel), List.mem_of_getElem? (i := 645) (by decide +kernel), List.mem_of_getElem? (i := 646) (by decide +kernel)⟩
theorem lw_p17 : lw_okq (⟨"ConsYard$Reader", "closeList", "()V"⟩, 13) := ⟨⟨by decide +kernel, by decide +kernel⟩, List.mem_of_getElem? (i := 218) (by decide +kernel), List.mem_of_getElem? (i := 650) (by decide +kernel), List.mem_of_getElem? (i := 651) (by decide +kernel)⟩
theorem lw_p18 : lw_okq (⟨"ConsYard$Reader", "complete", "(JI)V"⟩, 13) := ⟨⟨by decide +kernel, by decide +kernel⟩, List.mem_of_getElem? (i := 218) (by decide +kernel), List.mem_of_getElem? (i := 664) (by decide +kernel), List.mem_of_getElem? (i := 665) (by decide +kernel)⟩
theorem lw_p19 : lw_okq (⟨"ConsYard$Reader", "setState", "(I)V"⟩, 13) := ⟨⟨by decide +kernel, by decide +kernel⟩, List.mem_of_getElem? (i := 218) (by decide +kernel), List.mem_of_getElem? (i := 670) (by decide +kernel), List.mem_of_getElem? (i := 671) (by decide +kernel)⟩
theorem lw_p20 : lw_okq (⟨"ConsYard$Reader", "readDot", "()V"⟩, 13) := ⟨⟨by decide +kernel, by decide +kernel⟩, List.mem_of_getElem? (i := 218) (by decide +kernel), List.mem_of_getElem? (i := 674) (by decide +kernel), List.mem_of_getElem? (i := 675) (by decide +kernel)⟩
theorem lw_p21 : lw_okq (⟨"ConsYard$Reader", "readAtom", "(I)V"⟩, 13) := ⟨⟨by decide +kernel, by decide +kernel⟩, List.mem_of_getElem? (i := 218) (by decide +kernel), List.mem_of_getElem? (i := 678) (by decide +kernel), List.mem_of_getElem? (i := 679) (by decide +kernel)⟩
theorem lw_p22 : lw_okq (⟨"ConsYard$Reader", "readNumber", "()J"⟩, 13) := ⟨⟨by decide +kernel, by decide +kernel⟩, List.mem_of_getElem? (i := 218) (by decide +kernel), List.mem_of_getElem? (i := 682) (by decide +kernel), List.mem_of_getElem? (i := 683) (by decide +kernel)⟩
theorem lw_p23 : lw_okq (⟨"ConsYard$Machine", "burn", "()Z"⟩, 13) := ⟨⟨by decide +kernel, by decide +kernel⟩, List.mem_of_getElem? (i := 264) (by decide +kernel), List.mem_of_getElem? (i := 716) (by decide +kernel), List.mem_of_getElem? (i := 717) (by decide +kernel)⟩
theorem lw_p24 : lw_okq (⟨"ConsYard$Machine", "fail", "(I)V"⟩, 13) := ⟨⟨by decide +kernel, by decide +kernel⟩, List.mem_of_getElem? (i := 264) (by decide +kernel), List.mem_of_getElem? (i := 720) (by decide +kernel), List.mem_of_getElem? (i := 721) (by decide +kernel)⟩
theorem lw_p25 : lw_okq (⟨"ConsYard$Machine", "evaluate", "()V"⟩, 13) := ⟨⟨by decide +kernel, by decide +kernel⟩, List.mem_of_getElem? (i := 264) (by decide +kernel), List.mem_of_getElem? (i := 724) (by decide +kernel), List.mem_of_getElem? (i := 725) (by decide +kernel)⟩
theorem lw_p26 : lw_okq (⟨"ConsYard$Machine", "evaluateAtom", "(J)V"⟩, 13) := ⟨⟨by decide +kernel, by decide +kernel⟩, List.mem_of_getElem? (i := 264) (by decide +kernel), List.mem_of_getElem? (i := 729) (by decide +kernel), List.mem_of_getElem? (i := 730) (by decide +kernel)⟩
theorem lw_p27 : lw_okq (⟨"ConsYard$Machine", "give", "(J)V"⟩, 13) := ⟨⟨by decide +kernel, by decide +kernel⟩, List.mem_of_getElem? (i := 264) (by decide +kernel), List.mem_of_getElem? (i := 737) (by decide +kernel), List.mem_of_getElem? (i := 738) (by decide +kernel)⟩
theorem lw_p28 : lw_okq (⟨"ConsYard$Machine", "emptyHand", "()V"⟩, 13) := ⟨⟨by decide +kernel, by decide +kernel⟩, List.mem_of_getElem? (i := 264) (by decide +kernel), List.mem_of_getElem? (i := 741) (by decide +kernel), List.mem_of_getElem? (i := 742) (by decide +kernel)⟩
theorem lw_p29 : lw_okq (⟨"ConsYard$Machine", "lookUp", "(J)J"⟩, 13) := ⟨⟨by decide +kernel, by decide +kernel⟩, List.mem_of_getElem? (i := 264) (by decide +kernel), List.mem_of_getElem? (i := 746) (by decide +kernel), List.mem_of_getElem? (i := 747) (by decide +kernel)⟩
theorem lw_p30 : lw_okq (⟨"ConsYard$Machine", "askHead", "(J)J"⟩, 13) := ⟨⟨by decide +kernel, by decide +kernel⟩, List.mem_of_getElem? (i := 264) (by decide +kernel), List.mem_of_getElem? (i := 751) (by decide +kernel), List.mem_of_getElem? (i := 752) (by decide +kernel)⟩
theorem lw_p31 : lw_okq (⟨"ConsYard$Machine", "askSecond", "(J)J"⟩, 13) := ⟨⟨by decide +kernel, by decide +kernel⟩, List.mem_of_getElem? (i := 264) (by decide +kernel), List.mem_of_getElem? (i := 758) (by decide +kernel), List.mem_of_getElem? (i := 759) (by decide +kernel)⟩
def lw_privs_2 : List (MethodName × Nat) := [(⟨"ConsYard$Reader", "state", "()I"⟩, 13), (⟨"ConsYard$Reader", "closeList", "()V"⟩, 13), (⟨"ConsYard$Reader", "complete", "(JI)V"⟩, 13), (⟨"ConsYard$Reader", "setState", "(I)V"⟩, 13), (⟨"ConsYard$Reader", "readDot", "()V"⟩, 13), (⟨"ConsYard$Reader", "readAtom", "(I)V"⟩, 13), (⟨"ConsYard$Reader", "readNumber", "()J"⟩, 13), (⟨"ConsYard$Machine", "burn", "()Z"⟩, 13), (⟨"ConsYard$Machine", "fail", "(I)V"⟩, 13), (⟨"ConsYard$Machine", "evaluate", "()V"⟩, 13), (⟨"ConsYard$Machine", "evaluateAtom", "(J)V"⟩, 13), (⟨"ConsYard$Machine", "give", "(J)V"⟩, 13), (⟨"ConsYard$Machine", "emptyHand", "()V"⟩, 13), (⟨"ConsYard$Machine", "lookUp", "(J)J"⟩, 13), (⟨"ConsYard$Machine", "askHead", "(J)J"⟩, 13), (⟨"ConsYard$Machine", "askSecond", "(J)J"⟩, 13)]
theorem lw_r2 : ∀ q ∈ lw_privs_2, lw_okq q := List.forall_mem_cons.mpr ⟨lw_p16, List.forall_mem_cons.mpr ⟨lw_p17, List.forall_mem_cons.mpr ⟨lw_p18, List.forall_mem_cons.mpr ⟨lw_p19, List.forall_mem_cons.mpr ⟨lw_p20, List.forall_mem_cons.mpr ⟨lw_p21, List.forall_mem_cons.mpr ⟨lw_p22, List.forall_mem_cons.mpr ⟨lw_p23, List.forall_mem_cons.mpr ⟨lw_p24, List.forall_mem_cons.mpr ⟨lw_p25, List.forall_mem_cons.mpr ⟨lw_p26, List.forall_mem_cons.mpr ⟨lw_p27, List.forall_mem_cons.mpr ⟨lw_p28, List.forall_mem_cons.mpr ⟨lw_p29, List.forall_mem_cons.mpr ⟨lw_p30, List.forall_mem_cons.mpr ⟨lw_p31, fun _ h => absurd h List.not_mem_nil⟩⟩⟩⟩⟩⟩⟩⟩⟩⟩⟩⟩⟩⟩⟩⟩
theorem lw_p32 : lw_okq (⟨"ConsYard$Machine", "askTail", "(J)J"⟩, 13) := ⟨⟨by decide +kernel, by decide +kernel⟩, List.mem_of_getElem? (i := 264) (by decide +kernel), List.mem_of_getElem? (i := 762) (by decide +kernel), List.mem_of_getElem? (i := 763) (by decide +kernel)⟩
theorem lw_p33 : lw_okq (⟨"ConsYard$Machine", "evaluateCond", "(J)V"⟩, 13) := ⟨⟨by decide +kernel, by decide +kernel⟩, List.mem_of_getElem? (i := 264) (by decide +kernel), List.mem_of_getElem? (i := 767) (by decide +kernel), List.mem_of_getElem? (i := 768) (by decide +kernel)⟩
theorem lw_p34 : lw_okq (⟨"ConsYard$Machine", "pushFrame", "(JJ)V"⟩, 13) := ⟨⟨by decide +kernel, by decide +kernel⟩, List.mem_of_getElem? (i := 264) (by decide +kernel), List.mem_of_getElem? (i := 771) (by decide +kernel), List.mem_of_getElem? (i := 772) (by decide +kernel)⟩
theorem lw_p35 : lw_okq (⟨"ConsYard$Machine", "evaluateNext", "(J)V"⟩, 13) := ⟨⟨by decide +kernel, by decide +kernel⟩, List.mem_of_getElem? (i := 264) (by decide +kernel), List.mem_of_getElem? (i := 780) (by decide +kernel), List.mem_of_getElem? (i := 781) (by decide +kernel)⟩
theorem lw_p36 : lw_okq (⟨"ConsYard$Machine", "evaluateFunction", "(J)V"⟩, 13) := ⟨⟨by decide +kernel, by decide +kernel⟩, List.mem_of_getElem? (i := 264) (by decide +kernel), List.mem_of_getElem? (i := 785) (by decide +kernel), List.mem_of_getElem? (i := 786) (by decide +kernel)⟩
theorem lw_p37 : lw_okq (⟨"ConsYard$Machine", "cons", "(JJ)J"⟩, 13) := ⟨⟨by decide +kernel, by decide +kernel⟩, List.mem_of_getElem? (i := 264) (by decide +kernel), List.mem_of_getElem? (i := 789) (by decide +kernel), List.mem_of_getElem? (i := 790) (by decide +kernel)⟩
theorem lw_p38 : lw_okq (⟨"ConsYard$Machine", "evaluateCall", "(JJ)V"⟩, 13) := ⟨⟨by decide +kernel, by decide +kernel⟩, List.mem_of_getElem? (i := 264) (by decide +kernel), List.mem_of_getElem? (i := 795) (by decide +kernel), List.mem_of_getElem? (i := 796) (by decide +kernel)⟩
theorem lw_p39 : lw_okq (⟨"ConsYard$Machine", "takeValue", "()V"⟩, 13) := ⟨⟨by decide +kernel, by decide +kernel⟩, List.mem_of_getElem? (i := 264) (by decide +kernel), List.mem_of_getElem? (i := 799) (by decide +kernel), List.mem_of_getElem? (i := 800) (by decide +kernel)⟩
theorem lw_p40 : lw_okq (⟨"ConsYard$Machine", "takeChoice", "(I)V"⟩, 13) := ⟨⟨by decide +kernel, by decide +kernel⟩, List.mem_of_getElem? (i := 264) (by decide +kernel), List.mem_of_getElem? (i := 804) (by decide +kernel), List.mem_of_getElem? (i := 805) (by decide +kernel)⟩
theorem lw_p41 : lw_okq (⟨"ConsYard$Machine", "popFrame", "(I)V"⟩, 13) := ⟨⟨by decide +kernel, by decide +kernel⟩, List.mem_of_getElem? (i := 264) (by decide +kernel), List.mem_of_getElem? (i := 808) (by decide +kernel), List.mem_of_getElem? (i := 809) (by decide +kernel)⟩
theorem lw_p42 : lw_okq (⟨"ConsYard$Machine", "takeArgument", "(I)V"⟩, 13) := ⟨⟨by decide +kernel, by decide +kernel⟩, List.mem_of_getElem? (i := 264) (by decide +kernel), List.mem_of_getElem? (i := 813) (by decide +kernel), List.mem_of_getElem? (i := 814) (by decide +kernel)⟩
theorem lw_p43 : lw_okq (⟨"ConsYard$Machine", "takeInHand", "(I)V"⟩, 13) := ⟨⟨by decide +kernel, by decide +kernel⟩, List.mem_of_getElem? (i := 264) (by decide +kernel), List.mem_of_getElem? (i := 817) (by decide +kernel), List.mem_of_getElem? (i := 818) (by decide +kernel)⟩
theorem lw_p44 : lw_okq (⟨"ConsYard$Machine", "isBuiltIn", "(J)Z"⟩, 13) := ⟨⟨by decide +kernel, by decide +kernel⟩, List.mem_of_getElem? (i := 264) (by decide +kernel), List.mem_of_getElem? (i := 821) (by decide +kernel), List.mem_of_getElem? (i := 822) (by decide +kernel)⟩
theorem lw_p45 : lw_okq (⟨"ConsYard$Machine", "applyBuiltIn", "()V"⟩, 13) := ⟨⟨by decide +kernel, by decide +kernel⟩, List.mem_of_getElem? (i := 264) (by decide +kernel), List.mem_of_getElem? (i := 827) (by decide +kernel), List.mem_of_getElem? (i := 828) (by decide +kernel)⟩
theorem lw_p46 : lw_okq (⟨"ConsYard$Machine", "givePart", "(JZ)V"⟩, 13) := ⟨⟨by decide +kernel, by decide +kernel⟩, List.mem_of_getElem? (i := 264) (by decide +kernel), List.mem_of_getElem? (i := 834) (by decide +kernel), List.mem_of_getElem? (i := 835) (by decide +kernel)⟩
theorem lw_p47 : lw_okq (⟨"ConsYard$Machine", "giveList", "()V"⟩, 13) := ⟨⟨by decide +kernel, by decide +kernel⟩, List.mem_of_getElem? (i := 264) (by decide +kernel), List.mem_of_getElem? (i := 841) (by decide +kernel), List.mem_of_getElem? (i := 842) (by decide +kernel)⟩
def lw_privs_3 : List (MethodName × Nat) := [(⟨"ConsYard$Machine", "askTail", "(J)J"⟩, 13), (⟨"ConsYard$Machine", "evaluateCond", "(J)V"⟩, 13), (⟨"ConsYard$Machine", "pushFrame", "(JJ)V"⟩, 13), (⟨"ConsYard$Machine", "evaluateNext", "(J)V"⟩, 13), (⟨"ConsYard$Machine", "evaluateFunction", "(J)V"⟩, 13), (⟨"ConsYard$Machine", "cons", "(JJ)J"⟩, 13), (⟨"ConsYard$Machine", "evaluateCall", "(JJ)V"⟩, 13), (⟨"ConsYard$Machine", "takeValue", "()V"⟩, 13), (⟨"ConsYard$Machine", "takeChoice", "(I)V"⟩, 13), (⟨"ConsYard$Machine", "popFrame", "(I)V"⟩, 13), (⟨"ConsYard$Machine", "takeArgument", "(I)V"⟩, 13), (⟨"ConsYard$Machine", "takeInHand", "(I)V"⟩, 13), (⟨"ConsYard$Machine", "isBuiltIn", "(J)Z"⟩, 13), (⟨"ConsYard$Machine", "applyBuiltIn", "()V"⟩, 13), (⟨"ConsYard$Machine", "givePart", "(JZ)V"⟩, 13), (⟨"ConsYard$Machine", "giveList", "()V"⟩, 13)]
theorem lw_r3 : ∀ q ∈ lw_privs_3, lw_okq q := List.forall_mem_cons.mpr ⟨lw_p32, List.forall_mem_cons.mpr ⟨lw_p33, List.forall_mem_cons.mpr ⟨lw_p34, List.forall_mem_cons.mpr ⟨lw_p35, List.forall_mem_cons.mpr ⟨lw_p36, List.forall_mem_cons.mpr ⟨lw_p37, List.forall_mem_cons.mpr ⟨lw_p38, List.forall_mem_cons.mpr ⟨lw_p39, List.forall_mem_cons.mpr ⟨lw_p40, List.forall_mem_cons.mpr ⟨lw_p41, List.forall_mem_cons.mpr ⟨lw_p42, List.forall_mem_cons.mpr ⟨lw_p43, List.forall_mem_cons.mpr ⟨lw_p44, List.forall_mem_cons.mpr ⟨lw_p45, List.forall_mem_cons.mpr ⟨lw_p46, List.forall_mem_cons.mpr ⟨lw_p47, fun _ h => absurd h List.not_mem_nil⟩⟩⟩⟩⟩⟩⟩⟩⟩⟩⟩⟩⟩⟩⟩⟩
theorem lw_p48 : lw_okq (⟨"ConsYard$Machine", "giveReckoned", "(IJJ)V"⟩, 13) := ⟨⟨by decide +kernel, by decide +kernel⟩, List.mem_of_getElem? (i := 264) (by decide +kernel), List.mem_of_getElem? (i := 846) (by decide +kernel), List.mem_of_getElem? (i := 847) (by decide +kernel)⟩
theorem lw_p49 : lw_okq (⟨"ConsYard$Machine", "apply", "()V"⟩, 13) := ⟨⟨by decide +kernel, by decide +kernel⟩, List.mem_of_getElem? (i := 264) (by decide +kernel), List.mem_of_getElem? (i := 852) (by decide +kernel), List.mem_of_getElem? (i := 853) (by decide +kernel)⟩
theorem lw_p50 : lw_okq (⟨"ConsYard$Machine", "applySymbol", "(J)V"⟩, 13) := ⟨⟨by decide +kernel, by decide +kernel⟩, List.mem_of_getElem? (i := 264) (by decide +kernel), List.mem_of_getElem? (i := 856) (by decide +kernel), List.mem_of_getElem? (i := 857) (by decide +kernel)⟩
theorem lw_p51 : lw_okq (⟨"ConsYard$Machine", "applyLambda", "(J)V"⟩, 13) := ⟨⟨by decide +kernel, by decide +kernel⟩, List.mem_of_getElem? (i := 264) (by decide +kernel), List.mem_of_getElem? (i := 861) (by decide +kernel), List.mem_of_getElem? (i := 862) (by decide +kernel)⟩
theorem lw_p52 : lw_okq (⟨"ConsYard$Machine", "lookAtVariables", "(J)I"⟩, 13) := ⟨⟨by decide +kernel, by decide +kernel⟩, List.mem_of_getElem? (i := 264) (by decide +kernel), List.mem_of_getElem? (i := 865) (by decide +kernel), List.mem_of_getElem? (i := 866) (by decide +kernel)⟩
theorem lw_p53 : lw_okq (⟨"ConsYard$Machine", "askVariable", "(J)V"⟩, 13) := ⟨⟨by decide +kernel, by decide +kernel⟩, List.mem_of_getElem? (i := 264) (by decide +kernel), List.mem_of_getElem? (i := 869) (by decide +kernel), List.mem_of_getElem? (i := 870) (by decide +kernel)⟩
theorem lw_p54 : lw_okq (⟨"ConsYard$Machine", "askThird", "(J)J"⟩, 13) := ⟨⟨by decide +kernel, by decide +kernel⟩, List.mem_of_getElem? (i := 264) (by decide +kernel), List.mem_of_getElem? (i := 873) (by decide +kernel), List.mem_of_getElem? (i := 874) (by decide +kernel)⟩
theorem lw_p55 : lw_okq (⟨"ConsYard$Machine", "applyLabel", "(J)V"⟩, 13) := ⟨⟨by decide +kernel, by decide +kernel⟩, List.mem_of_getElem? (i := 264) (by decide +kernel), List.mem_of_getElem? (i := 878) (by decide +kernel), List.mem_of_getElem? (i := 879) (by decide +kernel)⟩
theorem lw_p56 : lw_okq (⟨"ConsYard$Machine", "applyFunarg", "(J)V"⟩, 13) := ⟨⟨by decide +kernel, by decide +kernel⟩, List.mem_of_getElem? (i := 264) (by decide +kernel), List.mem_of_getElem? (i := 882) (by decide +kernel), List.mem_of_getElem? (i := 883) (by decide +kernel)⟩
theorem lw_p57 : lw_okq (⟨"ConsYard$Machine", "letGo", "()V"⟩, 13) := ⟨⟨by decide +kernel, by decide +kernel⟩, List.mem_of_getElem? (i := 264) (by decide +kernel), List.mem_of_getElem? (i := 886) (by decide +kernel), List.mem_of_getElem? (i := 887) (by decide +kernel)⟩
theorem lw_p58 : lw_okq (⟨"ConsYardModel", "begins", "(IZ)Z"⟩, 48) := ⟨⟨by decide +kernel, by decide +kernel⟩, List.mem_of_getElem? (i := 916) (by decide +kernel), List.mem_of_getElem? (i := 1107) (by decide +kernel), List.mem_of_getElem? (i := 1108) (by decide +kernel)⟩
theorem lw_p59 : lw_okq (⟨"ConsYardModel", "nothing", "()V"⟩, 48) := ⟨⟨by decide +kernel, by decide +kernel⟩, List.mem_of_getElem? (i := 916) (by decide +kernel), List.mem_of_getElem? (i := 1111) (by decide +kernel), List.mem_of_getElem? (i := 1112) (by decide +kernel)⟩
theorem lw_p60 : lw_okq (⟨"ConsYardModel", "blanks", "()V"⟩, 48) := ⟨⟨by decide +kernel, by decide +kernel⟩, List.mem_of_getElem? (i := 916) (by decide +kernel), List.mem_of_getElem? (i := 1115) (by decide +kernel), List.mem_of_getElem? (i := 1116) (by decide +kernel)⟩
theorem lw_p61 : lw_okq (⟨"ConsYardModel", "byteAt", "(I)I"⟩, 48) := ⟨⟨by decide +kernel, by decide +kernel⟩, List.mem_of_getElem? (i := 916) (by decide +kernel), List.mem_of_getElem? (i := 1119) (by decide +kernel), List.mem_of_getElem? (i := 1120) (by decide +kernel)⟩
theorem lw_p62 : lw_okq (⟨"ConsYardModel", "failsAt", "(II)Ljava/lang/IllegalStateException;"⟩, 48) := ⟨⟨by decide +kernel, by decide +kernel⟩, List.mem_of_getElem? (i := 916) (by decide +kernel), List.mem_of_getElem? (i := 1126) (by decide +kernel), List.mem_of_getElem? (i := 1127) (by decide +kernel)⟩
theorem lw_p63 : lw_okq (⟨"ConsYardModel", "fails", "(I)Ljava/lang/IllegalStateException;"⟩, 48) := ⟨⟨by decide +kernel, by decide +kernel⟩, List.mem_of_getElem? (i := 916) (by decide +kernel), List.mem_of_getElem? (i := 1130) (by decide +kernel), List.mem_of_getElem? (i := 1131) (by decide +kernel)⟩
def lw_privs_4 : List (MethodName × Nat) := [(⟨"ConsYard$Machine", "giveReckoned", "(IJJ)V"⟩, 13), (⟨"ConsYard$Machine", "apply", "()V"⟩, 13), (⟨"ConsYard$Machine", "applySymbol", "(J)V"⟩, 13), (⟨"ConsYard$Machine", "applyLambda", "(J)V"⟩, 13), (⟨"ConsYard$Machine", "lookAtVariables", "(J)I"⟩, 13), (⟨"ConsYard$Machine", "askVariable", "(J)V"⟩, 13), (⟨"ConsYard$Machine", "askThird", "(J)J"⟩, 13), (⟨"ConsYard$Machine", "applyLabel", "(J)V"⟩, 13), (⟨"ConsYard$Machine", "applyFunarg", "(J)V"⟩, 13), (⟨"ConsYard$Machine", "letGo", "()V"⟩, 13), (⟨"ConsYardModel", "begins", "(IZ)Z"⟩, 48), (⟨"ConsYardModel", "nothing", "()V"⟩, 48), (⟨"ConsYardModel", "blanks", "()V"⟩, 48), (⟨"ConsYardModel", "byteAt", "(I)I"⟩, 48), (⟨"ConsYardModel", "failsAt", "(II)Ljava/lang/IllegalStateException;"⟩, 48), (⟨"ConsYardModel", "fails", "(I)Ljava/lang/IllegalStateException;"⟩, 48)]
theorem lw_r4 : ∀ q ∈ lw_privs_4, lw_okq q := List.forall_mem_cons.mpr ⟨lw_p48, List.forall_mem_cons.mpr ⟨lw_p49, List.forall_mem_cons.mpr ⟨lw_p50, List.forall_mem_cons.mpr ⟨lw_p51, List.forall_mem_cons.mpr ⟨lw_p52, List.forall_mem_cons.mpr ⟨lw_p53, List.forall_mem_cons.mpr ⟨lw_p54, List.forall_mem_cons.mpr ⟨lw_p55, List.forall_mem_cons.mpr ⟨lw_p56, List.forall_mem_cons.mpr ⟨lw_p57, List.forall_mem_cons.mpr ⟨lw_p58, List.forall_mem_cons.mpr ⟨lw_p59, List.forall_mem_cons.mpr ⟨lw_p60, List.forall_mem_cons.mpr ⟨lw_p61, List.forall_mem_cons.mpr ⟨lw_p62, List.forall_mem_cons.mpr ⟨lw_p63, fun _ h => absurd h List.not_mem_nil⟩⟩⟩⟩⟩⟩⟩⟩⟩⟩⟩⟩⟩⟩⟩⟩
theorem lw_p64 : lw_okq (⟨"ConsYardModel", "symbol", "()J"⟩, 48) := ⟨⟨by decide +kernel, by decide +kernel⟩, List.mem_of_getElem? (i := 916) (by decide +kernel), List.mem_of_getElem? (i := 1134) (by decide +kernel), List.mem_of_getElem? (i := 1135) (by decide +kernel)⟩
theorem lw_p65 : lw_okq (⟨"ConsYardModel", "whole", "()J"⟩, 48) := ⟨⟨by decide +kernel, by decide +kernel⟩, List.mem_of_getElem? (i := 916) (by decide +kernel), List.mem_of_getElem? (i := 1144) (by decide +kernel), List.mem_of_getElem? (i := 1145) (by decide +kernel)⟩
theorem lw_p66 : lw_okq (⟨"ConsYardModel", "reads", "()J"⟩, 48) := ⟨⟨by decide +kernel, by decide +kernel⟩, List.mem_of_getElem? (i := 916) (by decide +kernel), List.mem_of_getElem? (i := 1148) (by decide +kernel), List.mem_of_getElem? (i := 1149) (by decide +kernel)⟩
theorem lw_p67 : lw_okq (⟨"ConsYardModel", "closes", "()J"⟩, 48) := ⟨⟨by decide +kernel, by decide +kernel⟩, List.mem_of_getElem? (i := 916) (by decide +kernel), List.mem_of_getElem? (i := 1152) (by decide +kernel), List.mem_of_getElem? (i := 1153) (by decide +kernel)⟩
theorem lw_p68 : lw_okq (⟨"ConsYardModel", "cons", "(JJJ)J"⟩, 48) := ⟨⟨by decide +kernel, by decide +kernel⟩, List.mem_of_getElem? (i := 916) (by decide +kernel), List.mem_of_getElem? (i := 1156) (by decide +kernel), List.mem_of_getElem? (i := 1157) (by decide +kernel)⟩
theorem lw_p69 : lw_okq (⟨"ConsYardModel", "reach", "(JJJ)V"⟩, 48) := ⟨⟨by decide +kernel, by decide +kernel⟩, List.mem_of_getElem? (i := 916) (by decide +kernel), List.mem_of_getElem? (i := 1160) (by decide +kernel), List.mem_of_getElem? (i := 1161) (by decide +kernel)⟩
theorem lw_p70 : lw_okq (⟨"ConsYardModel", "reachFunctions", "()V"⟩, 48) := ⟨⟨by decide +kernel, by decide +kernel⟩, List.mem_of_getElem? (i := 916) (by decide +kernel), List.mem_of_getElem? (i := 1164) (by decide +kernel), List.mem_of_getElem? (i := 1165) (by decide +kernel)⟩
theorem lw_p71 : lw_okq (⟨"ConsYardModel", "visit", "(J)V"⟩, 48) := ⟨⟨by decide +kernel, by decide +kernel⟩, List.mem_of_getElem? (i := 916) (by decide +kernel), List.mem_of_getElem? (i := 1168) (by decide +kernel), List.mem_of_getElem? (i := 1169) (by decide +kernel)⟩
theorem lw_p72 : lw_okq (⟨"ConsYardModel", "walks", "()V"⟩, 48) := ⟨⟨by decide +kernel, by decide +kernel⟩, List.mem_of_getElem? (i := 916) (by decide +kernel), List.mem_of_getElem? (i := 1176) (by decide +kernel), List.mem_of_getElem? (i := 1177) (by decide +kernel)⟩
theorem lw_p73 : lw_okq (⟨"ConsYardModel", "mayBegin", "()Z"⟩, 48) := ⟨⟨by decide +kernel, by decide +kernel⟩, List.mem_of_getElem? (i := 916) (by decide +kernel), List.mem_of_getElem? (i := 1180) (by decide +kernel), List.mem_of_getElem? (i := 1181) (by decide +kernel)⟩
theorem lw_p74 : lw_okq (⟨"ConsYardModel", "isAtom", "()Z"⟩, 48) := ⟨⟨by decide +kernel, by decide +kernel⟩, List.mem_of_getElem? (i := 916) (by decide +kernel), List.mem_of_getElem? (i := 1184) (by decide +kernel), List.mem_of_getElem? (i := 1185) (by decide +kernel)⟩
theorem lw_p75 : lw_okq (⟨"ConsYardModel", "number", "()J"⟩, 48) := ⟨⟨by decide +kernel, by decide +kernel⟩, List.mem_of_getElem? (i := 916) (by decide +kernel), List.mem_of_getElem? (i := 1188) (by decide +kernel), List.mem_of_getElem? (i := 1189) (by decide +kernel)⟩
theorem lw_p76 : lw_okq (⟨"ConsYardModel", "quotes", "(JI)J"⟩, 48) := ⟨⟨by decide +kernel, by decide +kernel⟩, List.mem_of_getElem? (i := 916) (by decide +kernel), List.mem_of_getElem? (i := 1198) (by decide +kernel), List.mem_of_getElem? (i := 1199) (by decide +kernel)⟩
theorem lw_p77 : lw_okq (⟨"ConsYardModel", "failed", "(Z)I"⟩, 48) := ⟨⟨by decide +kernel, by decide +kernel⟩, List.mem_of_getElem? (i := 916) (by decide +kernel), List.mem_of_getElem? (i := 1203) (by decide +kernel), List.mem_of_getElem? (i := 1204) (by decide +kernel)⟩
theorem lw_p78 : lw_okq (⟨"ConsYardModel", "prints", "(J)V"⟩, 48) := ⟨⟨by decide +kernel, by decide +kernel⟩, List.mem_of_getElem? (i := 916) (by decide +kernel), List.mem_of_getElem? (i := 1211) (by decide +kernel), List.mem_of_getElem? (i := 1212) (by decide +kernel)⟩
theorem lw_p79 : lw_okq (⟨"ConsYardModel", "puts", "(I)V"⟩, 48) := ⟨⟨by decide +kernel, by decide +kernel⟩, List.mem_of_getElem? (i := 916) (by decide +kernel), List.mem_of_getElem? (i := 1215) (by decide +kernel), List.mem_of_getElem? (i := 1216) (by decide +kernel)⟩
def lw_privs_5 : List (MethodName × Nat) := [(⟨"ConsYardModel", "symbol", "()J"⟩, 48), (⟨"ConsYardModel", "whole", "()J"⟩, 48), (⟨"ConsYardModel", "reads", "()J"⟩, 48), (⟨"ConsYardModel", "closes", "()J"⟩, 48), (⟨"ConsYardModel", "cons", "(JJJ)J"⟩, 48), (⟨"ConsYardModel", "reach", "(JJJ)V"⟩, 48), (⟨"ConsYardModel", "reachFunctions", "()V"⟩, 48), (⟨"ConsYardModel", "visit", "(J)V"⟩, 48), (⟨"ConsYardModel", "walks", "()V"⟩, 48), (⟨"ConsYardModel", "mayBegin", "()Z"⟩, 48), (⟨"ConsYardModel", "isAtom", "()Z"⟩, 48), (⟨"ConsYardModel", "number", "()J"⟩, 48), (⟨"ConsYardModel", "quotes", "(JI)J"⟩, 48), (⟨"ConsYardModel", "failed", "(Z)I"⟩, 48), (⟨"ConsYardModel", "prints", "(J)V"⟩, 48), (⟨"ConsYardModel", "puts", "(I)V"⟩, 48)]
theorem lw_r5 : ∀ q ∈ lw_privs_5, lw_okq q := List.forall_mem_cons.mpr ⟨lw_p64, List.forall_mem_cons.mpr ⟨lw_p65, List.forall_mem_cons.mpr ⟨lw_p66, List.forall_mem_cons.mpr ⟨lw_p67, List.forall_mem_cons.mpr ⟨lw_p68, List.forall_mem_cons.mpr ⟨lw_p69, List.forall_mem_cons.mpr ⟨lw_p70, List.forall_mem_cons.mpr ⟨lw_p71, List.forall_mem_cons.mpr ⟨lw_p72, List.forall_mem_cons.mpr ⟨lw_p73, List.forall_mem_cons.mpr ⟨lw_p74, List.forall_mem_cons.mpr ⟨lw_p75, List.forall_mem_cons.mpr ⟨lw_p76, List.forall_mem_cons.mpr ⟨lw_p77, List.forall_mem_cons.mpr ⟨lw_p78, List.forall_mem_cons.mpr ⟨lw_p79, fun _ h => absurd h List.not_mem_nil⟩⟩⟩⟩⟩⟩⟩⟩⟩⟩⟩⟩⟩⟩⟩⟩
theorem lw_p80 : lw_okq (⟨"ConsYardModel", "tailOf", "(J)J"⟩, 48) := ⟨⟨by decide +kernel, by decide +kernel⟩, List.mem_of_getElem? (i := 916) (by decide +kernel), List.mem_of_getElem? (i := 1219) (by decide +kernel), List.mem_of_getElem? (i := 1220) (by decide +kernel)⟩
theorem lw_p81 : lw_okq (⟨"ConsYardModel", "headOf", "(J)J"⟩, 48) := ⟨⟨by decide +kernel, by decide +kernel⟩, List.mem_of_getElem? (i := 916) (by decide +kernel), List.mem_of_getElem? (i := 1223) (by decide +kernel), List.mem_of_getElem? (i := 1224) (by decide +kernel)⟩
theorem lw_p82 : lw_okq (⟨"ConsYardModel", "atom", "(J)V"⟩, 48) := ⟨⟨by decide +kernel, by decide +kernel⟩, List.mem_of_getElem? (i := 916) (by decide +kernel), List.mem_of_getElem? (i := 1227) (by decide +kernel), List.mem_of_getElem? (i := 1228) (by decide +kernel)⟩
theorem lw_p83 : lw_okq (⟨"ConsYardModel", "burn", "()V"⟩, 48) := ⟨⟨by decide +kernel, by decide +kernel⟩, List.mem_of_getElem? (i := 916) (by decide +kernel), List.mem_of_getElem? (i := 1238) (by decide +kernel), List.mem_of_getElem? (i := 1239) (by decide +kernel)⟩
theorem lw_p84 : lw_okq (⟨"ConsYardModel", "evaluates", "()I"⟩, 48) := ⟨⟨by decide +kernel, by decide +kernel⟩, List.mem_of_getElem? (i := 916) (by decide +kernel), List.mem_of_getElem? (i := 1242) (by decide +kernel), List.mem_of_getElem? (i := 1243) (by decide +kernel)⟩
theorem lw_p85 : lw_okq (⟨"ConsYardModel", "pairOf", "(J)J"⟩, 48) := ⟨⟨by decide +kernel, by decide +kernel⟩, List.mem_of_getElem? (i := 916) (by decide +kernel), List.mem_of_getElem? (i := 1251) (by decide +kernel), List.mem_of_getElem? (i := 1252) (by decide +kernel)⟩
theorem lw_p86 : lw_okq (⟨"ConsYardModel", "second", "(J)J"⟩, 48) := ⟨⟨by decide +kernel, by decide +kernel⟩, List.mem_of_getElem? (i := 916) (by decide +kernel), List.mem_of_getElem? (i := 1255) (by decide +kernel), List.mem_of_getElem? (i := 1256) (by decide +kernel)⟩
theorem lw_p87 : lw_okq (⟨"ConsYardModel", "frame", "(ZJJ)V"⟩, 48) := ⟨⟨by decide +kernel, by decide +kernel⟩, List.mem_of_getElem? (i := 916) (by decide +kernel), List.mem_of_getElem? (i := 1260) (by decide +kernel), List.mem_of_getElem? (i := 1261) (by decide +kernel)⟩
theorem lw_p88 : lw_okq (⟨"ConsYardModel", "returns", "()I"⟩, 48) := ⟨⟨by decide +kernel, by decide +kernel⟩, List.mem_of_getElem? (i := 916) (by decide +kernel), List.mem_of_getElem? (i := 1266) (by decide +kernel), List.mem_of_getElem? (i := 1267) (by decide +kernel)⟩
theorem lw_p89 : lw_okq (⟨"ConsYardModel", "applies", "()I"⟩, 48) := ⟨⟨by decide +kernel, by decide +kernel⟩, List.mem_of_getElem? (i := 916) (by decide +kernel), List.mem_of_getElem? (i := 1270) (by decide +kernel), List.mem_of_getElem? (i := 1271) (by decide +kernel)⟩
theorem lw_p90 : lw_okq (⟨"ConsYardModel", "built", "(I)I"⟩, 48) := ⟨⟨by decide +kernel, by decide +kernel⟩, List.mem_of_getElem? (i := 916) (by decide +kernel), List.mem_of_getElem? (i := 1274) (by decide +kernel), List.mem_of_getElem? (i := 1275) (by decide +kernel)⟩
theorem lw_p91 : lw_okq (⟨"ConsYardModel", "gives", "(J)I"⟩, 48) := ⟨⟨by decide +kernel, by decide +kernel⟩, List.mem_of_getElem? (i := 916) (by decide +kernel), List.mem_of_getElem? (i := 1278) (by decide +kernel), List.mem_of_getElem? (i := 1279) (by decide +kernel)⟩
theorem lw_p92 : lw_okq (⟨"ConsYardModel", "says", "(Z)I"⟩, 48) := ⟨⟨by decide +kernel, by decide +kernel⟩, List.mem_of_getElem? (i := 916) (by decide +kernel), List.mem_of_getElem? (i := 1282) (by decide +kernel), List.mem_of_getElem? (i := 1283) (by decide +kernel)⟩
theorem lw_p93 : lw_okq (⟨"ConsYardModel", "counts", "(IJJ)I"⟩, 48) := ⟨⟨by decide +kernel, by decide +kernel⟩, List.mem_of_getElem? (i := 916) (by decide +kernel), List.mem_of_getElem? (i := 1286) (by decide +kernel), List.mem_of_getElem? (i := 1287) (by decide +kernel)⟩
theorem lw_p94 : lw_okq (⟨"ConsYardModel", "binds", "()I"⟩, 48) := ⟨⟨by decide +kernel, by decide +kernel⟩, List.mem_of_getElem? (i := 916) (by decide +kernel), List.mem_of_getElem? (i := 1291) (by decide +kernel), List.mem_of_getElem? (i := 1292) (by decide +kernel)⟩
theorem lw_p95 : lw_okq (⟨"ConsYardModel", "third", "(J)J"⟩, 48) := ⟨⟨by decide +kernel, by decide +kernel⟩, List.mem_of_getElem? (i := 916) (by decide +kernel), List.mem_of_getElem? (i := 1295) (by decide +kernel), List.mem_of_getElem? (i := 1296) (by decide +kernel)⟩
def lw_privs_6 : List (MethodName × Nat) := [(⟨"ConsYardModel", "tailOf", "(J)J"⟩, 48), (⟨"ConsYardModel", "headOf", "(J)J"⟩, 48), (⟨"ConsYardModel", "atom", "(J)V"⟩, 48), (⟨"ConsYardModel", "burn", "()V"⟩, 48), (⟨"ConsYardModel", "evaluates", "()I"⟩, 48), (⟨"ConsYardModel", "pairOf", "(J)J"⟩, 48), (⟨"ConsYardModel", "second", "(J)J"⟩, 48), (⟨"ConsYardModel", "frame", "(ZJJ)V"⟩, 48), (⟨"ConsYardModel", "returns", "()I"⟩, 48), (⟨"ConsYardModel", "applies", "()I"⟩, 48), (⟨"ConsYardModel", "built", "(I)I"⟩, 48), (⟨"ConsYardModel", "gives", "(J)I"⟩, 48), (⟨"ConsYardModel", "says", "(Z)I"⟩, 48), (⟨"ConsYardModel", "counts", "(IJJ)I"⟩, 48), (⟨"ConsYardModel", "binds", "()I"⟩, 48), (⟨"ConsYardModel", "third", "(J)J"⟩, 48)]
theorem lw_r6 : ∀ q ∈ lw_privs_6, lw_okq q := List.forall_mem_cons.mpr ⟨lw_p80, List.forall_mem_cons.mpr ⟨lw_p81, List.forall_mem_cons.mpr ⟨lw_p82, List.forall_mem_cons.mpr ⟨lw_p83, List.forall_mem_cons.mpr ⟨lw_p84, List.forall_mem_cons.mpr ⟨lw_p85, List.forall_mem_cons.mpr ⟨lw_p86, List.forall_mem_cons.mpr ⟨lw_p87, List.forall_mem_cons.mpr ⟨lw_p88, List.forall_mem_cons.mpr ⟨lw_p89, List.forall_mem_cons.mpr ⟨lw_p90, List.forall_mem_cons.mpr ⟨lw_p91, List.forall_mem_cons.mpr ⟨lw_p92, List.forall_mem_cons.mpr ⟨lw_p93, List.forall_mem_cons.mpr ⟨lw_p94, List.forall_mem_cons.mpr ⟨lw_p95, fun _ h => absurd h List.not_mem_nil⟩⟩⟩⟩⟩⟩⟩⟩⟩⟩⟩⟩⟩⟩⟩⟩
theorem lw_p96 : lw_okq (⟨"ConsYardModel", "variable", "(J)V"⟩, 48) := ⟨⟨by decide +kernel, by decide +kernel⟩, List.mem_of_getElem? (i := 916) (by decide +kernel), List.mem_of_getElem? (i := 1299) (by decide +kernel), List.mem_of_getElem? (i := 1300) (by decide +kernel)⟩
theorem lw_p97 : lw_okq (⟨"ConsYardModel", "ofFunctions", "()I"⟩, 48) := ⟨⟨by decide +kernel, by decide +kernel⟩, List.mem_of_getElem? (i := 916) (by decide +kernel), List.mem_of_getElem? (i := 1312) (by decide +kernel), List.mem_of_getElem? (i := 1313) (by decide +kernel)⟩
def lw_privs_7 : List (MethodName × Nat) := [(⟨"ConsYardModel", "variable", "(J)V"⟩, 48), (⟨"ConsYardModel", "ofFunctions", "()I"⟩, 48)]
theorem lw_r7 : ∀ q ∈ lw_privs_7, lw_okq q := List.forall_mem_cons.mpr ⟨lw_p96, List.forall_mem_cons.mpr ⟨lw_p97, fun _ h => absurd h List.not_mem_nil⟩⟩
def lw_privs : List (MethodName × Nat) := lw_privs_1 ++ (lw_privs_2 ++ (lw_privs_3 ++ (lw_privs_4 ++ (lw_privs_5 ++ (lw_privs_6 ++ (lw_privs_7))))))
def lw_tbl : List Cond := k2_sels lw_privs ++ tables_1
theorem lw_privs_ok : ∀ q ∈ lw_privs, lw_okq q := by
  show ∀ q ∈ lw_privs_1 ++ (lw_privs_2 ++ (lw_privs_3 ++ (lw_privs_4 ++ (lw_privs_5 ++ (lw_privs_6 ++ (lw_privs_7)))))), lw_okq q
  exact List.forall_mem_append.mpr ⟨lw_r1, List.forall_mem_append.mpr ⟨lw_r2, List.forall_mem_append.mpr ⟨lw_r3, List.forall_mem_append.mpr ⟨lw_r4, List.forall_mem_append.mpr ⟨lw_r5, List.forall_mem_append.mpr ⟨lw_r6, lw_r7⟩⟩⟩⟩⟩⟩
end
section
/-! A throw that the method's own table takes: the row's own kind may be linked only now. -/
def fx_To (e : Env) (s : State) (f : JFrame) (a : Addr) (h : Handler) (vm' : Vm) : Prop :=
  ∀ (Q : Handler → Pre) (E : CtlPost) (d : Bool) (acts : List Action), wp (findHandler f a) Q E e d acts s ↔ Q h d acts (s.setVm vm')
theorem fx_go {Q : Handler → Pre} {E : CtlPost} {e : Env} {d : Bool} {acts : List Action} {s : State} {f : JFrame} {a : Addr} {x : ExceptionTableEntry} {t : List ExceptionTableEntry} {c : ClassId} {cell : Cell} (hx : covers x f.pc = true) (h0 : x.catchType ≠ 0)
    (hl : s.vm.ClassLinks e.platform f.method.cls x.catchType c) (hcell : s.heap[a]? = some cell) (hobj : ∀ k, cell.vm ≠ .statics k)
    (hk : ∃ k, s.vm.classes[cell.cls]? = some k) (hc : ∃ k, s.vm.classes[c]? = some k) (hfit : s.vm.assignable cell.cls c = true) :
    wp (findHandler.go f a (x :: t)) Q E e d acts s ↔ Q (.found x.handlerPc) d acts (s.setVm (s.vm.noted f.method.cls x.catchType (.cls c))) := by
  simp only [covers] at hx
  obtain ⟨ha, ht⟩ := (resolveClass_links e.toSetting hl).op (op := VmOp.resolveClass f.method.cls x.catchType) rfl
  have hal : s.vm.Alike (s.vm.noted f.method.cls x.catchType (.cls c)) := (Vm.Alike.refl s.vm).noted _ _ _
  obtain ⟨k1, hk1⟩ := hk
  obtain ⟨k2, hk2⟩ := hc
  obtain ⟨k1', hk1', -⟩ := hal.2.2 _ _ hk1
  obtain ⟨k2', hk2', -⟩ := hal.2.2 _ _ hk2
  have hfit' : (s.vm.noted f.method.cls x.catchType (.cls c)).assignable cell.cls c = true := by rw [hal.assignable]; exact hfit
  simp [findHandler.go, hx, h0, ha, ht, hcell, hobj, hk1', hk2', hfit', VmOp.dirties, VmOp.acts]
theorem fx_find {e : Env} {s : State} {f : JFrame} {a : Addr} {meth : Method} {code : Code} (hm : s.vm.method? f.method = some meth) (hc : meth.code = some code)
    (pre : List ExceptionTableEntry) (x : ExceptionTableEntry) (rest : List ExceptionTableEntry) (hsplit : code.exceptionTable.toList = pre ++ x :: rest)
    (hskip : ∀ y ∈ pre, covers y f.pc = false) (hx : covers x f.pc = true) (h0 : x.catchType ≠ 0) {c : ClassId} {cell : Cell}
    (hl : s.vm.ClassLinks e.platform f.method.cls x.catchType c) (hcell : s.heap[a]? = some cell) (hobj : ∀ k, cell.vm ≠ .statics k)
    (hk : ∃ k, s.vm.classes[cell.cls]? = some k) (hcl : ∃ k, s.vm.classes[c]? = some k) (hfit : s.vm.assignable cell.cls c = true) :
    fx_To e s f a (.found x.handlerPc) (s.vm.noted f.method.cls x.catchType (.cls c)) := by
  intro Q E d acts
  rw [Jvm.W.findHandler_eq hm hc, hsplit]
  clear hsplit
  induction pre with
  | nil => exact fx_go hx h0 hl hcell hobj hk hcl hfit
  | cons y ys ih =>
    rw [List.cons_append, Jvm.W.findHandler_go_skip (hskip y List.mem_cons_self)]
    exact ih (fun z hz => hskip z (List.mem_cons_of_mem _ hz))
theorem fx_step {e : Env} {s : State} {a : Addr} {f : JFrame} {r : List Frame} {pc : Nat} {vm' : Vm} (hfind : fx_To e s f a (.found pc) vm') :
    (stepThrowing e s a (.java f :: r)).Is ((s.setVm vm').setFrames (.java { f with pc := pc, stack := [.ref a] } :: r)) [] := by
  simp only [stepThrowing, searchFrame, vmDo]
  generalize hr : Sem.go _ e false [] s = res
  obtain ⟨as, rfl, ha⟩ := Sem.eq_ok_of hr (a := Handler.found pc) (s' := s.setVm vm') (acts' := []) (by simp [hfind _ _ _ _])
  exact ⟨rfl, ha⟩
theorem fx_frames (u : State) (vm' : Vm) (F G : List Frame) : ((u.setFrames F).setVm vm').setFrames G = (u.setVm vm').setFrames G := by
  have h1 : (u.setFrames F).setVm vm' = (u.setVm vm').setFrames F := rfl
  rw [h1, State.setFrames_setFrames]
theorem fx_caught {tb : Tables} {e : Env} {s target : State} {g : JFrame} {c : Code} {below : List Frame} {a : Addr} (h : At s g.method c below) {pc : Nat} {vm' : Vm}
    (hfind : fx_To e ((s.setTop g).pushFrame (.throwing a)) g a (.found pc) vm') (hrest : Steps tb e below ((s.setVm vm').setTop { g with pc := pc, stack := [.ref a] }) target) :
    Steps tb e below ((s.setTop g).pushFrame (.throwing a)) target := by
  obtain ⟨hgo, hw⟩ := h.throwing a
  refine Steps.head hgo hw ?_
  rw [stepThread_throwing (frames_entered h.top _), (fx_step (s := (s.setTop g).pushFrame (.throwing a)) hfind).1]
  obtain ⟨g₀, hg⟩ := Option.isSome_iff_exists.mp h.top
  obtain ⟨r, hr⟩ := State.topJava?_eq_some.mp hg
  have hr' : (s.setVm vm').frames = .java g₀ :: r := hr
  rw [State.setTop_of_frames _ hr'] at hrest
  rw [hr, List.tail_cons, State.pushFrame, fx_frames, State.setTop_of_frames _ hr, fx_frames]
  exact hrest
theorem fx_catch {p : Program} {l : Launch} {e : Env} {R : Room} {s : State} {m : MethodId} {args : Array Value} {below : List Frame} {meth : Method} {c : Code} {T : State} {locs : List Loc} {cells slots : Nat}
    (X : Stand p l e R s m args below meth c T locs cells slots) (a : Addr) {g : JFrame} (hg : g.method = m) {cell : Cell} (hcell : T.heap[a]? = some cell) (hobj : cell.vm.isStatics = false)
    (hk0 : ∃ k, s.vm.classes[cell.cls]? = some k) (pre : List ExceptionTableEntry) (x : ExceptionTableEntry) (rest : List ExceptionTableEntry) (hsplit : c.exceptionTable.toList = pre ++ x :: rest)
    (hskip : ∀ y ∈ pre, covers y g.pc = false) (hx : covers x g.pc = true) (h0 : x.catchType ≠ 0) {cc : ClassId} (hl : s.vm.ClassLinks e.platform m.cls x.catchType cc) (hfit : s.vm.assignable cell.cls cc = true) :
    ∃ vm', Stand p l e R s m args below meth c (T.setVm vm') locs cells slots ∧ Steps p.tables e below ((T.setTop g).pushFrame (.throwing a)) ((T.setVm vm').setTop { g with pc := x.handlerPc, stack := [.ref a] }) := by
  subst hg
  obtain ⟨k0, hk0⟩ := hk0
  obtain ⟨k0', hk0', -⟩ := X.warmed.alike.2.2 _ _ hk0
  obtain ⟨dk, _, _, kt, hd, _, _, _, _, hkt, _, hopen⟩ := hl.here
  obtain ⟨kt', hkt', -⟩ := X.warmed.alike.2.2 _ _ hkt
  have hvm : ((T.setTop g).pushFrame (.throwing a)).vm = T.vm := Stand.throwing_vm T g a
  have hhp : ((T.setTop g).pushFrame (.throwing a)).heap = T.heap := Stand.throwing_heap T g a
  have hf := fx_find (e := e) (s := (T.setTop g).pushFrame (.throwing a)) (f := g) (a := a) (meth := meth) (code := c) (by rw [hvm]; exact X.method') X.code pre x rest hsplit hskip hx h0 (c := cc) (cell := cell)
    (by rw [hvm]; exact X.warmed.classLinks hl) (by rw [hhp]; exact hcell) (fun k hk => by rw [hk] at hobj; cases hobj) (by rw [hvm]; exact ⟨k0', hk0'⟩) (by rw [hvm]; exact ⟨kt', hkt'⟩) (by rw [hvm, X.warmed.alike.assignable]; exact hfit)
  rw [hvm] at hf
  exact ⟨_, X.noted (X.warmed.noted hd hopen (State.rightAt_cls hl)), fx_caught X.here hf (Steps.refl _)⟩
end
section
/-! ===== BEGIN words of one list among another's, by their places ===== -/
theorem goodIn_r {big : List Cond} (ws : List Cond) (ps : List Nat) (hp : ws = ps.filterMap (fun i => big[i]?)) (h : ws.all goodWord = true) : GoodIn big ws := by
  intro w hw
  have h1 := List.all_eq_true.mp h w hw
  rw [hp] at hw
  obtain ⟨i, -, hi⟩ := List.mem_filterMap.mp hw
  have hm : w ∈ big := by first | exact List.mem_of_getElem? hi | exact List.getElem?_mem hi
  exact ⟨hm, good_of_word h1⟩
theorem goodIn_app {big a b : List Cond} (ha : GoodIn big a) (hb : GoodIn big b) : GoodIn big (a ++ b) := fun w h => (List.mem_append.mp h).elim (ha w) (hb w)
theorem goodIn_ca {big a b : List Cond} {c : Cond} (ha : GoodIn big (c :: a)) (hb : GoodIn big b) : GoodIn big (c :: (a ++ b)) := fun w h => (List.mem_cons.mp h).elim (fun e => ha w (List.mem_cons.mpr (Or.inl e))) (fun h => (List.mem_append.mp h).elim (fun h => ha w (List.mem_cons.mpr (Or.inr h))) (hb w))
theorem goodIn_sub {big ws : List Cond} (hm : ∀ w ∈ ws, w ∈ big) (h : ws.all goodWord = true) : GoodIn big ws := fun w hw => ⟨hm w hw, good_of_word (List.all_eq_true.mp h w hw)⟩
/-! ===== END ===== -/

/-! ===== BEGIN exceptions that leave a method, and their catching by the caller (launches without stack traces) ===== -/
section VXA
/-! The laws vx_back, vx_callV, vx_callS, vx_callSW, vx_throw0, vx_throwS follow proofs of the library, with one case more: JvmDerived/Free/Laws.lean (Back.of_free), Shelf42/LK1.lean (callV, callS), Shelf/KitTraced.lean (throwNew0V, throwNewS). -/
/-- where a method has thrown q: the class by its name, the cell, what was written, the world -/
def vx_T (XC : String → State → State → Prop) (st : State) (q : Addr) (t : State) (mc ms : Nat) (free : Addr → Prop) : Prop :=
  ∃ (E : String) (ce : Cell) (L : List Loc), XC E st t ∧ t.heap[q]? = some ce ∧ ce.vm = .none ∧ st.vm.findClass E = some ce.cls ∧ st.WarmedH t.vm ∧ st.sameButNew ({ t with vm := st.vm } : State) L mc ms ∧ ∀ z ∈ L, free z.base
def vx_Q (Qc : Array Value → State → Outcome → State → Prop) (XC : String → State → State → Prop) (mc ms : Nat) (free : Addr → Prop) : Array Value → State → Outcome → State → Prop := fun a st o t =>
  (Qc a st o t ∧ ∃ L, FrameEnd st o t L mc ms ∧ ∀ q ∈ L, free q.base) ∨ ∃ q, o = .threw q ∧ vx_T XC st q t mc ms free
/-- a callee that returns or throws -/
def vx_Met (l : Launch) (y : MethodName) (ws : List Cond) (rm : Room) (Pc : Array Value → State → Prop) (Qc : Array Value → State → Outcome → State → Prop) (XC : String → State → State → Prop) (mc ms : Nat) (free : Addr → Prop) : Prop :=
  MetFree l y (headSpec ws rm) Pc (fun _ _ _ _ _ => True) (vx_Q Qc XC mc ms free)
def vx_Post (XC : String → State → State → Prop) (mc ms : Nat) (free : Addr → Prop) : Pt → Array Value → Addr → Pt → Prop := fun A a q B =>
  ∃ (g : JFrame) (mk : MethodId) (t : State) (L : List Loc) (E : String) (ce : Cell), B.U.heap = t.heap ∧ B.U.vm = t.vm ∧ XC E (A.U.calling g mk a) t ∧ t.heap[q]? = some ce ∧ ce.vm = .none ∧ A.U.vm.findClass E = some ce.cls ∧ B.locs = A.locs ++ L ∧ (∀ z ∈ L, free z.base) ∧ B.cells = A.cells + mc ∧ B.slots = A.slots + ms
def vx_Back (l : Launch) (R : Room) (p : Program) (e : Env) (below : List Frame) (s : State) (sargs : Array Value) (y : MethodName) (len W9 : Nat)
    (Pre : Pt → Array Value → Prop) (Post : Pt → Array Value → Option Value → Pt → Prop) (PostX : Pt → Array Value → Addr → Pt → Prop) : Prop :=
  ∀ (m : MethodId) (meth : Method) (c : Code) (A : Pt) (g : JFrame) (ig : Instr) (mk : MethodId) (a : Array Value),
    Stand p l e R s m sargs below meth c A.U A.locs A.cells A.slots → g.method = m → g.locals.size = c.maxLocals → decode c.code g.pc = .ok (ig, len) →
    2 * g.monitorRoom + (g.stack.map fun v => v.category).sum ≤ W9 → A.U.methodNamed? y = some mk → Pre A a →
    (∃ (v : Option Value) (B : Pt), Stand p l e R s m sargs below meth c B.U B.locs B.cells B.slots ∧ Post A a v B ∧
      Steps p.tables e below (doInvoke e (A.U.setTop g) [] mk a).1 (B.U.setTop { g with pc := g.pc + len, stack := v.toList ++ g.stack })) ∨
    (∃ (q : Addr) (B : Pt), Stand p l e R s m sargs below meth c B.U B.locs B.cells B.slots ∧ PostX A a q B ∧
      Steps p.tables e below (doInvoke e (A.U.setTop g) [] mk a).1 ((B.U.setTop g).pushFrame (.throwing q)))
section Payer
variable {l : Launch} {R : Room} {p : Program} {e : Env} {below : List Frame} {s : State} {sargs : Array Value} {y : MethodName} {len W9 : Nat}
theorem vx_back {ws : List Cond} {rm : Room} {Pc : Array Value → State → Prop} {Qc : Array Value → State → Outcome → State → Prop} {XC : String → State → State → Prop} {mc ms : Nat} {free : Addr → Prop} {bytes : ByteArray} {maxL : Nat} {ret : Option FieldType}
    (hM : vx_Met l y ws rm Pc Qc XC mc ms free) (hblind : FrameBlind Pc) (hrc : rm.cells = mc) (hrs : rm.slots = ms)
    (hframes : rm.frames + 1 ≤ R.frames) (hlocals : W9 + (maxL + 11) + rm.locals ≤ R.locals)
    (hws : ∀ w ∈ ws, ∀ a' U, s.WarmedH U.vm → w.before a' U = true) (hcode : Cond.code y bytes maxL ret ∈ ws) (hinit : ∀ a' U, s.WarmedH U.vm → (Cond.initialized y.cls).before a' U = true) :
    vx_Back l R p e below s sargs y len W9 (PreOf R mc ms Pc) (PostOf Qc mc ms free) (vx_Post XC mc ms free) := by
  intro m meth c A g ig mk a X hg hsize hdg hW hn hp
  have h1 : (headSpec ws rm).pre.before a A.U = true := atoms_intro fun w hw => hws w hw _ _ X.warmed
  have h2 : (Cond.code y bytes maxL ret).before a A.U = true := hws _ hcode _ _ X.warmed
  have h3 : (Cond.initialized y.cls).before a A.U = true := hinit _ _ X.warmed
  have h4 : A.cells + (headSpec ws rm).room.cells ≤ R.cells := by rw [show (headSpec ws rm).room.cells = mc from hrc]; exact hp.1
  have h5 : A.slots + (headSpec ws rm).room.slots ≤ R.slots := by rw [show (headSpec ws rm).room.slots = ms from hrs]; exact hp.2.1
  have hPc : Pc a (A.U.calling g mk a) := hblind _ _ _ _ hp.2.2
  obtain ⟨U, Ls, c0, s0⟩ := A
  dsimp only [Pt.U, Pt.locs, Pt.cells, Pt.slots] at h1 h2 h3 h4 h5 X hn hPc ⊢
  obtain ⟨methY, cY, hmY, hcY, -, hlY, -, -, -, -⟩ := Cond.code_spec hn h2
  obtain ⟨kY, hkY, -⟩ := className_of_methodNamed hn
  have hinitY : kY.init = .initialized := Cond.initialized_spec (findClass_of_methodNamed hn) hkY h3
  have h : At U g.method c below := by rw [hg]; exact X.here
  have hlocals9 : W9 + (maxL + 11) + (headSpec ws rm).room.locals ≤ R.locals := hlocals
  have happ : (headSpec ws rm).appliesLoose y e.platform (U.calling g mk a) = true :=
    Spec.appliesLoose_calling (g := g) h hdg hn hkY hinitY
      (X.room_calling (g := g) (R' := (headSpec ws rm).room) hsize hmY hcY hframes (by rw [hlY]; omega) h4 h5) h1
  obtain ⟨mid, hmid⟩ := h.above
  have hfr : (U.setTop g).frames = (.java g :: mid) ++ below := by rw [State.frames_setTop' g h.top, hmid]; rfl
  obtain ⟨o, s₂, hsteps, -, hend, hq⟩ := Steps.callFree hM p X.admits X.cas X.clock (acts := []) hfr happ hPc trivial
  have hq' : vx_Q Qc XC mc ms free a (U.calling g mk a) o s₂ := hq
  rw [State.frames_setTop' g h.top] at hend
  obtain ⟨g₀, hg0⟩ := Option.isSome_iff_exists.mp h.top
  obtain ⟨r, hr⟩ := State.topJava?_eq_some.mp hg0
  have hr' : (({ U with heap := s₂.heap, slotsUsed := s₂.slotsUsed } : State).setVm s₂.vm).frames = .java g₀ :: r := hr
  rcases hq' with ⟨hqc, L, hfe, hL⟩ | ⟨q, rfl, E, ce, L, hx, hce, hcv, hcl, hW₂, hsm, hL⟩
  · obtain ⟨⟨v, rfl⟩, hW₂, e2, q2, q3, q4, q5, q6⟩ := id hfe
    have e3 : s₂ = ({ (U.calling g mk a).setFrames s₂.frames with heap := s₂.heap, slotsUsed := s₂.slotsUsed } : State).setVm s₂.vm := by
      have : s₂ = ({ s₂ with vm := (U.calling g mk a).vm } : State).setVm s₂.vm := rfl
      rw [e2] at this
      exact this
    obtain ⟨c₂, i₂, len₂, hc₂, hd₂, hf₂⟩ := hend
    have hW' : U.WarmedH s₂.vm := hW₂
    have hcc : c₂ = c := by
      have h1 : s₂.code? g.method = U.code? g.method := by
        rw [State.code?_eq, State.code?_eq, hW'.alike.method?]
      exact Option.some.inj (hc₂.symm.trans (h1.trans h.code))
    subst hcc
    have hlen : len₂ = len := by rw [hdg] at hd₂; cases hd₂; rfl
    subst hlen
    have hs₂ : s₂ = (({ U with heap := s₂.heap, slotsUsed := s₂.slotsUsed } : State).setVm s₂.vm).setTop { g with pc := g.pc + len₂, stack := v.toList ++ g.stack } := by
      refine e3.trans ?_
      rw [hf₂, State.calling_eq h.top, State.setFrames_setFrames, State.setTop_of_frames _ hr', hr]
      rfl
    have hsame : U.sameButNew ({ U with heap := s₂.heap, slotsUsed := s₂.slotsUsed } : State) L mc ms := by
      refine ⟨?_, q2, q3, q4, q5, q6⟩
      obtain ⟨t, ht, -⟩ := State.frames_cons hr
      show ({ U with heap := s₂.heap, slotsUsed := s₂.slotsUsed } : State) = { U.setFrames U.frames with heap := s₂.heap, slotsUsed := s₂.slotsUsed }
      rw [State.setFrames_self ht]
    subst hg
    refine Or.inl ⟨v, ⟨(({ U with heap := s₂.heap, slotsUsed := s₂.slotsUsed } : State).setVm s₂.vm), Ls ++ L, c0 + mc, s0 + ms⟩,
      ⟨X.admits, X.cas, X.clock, X.frames, X.room, X.hears, X.method, X.code, (X.here.setHeapUsed s₂.heap s₂.slotsUsed).setVm hW'.alike, X.tail, State.WarmedH.trans X.warmed hW', X.limits, X.bytes, X.same.trans (hsame.setVm s.vm)⟩,
      ⟨g, mk, s₂, L, rfl, rfl, hqc, rfl, hL, rfl, rfl⟩, ?_⟩
    show Steps p.tables e below _ ((({ U with heap := s₂.heap, slotsUsed := s₂.slotsUsed } : State).setVm s₂.vm).setTop { g with pc := g.pc + len₂, stack := v.toList ++ g.stack })
    rw [← hs₂]
    exact hsteps
  · obtain ⟨e2, q2, q3, q4, q5, q6⟩ := id hsm
    have e3 : s₂ = ({ (U.calling g mk a).setFrames s₂.frames with heap := s₂.heap, slotsUsed := s₂.slotsUsed } : State).setVm s₂.vm := by
      have : s₂ = ({ s₂ with vm := (U.calling g mk a).vm } : State).setVm s₂.vm := rfl
      rw [e2] at this
      exact this
    have hf₂ : s₂.frames = .throwing q :: .java g :: U.frames.tail := hend
    have hW' : U.WarmedH s₂.vm := hW₂
    have hs₂ : s₂ = ((({ U with heap := s₂.heap, slotsUsed := s₂.slotsUsed } : State).setVm s₂.vm).setTop g).pushFrame (.throwing q) := by
      refine e3.trans ?_
      rw [hf₂, State.calling_eq h.top, State.setFrames_setFrames, State.pushFrame, State.frames_setTop _ hr', State.setTop_of_frames _ hr', State.setFrames_setFrames, hr]
      rfl
    have hsame : U.sameButNew ({ U with heap := s₂.heap, slotsUsed := s₂.slotsUsed } : State) L mc ms := by
      refine ⟨?_, q2, q3, q4, q5, q6⟩
      obtain ⟨t, ht, -⟩ := State.frames_cons hr
      show ({ U with heap := s₂.heap, slotsUsed := s₂.slotsUsed } : State) = { U.setFrames U.frames with heap := s₂.heap, slotsUsed := s₂.slotsUsed }
      rw [State.setFrames_self ht]
    subst hg
    refine Or.inr ⟨q, ⟨(({ U with heap := s₂.heap, slotsUsed := s₂.slotsUsed } : State).setVm s₂.vm), Ls ++ L, c0 + mc, s0 + ms⟩,
      ⟨X.admits, X.cas, X.clock, X.frames, X.room, X.hears, X.method, X.code, (X.here.setHeapUsed s₂.heap s₂.slotsUsed).setVm hW'.alike, X.tail, State.WarmedH.trans X.warmed hW', X.limits, X.bytes, X.same.trans (hsame.setVm s.vm)⟩,
      ⟨g, mk, s₂, L, E, ce, rfl, rfl, hx, hce, hcv, hcl, rfl, hL, rfl, rfl⟩, ?_⟩
    show Steps p.tables e below _ (((({ U with heap := s₂.heap, slotsUsed := s₂.slotsUsed } : State).setVm s₂.vm).setTop g).pushFrame (.throwing q))
    rw [← hs₂]
    exact hsteps
end Payer
section Calls
variable {p : Program} {l : Launch} {e : Env} {R : Room} {s : State} {m : MethodId} {args : Array Value} {below : List Frame} {meth : Method} {c : Code} {T : State} {locs : List Loc} {cells slots : Nat}
theorem vx_callV (X : Stand p l e R s m args below meth c T locs cells slots) (hexec : p.tables.exec = Jvm.exec) {own C : String} {index : Nat} {y : MethodName} {bytes : ByteArray} {maxL : Nat} {ret : Option FieldType}
    (hown : s.vm.findClass own = some m.cls) (hlink : (Cond.methodLink own index y).before args s = true) (hinst : (Cond.instanceMethod y).before args s = true) (hsel : (Cond.selects C y y).before args s = true)
    (hcode : (Cond.code y bytes maxL ret).before args s = true) (hy : y.cls ≠ "java/lang/invoke/MethodHandle" ∧ y.cls ≠ "java/lang/invoke/VarHandle")
    {W9 : Nat} {Pre : Pt → Array Value → Prop} {Post : Pt → Array Value → Option Value → Pt → Prop} {PostX : Pt → Array Value → Addr → Pt → Prop} (hK : vx_Back l R p e below s args y 3 W9 Pre Post PostX)
    {b : Addr} {cellB : Cell} (hcell : T.heap[b]? = some cellB) (hobj : cellB.vm.isStatics = false) (hcls : s.vm.findClass C = some cellB.cls)
    {g : JFrame} (hg : g.method = m) (hsize : g.locals.size = c.maxLocals) {argsL rest : List Value} (hlen : ∀ sig, parseMethodDescriptor y.desc = some sig → argsL.length = sig.parameters.length)
    (hstack : g.stack = argsL.reverse ++ .ref b :: rest) (hW : 2 * g.monitorRoom + (rest.map fun v => v.category).sum ≤ W9) (hdg : decode c.code g.pc = .ok (.invokevirtual index, 3))
    (hpre : ∀ vm₁, s.WarmedH vm₁ → Pre ⟨T.setVm vm₁, locs, cells, slots⟩ (Value.ref b :: argsL).toArray) :
    (∃ (v : Option Value) (vm₁ : Vm) (B : Pt), s.WarmedH vm₁ ∧ Stand p l e R s m args below meth c B.U B.locs B.cells B.slots ∧ Post ⟨T.setVm vm₁, locs, cells, slots⟩ (Value.ref b :: argsL).toArray v B ∧
      ∀ target, Steps p.tables e below (B.U.setTop { g with pc := g.pc + 3, stack := v.toList ++ rest }) target → Steps p.tables e below (T.setTop g) target) ∨
    (∃ (q : Addr) (vm₁ : Vm) (B : Pt), s.WarmedH vm₁ ∧ Stand p l e R s m args below meth c B.U B.locs B.cells B.slots ∧ PostX ⟨T.setVm vm₁, locs, cells, slots⟩ (Value.ref b :: argsL).toArray q B ∧
      Steps p.tables e below (T.setTop g) ((B.U.setTop { g with stack := rest }).pushFrame (.throwing q))) := by
  obtain ⟨mk, methM, hnamed, hmethM, hstM, habM⟩ := Cond.instanceMethod_spec hinst
  obtain ⟨methM', cM, hmethM', -, -, -, -, -, -, hsigM⟩ := Cond.code_spec hnamed hcode
  cases hmethM.symm.trans hmethM'
  obtain ⟨c2, r2, m2, q1, q2, q3, q4, kP, hkP, hkPi⟩ := Cond.selects_spec hsel
  cases hcls.symm.trans q1
  cases (State.methodFound?_of_named hnamed hy).symm.trans q2
  cases hnamed.symm.trans q3
  have hselP : selectMethod e.platform s.vm cellB.cls mk = .method mk := by rw [Launch.admits_selectMethod X.admits]; exact q4
  obtain ⟨vm₁, X₁, hstep₁⟩ := X.invokevirtual hexec hown hlink hnamed hmethM hstM hkP hkPi hy (a := b) (cell := cellB) hcell
    (fun z h => by rw [h] at hobj; cases hobj) hselP hmethM habM hkP hkPi (g := g) hg (argsL := argsL) (rest := rest) (hlen _ hsigM) hstack hdg
  rcases hK m meth c ⟨T.setVm vm₁, locs, cells, slots⟩ { g with stack := rest } (.invokevirtual index) mk (Value.ref b :: argsL).toArray X₁ hg hsize hdg hW (X₁.named hnamed) (hpre vm₁ X₁.warmed) with ⟨v, B, X', hpost, hsteps⟩ | ⟨q, B, X', hpost, hsteps⟩
  · exact Or.inl ⟨v, vm₁, B, X₁.warmed, X', hpost, fun target h => hstep₁ _ fun acts => by rw [doInvoke_state]; exact hsteps.trans h⟩
  · exact Or.inr ⟨q, vm₁, B, X₁.warmed, X', hpost, hstep₁ _ fun acts => by rw [doInvoke_state]; exact hsteps⟩
theorem vx_callS (X : Stand p l e R s m args below meth c T locs cells slots) (hexec : p.tables.exec = Jvm.exec) {own : String} {index : Nat} {y : MethodName} {bytes : ByteArray} {maxL : Nat} {ret : Option FieldType}
    (hown : s.vm.findClass own = some m.cls) (hlink : (Cond.methodLink own index y).before args s = true) (hstat : (Cond.static y).before args s = true) (hinit : (Cond.initialized y.cls).before args s = true)
    (hcode : (Cond.code y bytes maxL ret).before args s = true) (hy : y.cls ≠ "java/lang/invoke/MethodHandle" ∧ y.cls ≠ "java/lang/invoke/VarHandle")
    {W9 : Nat} {Pre : Pt → Array Value → Prop} {Post : Pt → Array Value → Option Value → Pt → Prop} {PostX : Pt → Array Value → Addr → Pt → Prop} (hK : vx_Back l R p e below s args y 3 W9 Pre Post PostX)
    {g : JFrame} (hg : g.method = m) (hsize : g.locals.size = c.maxLocals) {argsL rest : List Value} (hlen : ∀ sig, parseMethodDescriptor y.desc = some sig → argsL.length = sig.parameters.length)
    (hstack : g.stack = argsL.reverse ++ rest) (hW : 2 * g.monitorRoom + (rest.map fun v => v.category).sum ≤ W9) (hdg : decode c.code g.pc = .ok (.invokestatic index, 3))
    (hpre : ∀ vm₁, s.WarmedH vm₁ → Pre ⟨T.setVm vm₁, locs, cells, slots⟩ argsL.toArray) :
    (∃ (v : Option Value) (vm₁ : Vm) (B : Pt), s.WarmedH vm₁ ∧ Stand p l e R s m args below meth c B.U B.locs B.cells B.slots ∧ Post ⟨T.setVm vm₁, locs, cells, slots⟩ argsL.toArray v B ∧
      ∀ target, Steps p.tables e below (B.U.setTop { g with pc := g.pc + 3, stack := v.toList ++ rest }) target → Steps p.tables e below (T.setTop g) target) ∨
    (∃ (q : Addr) (vm₁ : Vm) (B : Pt), s.WarmedH vm₁ ∧ Stand p l e R s m args below meth c B.U B.locs B.cells B.slots ∧ PostX ⟨T.setVm vm₁, locs, cells, slots⟩ argsL.toArray q B ∧
      Steps p.tables e below (T.setTop g) ((B.U.setTop { g with stack := rest }).pushFrame (.throwing q))) := by
  obtain ⟨mk, hnamed⟩ := Cond.code_named hcode
  obtain ⟨methM, cM, hmethM, -, -, -, -, -, -, hsigM⟩ := Cond.code_spec hnamed hcode
  have hstatic : methM.isStatic = true := Cond.static_spec hnamed hmethM hstat
  obtain ⟨kP, hkP, -⟩ := className_of_methodNamed hnamed
  have hinitP : kP.init = .initialized := Cond.initialized_spec (findClass_of_methodNamed hnamed) hkP hinit
  obtain ⟨vm₁, X₁, hstep₁⟩ := X.invokestatic hexec hown hlink hnamed hmethM hstatic hkP hinitP hy (g := g) hg (argsL := argsL) (rest := rest) (hlen _ hsigM) hstack hdg
  rcases hK m meth c ⟨T.setVm vm₁, locs, cells, slots⟩ { g with stack := rest } (.invokestatic index) mk argsL.toArray X₁ hg hsize hdg hW (X₁.named hnamed) (hpre vm₁ X₁.warmed) with ⟨v, B, X', hpost, hsteps⟩ | ⟨q, B, X', hpost, hsteps⟩
  · exact Or.inl ⟨v, vm₁, B, X₁.warmed, X', hpost, fun target h => hstep₁ _ fun acts => by rw [doInvoke_state]; exact hsteps.trans h⟩
  · exact Or.inr ⟨q, vm₁, B, X₁.warmed, X', hpost, hstep₁ _ fun acts => by rw [doInvoke_state]; exact hsteps⟩
end Calls
theorem vx_cls {s : State} {T : State} {vm₁ : Vm} {E : String} {k : ClassId} (hW : s.WarmedH vm₁) (h : (T.setVm vm₁).vm.findClass E = some k) : s.vm.findClass E = some k := by
  have h1 : vm₁.findClass E = some k := h
  rw [hW.alike.findClass] at h1
  exact h1
/-- the method's frame g, with q thrown over it -/
def vx_W (p : Program) (l : Launch) (e : Env) (R : Room) (s : State) (m : MethodId) (args : Array Value) (below : List Frame) (meth : Method) (c : Code) (H : Heap) (locs : List Loc) (cells slots : Nat) (Q : State → Prop) (g : JFrame) (q : Addr) : Prop :=
  ∀ T : State, T.heap = H → Stand p l e R s m args below meth c T locs cells slots → ∃ t, Steps p.tables e below ((T.setTop g).pushFrame (.throwing q)) t ∧ Q t
def vx_Run (p : Program) (l : Launch) (e : Env) (R : Room) (s : State) (m : MethodId) (args : Array Value) (below : List Frame) (meth : Method) (c : Code) (H : Heap) (locs : List Loc) (cells slots mc ms : Nat) (g : JFrame) (rest : List Value) (Qa : State → Outcome → State → Prop) (XC : String → State → State → Prop) (free : Addr → Prop) : Prop :=
  ∀ T : State, T.heap = H → Stand p l e R s m args below meth c T locs cells slots →
    (∃ (v : Option Value) (st₀ t T' : State) (L : List Loc), st₀.heap = H ∧ Stand p l e R s m args below meth c T' (locs ++ L) (cells + mc) (slots + ms) ∧ (∀ q ∈ L, free q.base) ∧ T'.heap = t.heap ∧ T'.vm = t.vm ∧ Qa st₀ (.returned v) t ∧
      Goes p e below T g T' { g with pc := g.pc + 3, stack := v.toList ++ rest }) ∨
    (∃ (q : Addr) (st₀ t T' : State) (L : List Loc) (E : String) (ce : Cell), st₀.heap = H ∧ Stand p l e R s m args below meth c T' (locs ++ L) (cells + mc) (slots + ms) ∧ (∀ z ∈ L, free z.base) ∧ T'.heap = t.heap ∧ T'.vm = t.vm ∧ XC E st₀ t ∧ t.heap[q]? = some ce ∧ ce.vm = .none ∧ s.vm.findClass E = some ce.cls ∧
      Steps p.tables e below (T.setTop g) ((T'.setTop { g with stack := rest }).pushFrame (.throwing q)))
def vx_X {S : Type} (px : S → Prop) (B : String → S → State → Prop) (A : Nat → Prop) : String → State → State → Prop := fun E st t => ∃ u : S, px u ∧ B E u t ∧ va_F A st t
section Runs
variable {p : Program} {l : Launch} {e : Env} {R : Room} {s : State} {m : MethodId} {args : Array Value} {below : List Frame} {meth : Method} {c : Code} {H : Heap} {locs : List Loc} {cells slots : Nat}
variable {y : MethodName} {bytes cc : ByteArray} {maxL nL mc ms n index : Nat} {ret : Option FieldType} {ws : List Cond} {rm : Room} {Pc : Array Value → State → Prop} {Qc : Array Value → State → Outcome → State → Prop} {XC : String → State → State → Prop} {free : Addr → Prop} {Ts : List Cond} {own C : String} {b : Addr} {As rest : List Value} {g : JFrame}
theorem vx_callBack (cb : CallB R s args own index y bytes maxL ret ws rm mc ms n) (hM : vx_Met l y ws rm Pc Qc XC mc ms free) (hbl : FrameBlind Pc) : vx_Back l R p e below s args y 3 8 (PreOf R mc ms Pc) (PostOf Qc mc ms free) (vx_Post XC mc ms free) := by
  obtain ⟨hrc, hrs, hfr, hlo, hws, hcw, -, hini, -⟩ := cb
  exact vx_back (bytes := bytes) (maxL := maxL) (ret := ret) hM hbl hrc hrs hfr hlo hws hcw (fun a' U hW => word_at hW (Or.inl (by first | rfl | simp [Cond.onTables, Cond.keeps, Cond.steady])) hini)
theorem vx_runV (S : CallFix p m c cc nL s args Ts own) (hM : vx_Met l y ws rm Pc Qc XC mc ms free) (cw : CallW R s args own C index y bytes maxL ret ws rm mc ms n) (hp : PreV s H C b Pc As)
    (hg : g.method = m) (hn : As.length = n) (hsize : g.locals.size = nL) (hstack : g.stack = As.reverse ++ .ref b :: rest) (hW : 2 * g.monitorRoom + (rest.map fun v => v.category).sum ≤ 8) (hdg : decode cc g.pc = .ok (.invokevirtual index, 3)) (hf : cells + mc ≤ R.cells ∧ slots + ms ≤ R.slots) :
    vx_Run p l e R s m args below meth c H locs cells slots mc ms g rest (Qc (Value.ref b :: As).toArray) XC free := by
  have hK : vx_Back l R p e below s args y 3 8 (PreOf R mc ms Pc) (PostOf Qc mc ms free) (vx_Post XC mc ms free) := vx_callBack cw.1 hM hp.1
  obtain ⟨⟨-, -, -, -, -, -, hcode, -, hy, hlen, hl⟩, hin, hse⟩ := cw
  obtain ⟨hx, hb, hml, ho, -⟩ := S
  obtain ⟨-, ⟨cellB, hcB, hoB, hclB⟩, hPc⟩ := hp
  intro T hT X
  rcases vx_callV X hx (C := C) (bytes := bytes) (maxL := maxL) (ret := ret) ho hl hin hse hcode hy hK (by rw [hT]; exact hcB) hoB hclB hg (hsize.trans hml.symm) (argsL := As) (rest := rest) (fun sig h => hn.trans (hlen sig h)) hstack hW (by rw [hb]; exact hdg)
    (fun vm₁ hW₁ => ⟨hf.1, hf.2, hPc (T.setVm vm₁) hT hW₁⟩) with ⟨v, vm₁, ⟨U', l2, c2, s2⟩, hW₁, X', ⟨g', mk, t, L, e1, e2, hq, h1, hL, h2, h3⟩, st⟩ | ⟨q, vm₁, ⟨U', l2, c2, s2⟩, hW₁, X', ⟨g', mk, t, L, E, ce, e1, e2, hq, hce, hcv, hcl, h1, hL, h2, h3⟩, st⟩
  · dsimp only [Pt.U, Pt.locs, Pt.cells, Pt.slots] at X' e1 e2 h1 h2 h3 st
    subst h1; subst h2; subst h3
    exact Or.inl ⟨v, (T.setVm vm₁).calling g' mk (Value.ref b :: As).toArray, t, U', L, hT, X', hL, e1, e2, hq, st⟩
  · dsimp only [Pt.U, Pt.locs, Pt.cells, Pt.slots] at X' e1 e2 h1 h2 h3 st hcl
    subst h1; subst h2; subst h3
    exact Or.inr ⟨q, (T.setVm vm₁).calling g' mk (Value.ref b :: As).toArray, t, U', L, E, ce, hT, X', hL, e1, e2, hq, hce, hcv, vx_cls hW₁ hcl, st⟩
theorem vx_runS (S : CallFix p m c cc nL s args Ts own) (hM : vx_Met l y ws rm Pc Qc XC mc ms free) (cw : CallB R s args own index y bytes maxL ret ws rm mc ms n ∧ (Cond.static y).before args s = true) (hp : PreS s H Pc As)
    (hg : g.method = m) (hn : As.length = n) (hsize : g.locals.size = nL) (hstack : g.stack = As.reverse ++ rest) (hW : 2 * g.monitorRoom + (rest.map fun v => v.category).sum ≤ 8) (hdg : decode cc g.pc = .ok (.invokestatic index, 3)) (hf : cells + mc ≤ R.cells ∧ slots + ms ≤ R.slots) :
    vx_Run p l e R s m args below meth c H locs cells slots mc ms g rest (Qc As.toArray) XC free := by
  have hK : vx_Back l R p e below s args y 3 8 (PreOf R mc ms Pc) (PostOf Qc mc ms free) (vx_Post XC mc ms free) := vx_callBack cw.1 hM hp.1
  obtain ⟨⟨-, -, -, -, -, -, hcode, hini, hy, hlen, hl⟩, hstt⟩ := cw
  obtain ⟨hx, hb, hml, ho, -⟩ := S
  intro T hT X
  rcases vx_callS X hx (bytes := bytes) (maxL := maxL) (ret := ret) ho hl hstt hini hcode hy hK hg (hsize.trans hml.symm) (argsL := As) (rest := rest) (fun sig h => hn.trans (hlen sig h)) hstack hW (by rw [hb]; exact hdg)
    (fun vm₁ hW₁ => ⟨hf.1, hf.2, hp.2 (T.setVm vm₁) hT hW₁⟩) with ⟨v, vm₁, ⟨U', l2, c2, s2⟩, hW₁, X', ⟨g', mk, t, L, e1, e2, hq, h1, hL, h2, h3⟩, st⟩ | ⟨q, vm₁, ⟨U', l2, c2, s2⟩, hW₁, X', ⟨g', mk, t, L, E, ce, e1, e2, hq, hce, hcv, hcl, h1, hL, h2, h3⟩, st⟩
  · dsimp only [Pt.U, Pt.locs, Pt.cells, Pt.slots] at X' e1 e2 h1 h2 h3 st
    subst h1; subst h2; subst h3
    exact Or.inl ⟨v, (T.setVm vm₁).calling g' mk As.toArray, t, U', L, hT, X', hL, e1, e2, hq, st⟩
  · dsimp only [Pt.U, Pt.locs, Pt.cells, Pt.slots] at X' e1 e2 h1 h2 h3 st hcl
    subst h1; subst h2; subst h3
    exact Or.inr ⟨q, (T.setVm vm₁).calling g' mk As.toArray, t, U', L, E, ce, hT, X', hL, e1, e2, hq, hce, hcv, vx_cls hW₁ hcl, st⟩
end Runs
section Rows
variable {p : Program} {l : Launch} {e : Env} {R : Room} {s : State} {m : MethodId} {args : Array Value} {below : List Frame} {meth : Method} {c : Code} {H : Heap} {locs : List Loc} {cells slots : Nat} {Q : State → Prop}
variable {mc ms : Nat} {free : Addr → Prop} {A0 A1 : Nat → Prop} {H0 : Heap} {a : Array Value} {pc : Nat} {ls : Array Slot} {st0 rest : List Value}
theorem vx_keep {st₀ t T' : State} {L : List Loc} (h0 : st₀.heap = H) (e1 : T'.heap = t.heap) (hS : va_S A0 H0 H locs) (hA : ∀ q, q < H.size → A1 q → A0 q) (hf : ∀ q, free q → A0 q) (hL : ∀ q ∈ L, free q.base) (hF : va_F A1 st₀ t) :
    H.size ≤ T'.heap.size ∧ (∀ q : Nat, q < H.size → ¬ A1 q → T'.heap[q]? = H[q]?) ∧ va_S A0 H0 T'.heap (locs ++ L) := by
  obtain ⟨hz, hk⟩ := hF
  rw [h0] at hz hk
  exact ⟨by rw [e1]; exact hz, fun q h1 h2 => by rw [e1]; exact hk q h1 h2,
    ⟨Nat.le_trans hS.1 (by rw [e1]; exact hz), fun q h1 h2 => by rw [e1, hk q (Nat.lt_of_lt_of_le h1 hS.1) (fun z => h2 (hA q (Nat.lt_of_lt_of_le h1 hS.1) z))]; exact hS.2.1 q h1 h2, fun q hq => by
      rcases List.mem_append.mp hq with h | h
      · exact hS.2.2 q h
      · exact hf _ (hL q h)⟩⟩
theorem vx_calli {S SX : Type} {post : Int32 → S → Prop} {px : SX → Prop} {B : S → State → Prop} {BX : String → SX → State → Prop} {AX : Nat → Prop} (hr : vx_Run p l e R s m args below meth c H locs cells slots mc ms (F0 m pc ls st0) rest (va_Qi post B A1 a) (vx_X px BX AX) free) (hS : va_S A0 H0 H locs) (hA : ∀ q, q < H.size → A1 q → A0 q) (hf : ∀ q, free q → A0 q) (hAX : ∀ q, q < H.size → AX q → A0 q)
    (kx : ∀ (E : String) (ce : Cell) (q9 : Addr) (u : SX) (t : State) (H1 : Heap) (locs1 : List Loc), t.heap = H1 → s.vm.Alike t.vm → px u → BX E u t → H.size ≤ H1.size → (∀ q : Nat, q < H.size → ¬ AX q → H1[q]? = H[q]?) → va_S A0 H0 H1 locs1 → H1[q9]? = some ce → ce.vm = .none → s.vm.findClass E = some ce.cls → vx_W p l e R s m args below meth c H1 locs1 (cells + mc) (slots + ms) Q (F0 m pc ls rest) q9)
    (kk : ∀ (r : Int32) (u : S) (t : State) (H1 : Heap) (locs1 : List Loc), t.heap = H1 → s.vm.Alike t.vm → post r u → B u t → H.size ≤ H1.size → (∀ q : Nat, q < H.size → ¬ A1 q → H1[q]? = H[q]?) → va_S A0 H0 H1 locs1 → W p l e R s m args below meth c H1 locs1 (cells + mc) (slots + ms) Q (F0 m (pc + 3) ls (.int r :: rest))) : W p l e R s m args below meth c H locs cells slots Q (F0 m pc ls st0) := by
  intro T hT X
  rcases hr T hT X with ⟨v, st₀, t, T', L, h0, X', hL, e1, e2, ⟨⟨r, u, hv, hp, hb⟩, hF⟩, st⟩ | ⟨q, st₀, t, T', L, E, ce, h0, X', hL, e1, e2, ⟨u, hp, hb, hF⟩, hce, hcv, hcl, st⟩
  · cases hv
    obtain ⟨k1, k2, k3⟩ := vx_keep h0 e1 hS hA hf hL hF
    obtain ⟨t2, a1, b1⟩ := kk r u t T'.heap (locs ++ L) e1.symm (by rw [← e2]; exact X'.warmed.alike) hp hb k1 k2 k3 T' rfl X'
    exact ⟨t2, st t2 a1, b1⟩
  · obtain ⟨k1, k2, k3⟩ := vx_keep h0 e1 hS hAX hf hL hF
    obtain ⟨t2, a1, b1⟩ := kx E ce q u t T'.heap (locs ++ L) e1.symm (by rw [← e2]; exact X'.warmed.alike) hp hb k1 k2 k3 (by rw [e1]; exact hce) hcv hcl T' rfl X'
    exact ⟨t2, st.trans a1, b1⟩
theorem vx_calll {S SX : Type} {post : Int64 → S → Prop} {px : SX → Prop} {B : S → State → Prop} {BX : String → SX → State → Prop} {AX : Nat → Prop} (hr : vx_Run p l e R s m args below meth c H locs cells slots mc ms (F0 m pc ls st0) rest (va_Ql post B A1 a) (vx_X px BX AX) free) (hS : va_S A0 H0 H locs) (hA : ∀ q, q < H.size → A1 q → A0 q) (hf : ∀ q, free q → A0 q) (hAX : ∀ q, q < H.size → AX q → A0 q)
    (kx : ∀ (E : String) (ce : Cell) (q9 : Addr) (u : SX) (t : State) (H1 : Heap) (locs1 : List Loc), t.heap = H1 → s.vm.Alike t.vm → px u → BX E u t → H.size ≤ H1.size → (∀ q : Nat, q < H.size → ¬ AX q → H1[q]? = H[q]?) → va_S A0 H0 H1 locs1 → H1[q9]? = some ce → ce.vm = .none → s.vm.findClass E = some ce.cls → vx_W p l e R s m args below meth c H1 locs1 (cells + mc) (slots + ms) Q (F0 m pc ls rest) q9)
    (kk : ∀ (r : Int64) (u : S) (t : State) (H1 : Heap) (locs1 : List Loc), t.heap = H1 → s.vm.Alike t.vm → post r u → B u t → H.size ≤ H1.size → (∀ q : Nat, q < H.size → ¬ A1 q → H1[q]? = H[q]?) → va_S A0 H0 H1 locs1 → W p l e R s m args below meth c H1 locs1 (cells + mc) (slots + ms) Q (F0 m (pc + 3) ls (.long r :: rest))) : W p l e R s m args below meth c H locs cells slots Q (F0 m pc ls st0) := by
  intro T hT X
  rcases hr T hT X with ⟨v, st₀, t, T', L, h0, X', hL, e1, e2, ⟨⟨r, u, hv, hp, hb⟩, hF⟩, st⟩ | ⟨q, st₀, t, T', L, E, ce, h0, X', hL, e1, e2, ⟨u, hp, hb, hF⟩, hce, hcv, hcl, st⟩
  · cases hv
    obtain ⟨k1, k2, k3⟩ := vx_keep h0 e1 hS hA hf hL hF
    obtain ⟨t2, a1, b1⟩ := kk r u t T'.heap (locs ++ L) e1.symm (by rw [← e2]; exact X'.warmed.alike) hp hb k1 k2 k3 T' rfl X'
    exact ⟨t2, st t2 a1, b1⟩
  · obtain ⟨k1, k2, k3⟩ := vx_keep h0 e1 hS hAX hf hL hF
    obtain ⟨t2, a1, b1⟩ := kx E ce q u t T'.heap (locs ++ L) e1.symm (by rw [← e2]; exact X'.warmed.alike) hp hb k1 k2 k3 (by rw [e1]; exact hce) hcv hcl T' rfl X'
    exact ⟨t2, st.trans a1, b1⟩
theorem vx_callf {S SX : Type} {post : UInt32 → S → Prop} {px : SX → Prop} {B : S → State → Prop} {BX : String → SX → State → Prop} {AX : Nat → Prop} (hr : vx_Run p l e R s m args below meth c H locs cells slots mc ms (F0 m pc ls st0) rest (va_Qf post B A1 a) (vx_X px BX AX) free) (hS : va_S A0 H0 H locs) (hA : ∀ q, q < H.size → A1 q → A0 q) (hf : ∀ q, free q → A0 q) (hAX : ∀ q, q < H.size → AX q → A0 q)
    (kx : ∀ (E : String) (ce : Cell) (q9 : Addr) (u : SX) (t : State) (H1 : Heap) (locs1 : List Loc), t.heap = H1 → s.vm.Alike t.vm → px u → BX E u t → H.size ≤ H1.size → (∀ q : Nat, q < H.size → ¬ AX q → H1[q]? = H[q]?) → va_S A0 H0 H1 locs1 → H1[q9]? = some ce → ce.vm = .none → s.vm.findClass E = some ce.cls → vx_W p l e R s m args below meth c H1 locs1 (cells + mc) (slots + ms) Q (F0 m pc ls rest) q9)
    (kk : ∀ (r : UInt32) (u : S) (t : State) (H1 : Heap) (locs1 : List Loc), t.heap = H1 → s.vm.Alike t.vm → post r u → B u t → H.size ≤ H1.size → (∀ q : Nat, q < H.size → ¬ A1 q → H1[q]? = H[q]?) → va_S A0 H0 H1 locs1 → W p l e R s m args below meth c H1 locs1 (cells + mc) (slots + ms) Q (F0 m (pc + 3) ls (.float r :: rest))) : W p l e R s m args below meth c H locs cells slots Q (F0 m pc ls st0) := by
  intro T hT X
  rcases hr T hT X with ⟨v, st₀, t, T', L, h0, X', hL, e1, e2, ⟨⟨r, u, hv, hp, hb⟩, hF⟩, st⟩ | ⟨q, st₀, t, T', L, E, ce, h0, X', hL, e1, e2, ⟨u, hp, hb, hF⟩, hce, hcv, hcl, st⟩
  · cases hv
    obtain ⟨k1, k2, k3⟩ := vx_keep h0 e1 hS hA hf hL hF
    obtain ⟨t2, a1, b1⟩ := kk r u t T'.heap (locs ++ L) e1.symm (by rw [← e2]; exact X'.warmed.alike) hp hb k1 k2 k3 T' rfl X'
    exact ⟨t2, st t2 a1, b1⟩
  · obtain ⟨k1, k2, k3⟩ := vx_keep h0 e1 hS hAX hf hL hF
    obtain ⟨t2, a1, b1⟩ := kx E ce q u t T'.heap (locs ++ L) e1.symm (by rw [← e2]; exact X'.warmed.alike) hp hb k1 k2 k3 (by rw [e1]; exact hce) hcv hcl T' rfl X'
    exact ⟨t2, st.trans a1, b1⟩
theorem vx_calld {S SX : Type} {post : UInt64 → S → Prop} {px : SX → Prop} {B : S → State → Prop} {BX : String → SX → State → Prop} {AX : Nat → Prop} (hr : vx_Run p l e R s m args below meth c H locs cells slots mc ms (F0 m pc ls st0) rest (va_Qd post B A1 a) (vx_X px BX AX) free) (hS : va_S A0 H0 H locs) (hA : ∀ q, q < H.size → A1 q → A0 q) (hf : ∀ q, free q → A0 q) (hAX : ∀ q, q < H.size → AX q → A0 q)
    (kx : ∀ (E : String) (ce : Cell) (q9 : Addr) (u : SX) (t : State) (H1 : Heap) (locs1 : List Loc), t.heap = H1 → s.vm.Alike t.vm → px u → BX E u t → H.size ≤ H1.size → (∀ q : Nat, q < H.size → ¬ AX q → H1[q]? = H[q]?) → va_S A0 H0 H1 locs1 → H1[q9]? = some ce → ce.vm = .none → s.vm.findClass E = some ce.cls → vx_W p l e R s m args below meth c H1 locs1 (cells + mc) (slots + ms) Q (F0 m pc ls rest) q9)
    (kk : ∀ (r : UInt64) (u : S) (t : State) (H1 : Heap) (locs1 : List Loc), t.heap = H1 → s.vm.Alike t.vm → post r u → B u t → H.size ≤ H1.size → (∀ q : Nat, q < H.size → ¬ A1 q → H1[q]? = H[q]?) → va_S A0 H0 H1 locs1 → W p l e R s m args below meth c H1 locs1 (cells + mc) (slots + ms) Q (F0 m (pc + 3) ls (.double r :: rest))) : W p l e R s m args below meth c H locs cells slots Q (F0 m pc ls st0) := by
  intro T hT X
  rcases hr T hT X with ⟨v, st₀, t, T', L, h0, X', hL, e1, e2, ⟨⟨r, u, hv, hp, hb⟩, hF⟩, st⟩ | ⟨q, st₀, t, T', L, E, ce, h0, X', hL, e1, e2, ⟨u, hp, hb, hF⟩, hce, hcv, hcl, st⟩
  · cases hv
    obtain ⟨k1, k2, k3⟩ := vx_keep h0 e1 hS hA hf hL hF
    obtain ⟨t2, a1, b1⟩ := kk r u t T'.heap (locs ++ L) e1.symm (by rw [← e2]; exact X'.warmed.alike) hp hb k1 k2 k3 T' rfl X'
    exact ⟨t2, st t2 a1, b1⟩
  · obtain ⟨k1, k2, k3⟩ := vx_keep h0 e1 hS hAX hf hL hF
    obtain ⟨t2, a1, b1⟩ := kx E ce q u t T'.heap (locs ++ L) e1.symm (by rw [← e2]; exact X'.warmed.alike) hp hb k1 k2 k3 (by rw [e1]; exact hce) hcv hcl T' rfl X'
    exact ⟨t2, st.trans a1, b1⟩
theorem vx_callv {S SX : Type} {post : S → Prop} {px : SX → Prop} {B : S → State → Prop} {BX : String → SX → State → Prop} {AX : Nat → Prop} (hr : vx_Run p l e R s m args below meth c H locs cells slots mc ms (F0 m pc ls st0) rest (va_Qv post B A1 a) (vx_X px BX AX) free) (hS : va_S A0 H0 H locs) (hA : ∀ q, q < H.size → A1 q → A0 q) (hf : ∀ q, free q → A0 q) (hAX : ∀ q, q < H.size → AX q → A0 q)
    (kx : ∀ (E : String) (ce : Cell) (q9 : Addr) (u : SX) (t : State) (H1 : Heap) (locs1 : List Loc), t.heap = H1 → s.vm.Alike t.vm → px u → BX E u t → H.size ≤ H1.size → (∀ q : Nat, q < H.size → ¬ AX q → H1[q]? = H[q]?) → va_S A0 H0 H1 locs1 → H1[q9]? = some ce → ce.vm = .none → s.vm.findClass E = some ce.cls → vx_W p l e R s m args below meth c H1 locs1 (cells + mc) (slots + ms) Q (F0 m pc ls rest) q9)
    (kk : ∀ (u : S) (t : State) (H1 : Heap) (locs1 : List Loc), t.heap = H1 → s.vm.Alike t.vm → post u → B u t → H.size ≤ H1.size → (∀ q : Nat, q < H.size → ¬ A1 q → H1[q]? = H[q]?) → va_S A0 H0 H1 locs1 → W p l e R s m args below meth c H1 locs1 (cells + mc) (slots + ms) Q (F0 m (pc + 3) ls (rest))) : W p l e R s m args below meth c H locs cells slots Q (F0 m pc ls st0) := by
  intro T hT X
  rcases hr T hT X with ⟨v, st₀, t, T', L, h0, X', hL, e1, e2, ⟨⟨u, hv, hp, hb⟩, hF⟩, st⟩ | ⟨q, st₀, t, T', L, E, ce, h0, X', hL, e1, e2, ⟨u, hp, hb, hF⟩, hce, hcv, hcl, st⟩
  · cases hv
    obtain ⟨k1, k2, k3⟩ := vx_keep h0 e1 hS hA hf hL hF
    obtain ⟨t2, a1, b1⟩ := kk u t T'.heap (locs ++ L) e1.symm (by rw [← e2]; exact X'.warmed.alike) hp hb k1 k2 k3 T' rfl X'
    exact ⟨t2, st t2 a1, b1⟩
  · obtain ⟨k1, k2, k3⟩ := vx_keep h0 e1 hS hAX hf hL hF
    obtain ⟨t2, a1, b1⟩ := kx E ce q u t T'.heap (locs ++ L) e1.symm (by rw [← e2]; exact X'.warmed.alike) hp hb k1 k2 k3 (by rw [e1]; exact hce) hcv hcl T' rfl X'
    exact ⟨t2, st.trans a1, b1⟩
/-- caught by the row x of this method's table, which names the thrown thing's own kind; the rows ahead don't lie there -/
theorem vx_catch {own : String} {E : String} {ce : Cell} {q : Addr} (hown : s.vm.findClass own = some m.cls) (pre : List ExceptionTableEntry) (x : ExceptionTableEntry) (suf : List ExceptionTableEntry) (hsplit : c.exceptionTable.toList = pre ++ x :: suf)
    (hpass : ∀ z ∈ pre, covers z pc = false) (hx : covers x pc = true) (h0 : x.catchType ≠ 0)
    (hlink : (Cond.classLink own x.catchType E).before args s = true) (hcell : H[q]? = some ce) (hv : ce.vm = .none) (hcl : s.vm.findClass E = some ce.cls)
    (kk : W p l e R s m args below meth c H locs cells slots Q (F0 m x.handlerPc ls [.ref q])) : vx_W p l e R s m args below meth c H locs cells slots Q (F0 m pc ls rest) q := by
  intro T hT X
  have hpl : e.platform.magicAccessors = ({} : Platform).magicAccessors := by rw [X.admits.platform]
  obtain ⟨c5, hc5, hcl5⟩ := Cond.classLink_spec hown hlink e.platform hpl
  cases Option.some.inj (hcl.symm.trans hc5)
  obtain ⟨vm', X', st⟩ := fx_catch X q (g := F0 m pc ls rest) rfl (by rw [hT]; exact hcell) (by rw [hv]; rfl) (by obtain ⟨k9, h9, -⟩ := Vm.findClass_spec hcl; exact ⟨k9, h9⟩) pre x suf hsplit hpass hx h0 hcl5 (va_asg _ _)
  obtain ⟨t, a1, b1⟩ := kk (T.setVm vm') hT X'
  exact ⟨t, st.trans a1, b1⟩
end Rows
section Ends
variable {p : Program} {l : Launch} {e : Env} {R : Room} {s : State} {m : MethodId} {args : Array Value} {below : List Frame} {meth : Method} {c : Code} {H : Heap} {locs : List Loc} {cells slots : Nat} {Q : State → Prop}
variable {mc ms : Nat} {free : Addr → Prop} {A0 A1 : Nat → Prop} {H0 : Heap} {a : Array Value} {ls : Array Slot} {st0 rest : List Value}
variable {Qc : Array Value → State → Outcome → State → Prop} {XC : String → State → State → Prop}
/-- what a body that may throw owes at its end -/
def vx_MQ (below : List Frame) (Qc : Array Value → State → Outcome → State → Prop) (XC : String → State → State → Prop) (a : Array Value) (s : State) (mc ms : Nat) (free : Addr → Prop) : State → Prop := fun t =>
  ∃ o, t.status = .running ∧ Ended t below o ∧ vx_Q Qc XC mc ms free a s o t
theorem vx_ret {g : JFrame} {mc ms : Nat} (k : W p l e R s m args below meth c H locs cells slots (MQ below Qc args s mc ms free) g) : W p l e R s m args below meth c H locs cells slots (vx_MQ below Qc XC args s mc ms free) g := by
  intro T hT X
  obtain ⟨t, a1, o, b1, b2, b3, b4⟩ := k T hT X
  exact ⟨t, a1, o, b1, b2, Or.inl ⟨b3, b4⟩⟩
/-- not caught here: it goes on to the caller -/
theorem vx_widen {g : JFrame} {q : Addr} {k n : Nat} (h1 : cells ≤ k) (h2 : slots ≤ n) (kk : vx_W p l e R s m args below meth c H locs k n Q g q) : vx_W p l e R s m args below meth c H locs cells slots Q g q := fun T hT X => kk T hT (stand_widen X h1 h2)
theorem vx_out {pc : Nat} {E : String} {ce : Cell} {q : Addr} {mc ms : Nat} (hout : ∀ x ∈ c.exceptionTable.toList, covers x pc = false) (hlocks : meth.locks = false) (hcell : H[q]? = some ce) (hv : ce.vm = .none) (hcl : s.vm.findClass E = some ce.cls)
    (hx : ∀ t : State, t.heap = H → s.vm.Alike t.vm → XC E s t) (hf : ∀ z ∈ locs, free z.base) (hc : cells ≤ mc) (hs : slots ≤ ms) :
    vx_W p l e R s m args below meth c H locs cells slots (vx_MQ below Qc XC args s mc ms free) (F0 m pc ls rest) q := by
  intro T hT X
  obtain ⟨st1, hrun, hend, hW, hsm⟩ := X.leaveThrown q (g := F0 m pc ls rest) rfl rfl rfl hout hlocks
  have hcell9 : (T.setFrames (.throwing q :: below)).heap[q]? = some ce := by
    show T.heap[q]? = some ce
    rw [hT]; exact hcell
  exact ⟨_, st1, .threw q, hrun, hend, Or.inr ⟨q, rfl, E, ce, locs, hx _ hT hW.alike, hcell9, hv, hcl, hW, hsm.mono hc hs, hf⟩⟩
theorem vx_frame {U : State} {k n : Nat} (h : s.sameButNew ({ U with vm := s.vm } : State) locs k n) : s.heap.size ≤ U.heap.size ∧ ∀ q : Nat, q < s.heap.size → (∀ z ∈ locs, z.base ≠ q) → U.heap[q]? = s.heap[q]? := by
  obtain ⟨-, h2, -, -, -, h6⟩ := h
  refine ⟨h2, fun q hq hz => ?_⟩
  obtain ⟨c9, e1, e2, e3, e4⟩ := h6 q _ (Array.getElem?_eq_getElem hq)
  have hs : c9.slots = (s.heap[q]).slots := Array.ext_getElem? fun i => e4 i fun hm => hz _ hm rfl
  have h9 : c9 = s.heap[q] := by
    rw [hs] at e2
    exact e2
  have e5 : U.heap[q]? = some c9 := e1
  rw [e5, h9, Array.getElem?_eq_getElem hq]
/-- the words of a throw but the four that speak of the heap -/
def vx_no (w : Cond) : Bool := decide (w ≠ .isRef (.static Bundle.tN "UNASSIGNED_STACK" Bundle.steD)) && decide (w ≠ .isRef (.static Bundle.tN "SUPPRESSED_SENTINEL" Bundle.listD)) && decide (w ≠ .laysStatic Bundle.tN "UNASSIGNED_STACK" Bundle.steD) && decide (w ≠ .laysStatic Bundle.tN "SUPPRESSED_SENTINEL" Bundle.listD)
def vx_at0 (own : String) (ic : Nat) (X : String) (names : List String) : List Cond := (Bundle.ownAtoms0 own ic X names).filter vx_no
def vx_atS (own : String) (ic : Nat) (X : String) (names : List String) : List Cond := (Bundle.ownAtoms own ic X names).filter vx_no
/-- a word that the tables alone decide, or a good one -/
def vx_ot (w : Cond) : Bool := w.onTables || goodWord w
theorem vx_ot_at {args a' : Array Value} {s U : State} {w : Cond} (hW : s.WarmedH U.vm) (hvm : s.vm = U.vm) (hg : vx_ot w = true) (h : w.before args s = true) : w.before a' U = true := by
  simp only [vx_ot, Bool.or_eq_true] at hg
  rcases hg with hg | hg
  · exact va_tabs hg hvm h
  · exact word_at hW (good_of_word hg) h
/-- a list's words: the good ones out of the method's own list, the others by premises of their own -/
theorem vx_hat {args : Array Value} {s : State} {L B : List Cond} (h1 : ∀ w ∈ L.filter goodWord, w.before args s = true) (h2 : ∀ w ∈ L.filter (fun w => !goodWord w), w ∈ B) (h3 : ∀ w ∈ B, w.before args s = true) : ∀ w ∈ L, w.before args s = true := by
  intro w hw
  by_cases g : goodWord w = true
  · exact h1 w (List.mem_filter.mpr ⟨hw, g⟩)
  · refine h3 w (h2 w (List.mem_filter.mpr ⟨hw, ?_⟩))
    show (!goodWord w) = true
    cases hgw : goodWord w
    · rfl
    · exact absurd hgw g
theorem vx_c {args : Array Value} {s : State} {w : Cond} {B : List Cond} (h : w.before args s = true) (t : ∀ w ∈ B, w.before args s = true) : ∀ w' ∈ w :: B, w'.before args s = true := fun w' h' => (List.mem_cons.mp h').elim (fun e => by rw [e]; exact h) (t w')
theorem vx_n {args : Array Value} {s : State} : ∀ w ∈ ([] : List Cond), w.before args s = true := fun _ h => nomatch h
theorem vx_own {args : Array Value} {s : State} {L : List Cond} (h1 : ∀ w ∈ L.filter vx_no, w.before args s = true)
    (hU : (Cond.isRef (.static Bundle.tN "UNASSIGNED_STACK" Bundle.steD)).before args s = true) (hN : (Cond.isRef (.static Bundle.tN "SUPPRESSED_SENTINEL" Bundle.listD)).before args s = true)
    (lU : (Cond.laysStatic Bundle.tN "UNASSIGNED_STACK" Bundle.steD).before args s = true) (lN : (Cond.laysStatic Bundle.tN "SUPPRESSED_SENTINEL" Bundle.listD).before args s = true) : ∀ w ∈ L, w.before args s = true := by
  intro w hw
  by_cases e1 : w = .isRef (.static Bundle.tN "UNASSIGNED_STACK" Bundle.steD)
  · rw [e1]; exact hU
  · by_cases e2 : w = .isRef (.static Bundle.tN "SUPPRESSED_SENTINEL" Bundle.listD)
    · rw [e2]; exact hN
    · by_cases e3 : w = .laysStatic Bundle.tN "UNASSIGNED_STACK" Bundle.steD
      · rw [e3]; exact lU
      · by_cases e4 : w = .laysStatic Bundle.tN "SUPPRESSED_SENTINEL" Bundle.listD
        · rw [e4]; exact lN
        · exact h1 w (List.mem_filter.mpr ⟨hw, by unfold vx_no; rw [decide_eq_true e1, decide_eq_true e2, decide_eq_true e3, decide_eq_true e4]; rfl⟩)
/-- where a static field lies, its class's statics cell in H -/
def vx_L (C n d : String) (A : Nat → Prop) (U : State) (H : Heap) : Prop := ∃ (c : ClassId) (k : Class) (i : Nat) (f : Field) (a : Nat) (cell : Cell), U.vm.findClass C = some c ∧ U.fieldFound? C n d = some (c, k, i, f) ∧ f.isStatic = true ∧ k.statics = some a ∧ H[a]? = some cell ∧ cell.vm.isStatics = true ∧ cell.cls = c ∧ f.slot < cell.slots.size ∧ k.staticTypes[f.slot]? = some f.type ∧ ¬ A a
theorem vx_L.moved {C n d : String} {A : Nat → Prop} {u U : State} {H : Heap} (hvm : u.vm.Alike U.vm) (h : vx_L C n d A u H) : vx_L C n d A U H := by
  obtain ⟨c, k, i, f, a, cell, h1, h2, h3, h4, h5, h6, h7, h8, h9, h10⟩ := h
  obtain ⟨k', hi', he⟩ := State.fieldFound?_setVm hvm h2
  exact ⟨c, k', i, f, a, cell, by rw [hvm.findClass]; exact h1, hi', h3, by rw [he]; exact h4, h5, h6, h7, h8, by rw [he]; exact h9, h10⟩
theorem vx_L.kept {C n d : String} {A : Nat → Prop} {U : State} {H H1 : Heap} (h : vx_L C n d A U H) (hq : ∀ a : Nat, a < H.size → ¬ A a → H1[a]? = H[a]?) : vx_L C n d A U H1 := by
  obtain ⟨c, k, i, f, a, cell, h1, h2, h3, h4, h5, h6, h7, h8, h9, h10⟩ := h
  exact ⟨c, k, i, f, a, cell, h1, h2, h3, h4, by rw [hq a (Array.getElem?_eq_some_iff.mp h5).1 h10]; exact h5, h6, h7, h8, h9, h10⟩
theorem vx_L.narrow {C n d : String} {A B : Nat → Prop} {U : State} {H : Heap} (h : vx_L C n d A U H) (hAB : ∀ q, B q → A q) : vx_L C n d B U H := by
  obtain ⟨c, k, i, f, a, cell, h1, h2, h3, h4, h5, h6, h7, h8, h9, h10⟩ := h
  exact ⟨c, k, i, f, a, cell, h1, h2, h3, h4, h5, h6, h7, h8, h9, fun z => h10 (hAB _ z)⟩
theorem vx_L.word {C n d : String} {A : Nat → Prop} {s : State} {args : Array Value} (h : vx_L C n d A s s.heap) : (Cond.laysStatic C n d).before args s = true := by
  obtain ⟨c, k, i, f, a, cell, h1, h2, h3, h4, h5, h6, h7, h8, h9, -⟩ := h
  show (Cond.laysStatic C n d).holds args s none s [] = true
  exact Cond.laysStatic_of h1 h2 h3 h4 h5 h6 h7 h8 h9
/-- .. and what it holds: null or some reference -/
def vx_Zq (C n d : String) (A : Nat → Prop) (U : State) (H : Heap) : Prop := va_Zq C n d A U H ∧ vx_L C n d A U H
theorem vx_Zq.moved {C n d : String} {A : Nat → Prop} {u U : State} {H : Heap} (hvm : u.vm.Alike U.vm) (h : vx_Zq C n d A u H) : vx_Zq C n d A U H := ⟨va_Zq.moved hvm h.1, vx_L.moved hvm h.2⟩
theorem vx_Zq.kept {C n d : String} {A : Nat → Prop} {U : State} {H H1 : Heap} (h : vx_Zq C n d A U H) (hq : ∀ a : Nat, a < H.size → ¬ A a → H1[a]? = H[a]?) : vx_Zq C n d A U H1 := ⟨va_Zq.kept h.1 hq, vx_L.kept h.2 hq⟩
theorem vx_Zq.narrow {C n d : String} {A B : Nat → Prop} {U : State} {H : Heap} (h : vx_Zq C n d A U H) (hAB : ∀ q, B q → A q) : vx_Zq C n d B U H := ⟨va_Zq.narrow h.1 hAB, vx_L.narrow h.2 hAB⟩
theorem vx_Zqof {args : Array Value} {s : State} {C n d : String} {A : Nat → Prop} (hl : (Cond.laysStatic C n d).before args s = true) (hini : (Cond.initialized C).before args s = true) (h : (Cond.isRef (.static C n d)).before args s = true) (hA : ∀ a : Nat, a < s.heap.size → ¬ A a) : vx_Zq C n d A s s.heap := by
  refine ⟨va_Zqof hl hini h hA, ?_⟩
  obtain ⟨c, k, i, f, a, cell, h1, h2, h3, h4, h5, h6, h7, h8, h9⟩ := Cond.laysStatic_spec hl
  exact ⟨c, k, i, f, a, cell, h1, h2, h3, h4, h5, h6, h7, h8, h9, hA a (Array.getElem?_eq_some_iff.mp h5).1⟩
theorem vx_isRef {C n d : String} {v : Value} {A : Nat → Prop} {s : State} {args : Array Value} (h : va_Z C n d v A s s.heap) (hv : v.isRef = true) : (Cond.isRef (.static C n d)).before args s = true := by
  obtain ⟨cf, kf, fi, f, a, cell, h1, h2, h3, h4, h5, h6, h7, -⟩ := h
  have he : (Term.static C n d).eval args s none [] s = some v := by
    simp [Term.eval, State.fieldNamed?, h1, h2, h4, h5, h6, h7]
  simp only [Cond.before, Cond.holds, Cond.value, he]
  cases v <;> simp_all [Value.isRef]
theorem vx_isRefq {C n d : String} {A : Nat → Prop} {s : State} {args : Array Value} (h : va_Zq C n d A s s.heap) : (Cond.isRef (.static C n d)).before args s = true := by
  rcases h with h | ⟨t, h⟩
  · exact vx_isRef h rfl
  · exact vx_isRef h rfl
/-- the same frame, seen from here: as if the method were called anew in this heap -/
theorem vx_rebase {T : State} (X : Stand p l e R s m args below meth c T locs cells slots) {R' : Room} (hf : R'.frames ≤ R.frames) (hl : R'.locals ≤ R.locals) (hc : cells + R'.cells ≤ R.cells) (hs : slots + R'.slots ≤ R.slots) :
    Stand p l e R' ((T.setVm s.vm).setFrames (.invoking m args :: below)) m args below meth c T [] 0 0 := by
  have htop : (T.setVm s.vm).topJava?.isSome := X.here.top
  have hF : ((T.setVm s.vm).setFrames (.invoking m args :: below)).frames = .invoking m args :: below := State.frames_setFrames _ (State.cur_lt_of_top htop)
  obtain ⟨g₀, hg0⟩ := Option.isSome_iff_exists.mp htop
  obtain ⟨r, hr⟩ := State.topJava?_eq_some.mp hg0
  have hl9 : e.platform.stackLimits (T.setVm s.vm).me = e.platform.stackLimits s.me := X.limits
  have hb9 : (T.setVm s.vm).me.stackBytes = s.me.stackBytes := X.bytes
  refine ⟨X.admits, X.cas, X.clock, hF, ?_, X.hears, X.method, X.code, X.here, X.tail, X.warmed, ?_, ?_, ?_⟩
  · have h := X.room
    have hU : ((T.setVm s.vm).setFrames (.invoking m args :: below)).localsInUse = s.localsInUse := by
      rw [State.localsInUse_invoking hF (meth := meth) (c := c) X.method X.code, State.localsInUse_invoking X.frames X.method X.code]
    simp only [State.hasRoom, Bool.and_eq_true, decide_eq_true_eq] at h ⊢
    obtain ⟨⟨⟨⟨h1, h2, h3, h4, h5, h6⟩, h7⟩, h8⟩, h9⟩ := h
    rw [X.frames, List.length_cons] at h2 h3
    have q1 := X.heapSize
    have q2 := X.used
    simp only [hF, hU, List.length_cons, State.stackLimits_setFrames, State.stackBytes_setFrames, hl9, hb9]
    refine ⟨⟨⟨⟨by omega, by omega, by omega, by omega, by omega, h6⟩, ?_⟩, ?_⟩, X.book⟩
    · show T.heap.size + R'.cells ≤ e.platform.maxCells
      omega
    · show T.slotsUsed + R'.slots ≤ e.platform.maxSlots
      omega
  · rw [State.stackLimits_setFrames]; rfl
  · rw [State.stackBytes_setFrames]; rfl
  · refine ⟨?_, Nat.le_refl _, Nat.le_refl _, ?_, ?_, fun a c9 h9 => ⟨c9, h9, rfl, rfl, fun _ _ => rfl⟩⟩
    · obtain ⟨t, ht, -⟩ := State.frames_cons hr
      show T.setVm s.vm = { ((T.setVm s.vm).setFrames (.invoking m args :: below)).setFrames (T.setVm s.vm).frames with heap := T.heap, slotsUsed := T.slotsUsed }
      rw [State.setFrames_setFrames, State.setFrames_self ht]
      rfl
    · show T.slotsUsed = T.slotsUsed + ((T.heap.toList.drop T.heap.size).map (·.slots.size)).sum
      rw [List.drop_eq_nil_of_le (Nat.le_of_eq Array.length_toList)]
      rfl
    · show ((T.heap.toList.drop T.heap.size).map (·.slots.size)).sum ≤ 0
      rw [List.drop_eq_nil_of_le (Nat.le_of_eq Array.length_toList)]
      exact Nat.le_refl _
/-- 'throw new E()': new; dup; invokespecial; athrow -/
theorem vx_throw0 {cc : ByteArray} {pc : Nat} (hexec : p.tables.exec = Jvm.exec) (hb : c.code = cc) (hl : l.stackTraces = false) {own cls : String} {names : List String} {ik ic mc ms : Nat} {A : Nat → Prop}
    (hown : s.vm.findClass own = some m.cls) (hcls : Bundle.fit cls = true) (hnames : ∀ n ∈ names, Bundle.fit n = true)
    (hk : (Cond.classLink own ik cls).before args s = true) (hini : (Cond.initialized cls).before args s = true) (hat : ∀ w ∈ vx_at0 own ic cls names, w.before args s = true)
    (hgood : ∀ w ∈ Cond.classLink own ik cls :: Cond.initialized cls :: vx_at0 own ic cls names, vx_ot w = true)
    (hU : vx_Zq Bundle.tN "UNASSIGNED_STACK" Bundle.steD A s s.heap) (hN : vx_Zq Bundle.tN "SUPPRESSED_SENTINEL" Bundle.listD A s s.heap) (hS : va_S A s.heap H locs) (hsize : ls.size = c.maxLocals)
    (d0 : decode cc pc = .ok (.new ik, 3)) (d3 : decode cc (pc + 3) = .ok (.dup, 1)) (d4 : decode cc (pc + 4) = .ok (.invokespecial ic, 3)) (d7 : decode cc (pc + 7) = .ok (.athrow, 1))
    (hout : ∀ x ∈ c.exceptionTable.toList, covers x (pc + 7) = false)
    (hRframes : names.length + 3 < R.frames) (hRlocals : (rest.map fun v => v.category).sum + (13 * (names.length + 1) + 42) ≤ R.locals) (hRcells : cells + 1 ≤ R.cells) (hRslots : slots + 6 ≤ R.slots) (hlocks : meth.locks = false)
    (hx : ∀ t : State, s.vm.Alike t.vm → H.size ≤ t.heap.size → (∀ q : Nat, q < H.size → t.heap[q]? = H[q]?) → XC cls s t)
    (hf : ∀ z ∈ locs, free z.base) (hc : cells + 1 ≤ mc) (hs : slots + 6 ≤ ms) :
    W p l e R s m args below meth c H locs cells slots (vx_MQ below Qc XC args s mc ms free) (F0 m pc ls rest) := by
  intro T hT X
  have htr : e.platform.stackTraces = false := (show e.platform.stackTraces = l.stackTraces by rw [X.admits.platform]).trans hl
  have Y := vx_rebase X (R' := { frames := R.frames, locals := R.locals, cells := 1, slots := 6 }) (Nat.le_refl _) (Nat.le_refl _) hRcells hRslots
  obtain ⟨s', hA⟩ : ∃ z, z = (T.setVm s.vm).setFrames (.invoking m args :: below) := ⟨_, rfl⟩
  rw [← hA] at Y
  have hvm : s'.vm = s.vm := by rw [hA]; rfl
  have hhp : s'.heap = H := by rw [hA]; exact hT
  have hW0 : s.WarmedH s'.vm := by rw [hvm]; exact State.WarmedH.refl s
  have hat' : ∀ w ∈ vx_at0 own ic cls names, w.before args s' = true := fun w hw => vx_ot_at hW0 hvm.symm (hgood w (List.mem_cons_of_mem _ (List.mem_cons_of_mem _ hw))) (hat w hw)
  have hk' : (Cond.classLink own ik cls).before args s' = true := vx_ot_at hW0 hvm.symm (hgood _ List.mem_cons_self) hk
  have hini' : (Cond.initialized cls).before args s' = true := vx_ot_at hW0 hvm.symm (hgood _ (List.mem_cons_of_mem _ List.mem_cons_self)) hini
  have hU' : vx_Zq Bundle.tN "UNASSIGNED_STACK" Bundle.steD A s' s'.heap := by rw [hhp]; exact vx_Zq.moved hW0.alike (hU.kept hS.2.1)
  have hN' : vx_Zq Bundle.tN "SUPPRESSED_SENTINEL" Bundle.listD A s' s'.heap := by rw [hhp]; exact vx_Zq.moved hW0.alike (hN.kept hS.2.1)
  have h : ∀ w ∈ Bundle.ownAtoms0 own ic cls names, w.before args s' = true := vx_own hat' (vx_isRefq hU'.1) (vx_isRefq hN'.1) hU'.2.word hN'.2.word
  have hown' : s'.vm.findClass own = some m.cls := by rw [hvm]; exact hown
  have hins : (Cond.instantiable cls 6).before args s' = true := h _ (by simp [Bundle.ownAtoms0])
  obtain ⟨vm₁, cX, kX, hfX, hkX, -, -, X₁, st1⟩ := Y.newCold hexec (own := own) (C := cls) (index := ik) (n := 6) hown' hk' hins hini'
    (g := F0 m pc ls rest) rfl (by rw [hb]; exact d0) (Nat.le_refl _) (Nat.le_refl _)
  generalize hT1 : (T.setVm vm₁).pushCell { cls := cX, slots := kX.instanceTypes.map defaultValue, vm := .none } = T1 at X₁ st1
  have hcat : (Value.ref T.heap.size).category = 1 := rfl
  have hcellA : T1.heap[T.heap.size]? = some (freshCell cX kX) := by rw [← hT1]; exact State.heap_pushCell_size _ _
  have d3' : decode c.code (pc + 3) = .ok (.dup, 1) := by rw [hb]; exact d3
  obtain ⟨U, hsteps, hrun, hend, hW, hsame, ce, hce, hO⟩ := X₁.ctorThrow0 hexec htr (own := own) (cls := cls) (names := names) (ic := ic) hown' hcls hnames h (fun x hx => nomatch hx) hfX hkX hcellA (by rw [hhp, hT]; exact Nat.le_refl _)
    (g := { method := m, pc := pc + 4, locals := ls, stack := .ref T.heap.size :: .ref T.heap.size :: rest, locked := none }) rfl hsize rfl rfl (rest := rest) rfl
    (by rw [hb]; exact d4) (by rw [hb]; exact d7) hout hRframes (by simp only [List.map_cons, List.sum_cons, hcat]; omega) hlocks
  obtain ⟨f1, f2⟩ := vx_frame hsame
  rw [hhp] at f1 f2
  have hWs : s.WarmedH U.vm := State.WarmedH.trans hW0 hW
  have hcl : s.vm.findClass cls = some ce.cls := by
    have h9 := hO.cls
    rw [hvm] at h9
    exact h9
  have hall : s.sameButNew ({ U with vm := s.vm } : State) locs mc ms := by
    subst hA
    obtain ⟨e1, e2⟩ := hsame
    rw [State.setFrames_setFrames] at e1
    have h2 : (T.setVm s.vm).sameButNew ({ U with vm := s.vm } : State) [] (0 + 1) (0 + 6) := ⟨e1, e2⟩
    have h3 := X.same.trans h2
    rw [List.append_nil] at h3
    exact h3.mono hc hs
  refine ⟨U, ?_, .threw T.heap.size, hrun, hend, Or.inr ⟨T.heap.size, rfl, cls, ce, locs, hx U hWs.alike f1 (fun q hq => f2 q hq (fun z hz => nomatch hz)), hce, hO.vm, hcl, hWs, hall, hf⟩⟩
  refine st1 _ ?_
  show Steps p.tables e below (T1.setTop { method := m, pc := pc + 3, locals := ls, stack := .ref T.heap.size :: rest, locked := none }) _
  jvm_step X₁.here [X₁.here.top, hexec, d3', Value.category]
  exact hsteps
/-- 'throw new E("text")': new; dup; ldc; invokespecial; athrow -/
theorem vx_throwS {cc : ByteArray} {pc : Nat} (hexec : p.tables.exec = Jvm.exec) (hb : c.code = cc) (hl : l.stackTraces = false) {own cls text : String} {names : List String} {ik is ic mc ms sa : Nat} {A : Nat → Prop}
    (hown : s.vm.findClass own = some m.cls) (hcls : Bundle.fit cls = true) (hnames : ∀ n ∈ names, Bundle.fit n = true)
    (hk : (Cond.classLink own ik cls).before args s = true) (hini : (Cond.initialized cls).before args s = true) (hstr : vk_R own is text sa s) (hat : ∀ w ∈ vx_atS own ic cls names, w.before args s = true)
    (hgood : ∀ w ∈ Cond.classLink own ik cls :: Cond.initialized cls :: vx_atS own ic cls names, vx_ot w = true)
    (hU : vx_Zq Bundle.tN "UNASSIGNED_STACK" Bundle.steD A s s.heap) (hN : vx_Zq Bundle.tN "SUPPRESSED_SENTINEL" Bundle.listD A s s.heap) (hS : va_S A s.heap H locs) (hsize : ls.size = c.maxLocals)
    (d0 : decode cc pc = .ok (.new ik, 3)) (d3 : decode cc (pc + 3) = .ok (.dup, 1)) (d4 : decode cc (pc + 4) = .ok (.ldc is, 2)) (d6 : decode cc (pc + 6) = .ok (.invokespecial ic, 3)) (d9 : decode cc (pc + 9) = .ok (.athrow, 1))
    (hout : ∀ x ∈ c.exceptionTable.toList, covers x (pc + 9) = false)
    (hRframes : names.length + 3 < R.frames) (hRlocals : (rest.map fun v => v.category).sum + (13 * (names.length + 1) + 43) ≤ R.locals) (hRcells : cells + 1 ≤ R.cells) (hRslots : slots + 6 ≤ R.slots) (hlocks : meth.locks = false)
    (hx : ∀ t : State, s.vm.Alike t.vm → H.size ≤ t.heap.size → (∀ q : Nat, q < H.size → t.heap[q]? = H[q]?) → XC cls s t)
    (hf : ∀ z ∈ locs, free z.base) (hc : cells + 1 ≤ mc) (hs : slots + 6 ≤ ms) :
    W p l e R s m args below meth c H locs cells slots (vx_MQ below Qc XC args s mc ms free) (F0 m pc ls rest) := by
  intro T hT X
  have htr : e.platform.stackTraces = false := (show e.platform.stackTraces = l.stackTraces by rw [X.admits.platform]).trans hl
  have Y := vx_rebase X (R' := { frames := R.frames, locals := R.locals, cells := 1, slots := 6 }) (Nat.le_refl _) (Nat.le_refl _) hRcells hRslots
  obtain ⟨s', hA⟩ : ∃ z, z = (T.setVm s.vm).setFrames (.invoking m args :: below) := ⟨_, rfl⟩
  rw [← hA] at Y
  have hvm : s'.vm = s.vm := by rw [hA]; rfl
  have hhp : s'.heap = H := by rw [hA]; exact hT
  have hW0 : s.WarmedH s'.vm := by rw [hvm]; exact State.WarmedH.refl s
  have hat' : ∀ w ∈ vx_atS own ic cls names, w.before args s' = true := fun w hw => vx_ot_at hW0 hvm.symm (hgood w (List.mem_cons_of_mem _ (List.mem_cons_of_mem _ hw))) (hat w hw)
  have hk' : (Cond.classLink own ik cls).before args s' = true := vx_ot_at hW0 hvm.symm (hgood _ List.mem_cons_self) hk
  have hini' : (Cond.initialized cls).before args s' = true := vx_ot_at hW0 hvm.symm (hgood _ (List.mem_cons_of_mem _ List.mem_cons_self)) hini
  have hU' : vx_Zq Bundle.tN "UNASSIGNED_STACK" Bundle.steD A s' s'.heap := by rw [hhp]; exact vx_Zq.moved hW0.alike (hU.kept hS.2.1)
  have hN' : vx_Zq Bundle.tN "SUPPRESSED_SENTINEL" Bundle.listD A s' s'.heap := by rw [hhp]; exact vx_Zq.moved hW0.alike (hN.kept hS.2.1)
  have h : ∀ w ∈ Bundle.ownAtoms own ic cls names, w.before args s' = true := vx_own hat' (vx_isRefq hU'.1) (vx_isRefq hN'.1) hU'.2.word hN'.2.word
  have hown' : s'.vm.findClass own = some m.cls := by rw [hvm]; exact hown
  have hins : (Cond.instantiable cls 6).before args s' = true := h _ (by simp [Bundle.ownAtoms])
  obtain ⟨vm₁, cX, kX, hfX, hkX, -, -, X₁, st1⟩ := Y.newCold hexec (own := own) (C := cls) (index := ik) (n := 6) hown' hk' hins hini'
    (g := F0 m pc ls rest) rfl (by rw [hb]; exact d0) (Nat.le_refl _) (Nat.le_refl _)
  generalize hT1 : (T.setVm vm₁).pushCell { cls := cX, slots := kX.instanceTypes.map defaultValue, vm := .none } = T1 at X₁ st1
  have hcat : (Value.ref T.heap.size).category = 1 := rfl
  have hcellA : T1.heap[T.heap.size]? = some (freshCell cX kX) := by rw [← hT1]; exact State.heap_pushCell_size _ _
  have d3' : decode c.code (pc + 3) = .ok (.dup, 1) := by rw [hb]; exact d3
  have d4' : decode c.code (pc + 4) = .ok (.ldc is, 2) := by rw [hb]; exact d4
  have hstr' : vk_R own is text sa s' := vk_R.warm hW0 hstr
  obtain ⟨U, hsteps, hrun, hend, hW, hsame, ce, hce, hO⟩ := X₁.ctorThrowS hexec htr (own := own) (cls := cls) (names := names) (ic := ic) hown' hcls hnames h (fun x hx => nomatch hx) hfX hkX hcellA (by rw [hhp, hT]; exact Nat.le_refl _) (msg := .ref sa) rfl
    (g := { method := m, pc := pc + 6, locals := ls, stack := .ref sa :: .ref T.heap.size :: .ref T.heap.size :: rest, locked := none }) rfl hsize rfl rfl (rest := rest) rfl
    (by rw [hb]; exact d6) (by rw [hb]; exact d9) hout hRframes (by simp only [List.map_cons, List.sum_cons, hcat]; omega) hlocks
  obtain ⟨f1, f2⟩ := vx_frame hsame
  rw [hhp] at f1 f2
  have hWs : s.WarmedH U.vm := State.WarmedH.trans hW0 hW
  have hcl : s.vm.findClass cls = some ce.cls := by
    have h9 := hO.cls
    rw [hvm] at h9
    exact h9
  have hall : s.sameButNew ({ U with vm := s.vm } : State) locs mc ms := by
    subst hA
    obtain ⟨e1, e2⟩ := hsame
    rw [State.setFrames_setFrames] at e1
    have h2 : (T.setVm s.vm).sameButNew ({ U with vm := s.vm } : State) [] (0 + 1) (0 + 6) := ⟨e1, e2⟩
    have h3 := X.same.trans h2
    rw [List.append_nil] at h3
    exact h3.mono hc hs
  refine ⟨U, ?_, .threw T.heap.size, hrun, hend, Or.inr ⟨T.heap.size, rfl, cls, ce, locs, hx U hWs.alike f1 (fun q hq => f2 q hq (fun z hz => nomatch hz)), hce, hO.vm, hcl, hWs, hall, hf⟩⟩
  refine st1 _ ?_
  show Steps p.tables e below (T1.setTop { method := m, pc := pc + 3, locals := ls, stack := .ref T.heap.size :: rest, locked := none }) _
  jvm_step X₁.here [X₁.here.top, hexec, d3', Value.category]
  exact X₁.ldcString hexec (own := own) (text := text) (index := is) (a := sa) hown' hstr'.1 hstr'.2
    (g := { method := m, pc := pc + 4, locals := ls, stack := .ref T.heap.size :: .ref T.heap.size :: rest, locked := none }) rfl d4' _ hsteps
/-- 'throw new E("text")', the text by a wide index -/
theorem vx_throwSW {cc : ByteArray} {pc : Nat} (hexec : p.tables.exec = Jvm.exec) (hb : c.code = cc) (hl : l.stackTraces = false) {own cls text : String} {names : List String} {ik is ic mc ms sa : Nat} {A : Nat → Prop}
    (hown : s.vm.findClass own = some m.cls) (hcls : Bundle.fit cls = true) (hnames : ∀ n ∈ names, Bundle.fit n = true)
    (hk : (Cond.classLink own ik cls).before args s = true) (hini : (Cond.initialized cls).before args s = true) (hstr : vk_R own is text sa s) (hat : ∀ w ∈ vx_atS own ic cls names, w.before args s = true)
    (hgood : ∀ w ∈ Cond.classLink own ik cls :: Cond.initialized cls :: vx_atS own ic cls names, vx_ot w = true)
    (hU : vx_Zq Bundle.tN "UNASSIGNED_STACK" Bundle.steD A s s.heap) (hN : vx_Zq Bundle.tN "SUPPRESSED_SENTINEL" Bundle.listD A s s.heap) (hS : va_S A s.heap H locs) (hsize : ls.size = c.maxLocals)
    (d0 : decode cc pc = .ok (.new ik, 3)) (d3 : decode cc (pc + 3) = .ok (.dup, 1)) (d4 : decode cc (pc + 4) = .ok (.ldc_w is, 3)) (d7 : decode cc (pc + 7) = .ok (.invokespecial ic, 3)) (d10 : decode cc (pc + 10) = .ok (.athrow, 1))
    (hout : ∀ x ∈ c.exceptionTable.toList, covers x (pc + 10) = false)
    (hRframes : names.length + 3 < R.frames) (hRlocals : (rest.map fun v => v.category).sum + (13 * (names.length + 1) + 43) ≤ R.locals) (hRcells : cells + 1 ≤ R.cells) (hRslots : slots + 6 ≤ R.slots) (hlocks : meth.locks = false)
    (hx : ∀ t : State, s.vm.Alike t.vm → H.size ≤ t.heap.size → (∀ q : Nat, q < H.size → t.heap[q]? = H[q]?) → XC cls s t)
    (hf : ∀ z ∈ locs, free z.base) (hc : cells + 1 ≤ mc) (hs : slots + 6 ≤ ms) :
    W p l e R s m args below meth c H locs cells slots (vx_MQ below Qc XC args s mc ms free) (F0 m pc ls rest) := by
  intro T hT X
  have htr : e.platform.stackTraces = false := (show e.platform.stackTraces = l.stackTraces by rw [X.admits.platform]).trans hl
  have Y := vx_rebase X (R' := { frames := R.frames, locals := R.locals, cells := 1, slots := 6 }) (Nat.le_refl _) (Nat.le_refl _) hRcells hRslots
  obtain ⟨s', hA⟩ : ∃ z, z = (T.setVm s.vm).setFrames (.invoking m args :: below) := ⟨_, rfl⟩
  rw [← hA] at Y
  have hvm : s'.vm = s.vm := by rw [hA]; rfl
  have hhp : s'.heap = H := by rw [hA]; exact hT
  have hW0 : s.WarmedH s'.vm := by rw [hvm]; exact State.WarmedH.refl s
  have hat' : ∀ w ∈ vx_atS own ic cls names, w.before args s' = true := fun w hw => vx_ot_at hW0 hvm.symm (hgood w (List.mem_cons_of_mem _ (List.mem_cons_of_mem _ hw))) (hat w hw)
  have hk' : (Cond.classLink own ik cls).before args s' = true := vx_ot_at hW0 hvm.symm (hgood _ List.mem_cons_self) hk
  have hini' : (Cond.initialized cls).before args s' = true := vx_ot_at hW0 hvm.symm (hgood _ (List.mem_cons_of_mem _ List.mem_cons_self)) hini
  have hU' : vx_Zq Bundle.tN "UNASSIGNED_STACK" Bundle.steD A s' s'.heap := by rw [hhp]; exact vx_Zq.moved hW0.alike (hU.kept hS.2.1)
  have hN' : vx_Zq Bundle.tN "SUPPRESSED_SENTINEL" Bundle.listD A s' s'.heap := by rw [hhp]; exact vx_Zq.moved hW0.alike (hN.kept hS.2.1)
  have h : ∀ w ∈ Bundle.ownAtoms own ic cls names, w.before args s' = true := vx_own hat' (vx_isRefq hU'.1) (vx_isRefq hN'.1) hU'.2.word hN'.2.word
  have hown' : s'.vm.findClass own = some m.cls := by rw [hvm]; exact hown
  have hins : (Cond.instantiable cls 6).before args s' = true := h _ (by simp [Bundle.ownAtoms])
  obtain ⟨vm₁, cX, kX, hfX, hkX, -, -, X₁, st1⟩ := Y.newCold hexec (own := own) (C := cls) (index := ik) (n := 6) hown' hk' hins hini'
    (g := F0 m pc ls rest) rfl (by rw [hb]; exact d0) (Nat.le_refl _) (Nat.le_refl _)
  generalize hT1 : (T.setVm vm₁).pushCell { cls := cX, slots := kX.instanceTypes.map defaultValue, vm := .none } = T1 at X₁ st1
  have hcat : (Value.ref T.heap.size).category = 1 := rfl
  have hcellA : T1.heap[T.heap.size]? = some (freshCell cX kX) := by rw [← hT1]; exact State.heap_pushCell_size _ _
  have d3' : decode c.code (pc + 3) = .ok (.dup, 1) := by rw [hb]; exact d3
  have d4' : decode c.code (pc + 4) = .ok (.ldc_w is, 3) := by rw [hb]; exact d4
  have hstr' : vk_R own is text sa s' := vk_R.warm hW0 hstr
  obtain ⟨U, hsteps, hrun, hend, hW, hsame, ce, hce, hO⟩ := X₁.ctorThrowS hexec htr (own := own) (cls := cls) (names := names) (ic := ic) hown' hcls hnames h (fun x hx => nomatch hx) hfX hkX hcellA (by rw [hhp, hT]; exact Nat.le_refl _) (msg := .ref sa) rfl
    (g := { method := m, pc := pc + 7, locals := ls, stack := .ref sa :: .ref T.heap.size :: .ref T.heap.size :: rest, locked := none }) rfl hsize rfl rfl (rest := rest) rfl
    (by rw [hb]; exact d7) (by rw [hb]; exact d10) hout hRframes (by simp only [List.map_cons, List.sum_cons, hcat]; omega) hlocks
  obtain ⟨f1, f2⟩ := vx_frame hsame
  rw [hhp] at f1 f2
  have hWs : s.WarmedH U.vm := State.WarmedH.trans hW0 hW
  have hcl : s.vm.findClass cls = some ce.cls := by
    have h9 := hO.cls
    rw [hvm] at h9
    exact h9
  have hall : s.sameButNew ({ U with vm := s.vm } : State) locs mc ms := by
    subst hA
    obtain ⟨e1, e2⟩ := hsame
    rw [State.setFrames_setFrames] at e1
    have h2 : (T.setVm s.vm).sameButNew ({ U with vm := s.vm } : State) [] (0 + 1) (0 + 6) := ⟨e1, e2⟩
    have h3 := X.same.trans h2
    rw [List.append_nil] at h3
    exact h3.mono hc hs
  refine ⟨U, ?_, .threw T.heap.size, hrun, hend, Or.inr ⟨T.heap.size, rfl, cls, ce, locs, hx U hWs.alike f1 (fun q hq => f2 q hq (fun z hz => nomatch hz)), hce, hO.vm, hcl, hWs, hall, hf⟩⟩
  refine st1 _ ?_
  show Steps p.tables e below (T1.setTop { method := m, pc := pc + 3, locals := ls, stack := .ref T.heap.size :: rest, locked := none }) _
  jvm_step X₁.here [X₁.here.top, hexec, d3', Value.category]
  exact X₁.ldcStringW hexec (own := own) (text := text) (index := is) (a := sa) hown' hstr'.1 hstr'.2
    (g := { method := m, pc := pc + 4, locals := ls, stack := .ref T.heap.size :: .ref T.heap.size :: rest, locked := none }) rfl d4' _ hsteps
end Ends
section Bodies
variable {l : Launch}
theorem vx_ofW {y : MethodName} {ws ws' : List Cond} {rm : Room} {Pc : Array Value → State → Prop} {Qc : Array Value → State → Outcome → State → Prop} {XC : String → State → State → Prop} {mc ms : Nat} {free : Addr → Prop} {cc : ByteArray} {maxL : Nat} {ret : Option FieldType}
    (hy : plainName y.cls = true) (hw : ws = Cond.code y cc maxL ret :: ws')
    (body : ∀ p e s m args below meth c s₁, BodyLoose p l y (headSpec ws rm) cc maxL ret e s m args below meth c s₁ → c.maxLocals = maxL → (∀ x ∈ c.exceptionTable.toList, False) → Pc args s →
      W p l e (headSpec ws rm).room s m args below meth c s.heap [] 0 0 (vx_MQ below Qc XC args s mc ms free) (entryFrame m args maxL)) : vx_Met l y ws rm Pc Qc XC mc ms free := by
  refine MetFree.of_bodyS (code := cc) (maxLocals := maxL) (ret := ret) hy ?_ ?_
  · intro args s m h hn
    obtain ⟨meth, c, h1, h2, h3, h4, h5, h6, -, -⟩ := Cond.code_spec hn (atoms_spec (ws := ws) h _ (by rw [hw]; exact List.mem_cons_self))
    exact ⟨meth, c, h1, h2, h3, h4, h5, h6⟩
  · intro p e s m args below meth c s₁ B hml hP _
    have hh0 : s₁.heap = s.heap := by rw [B.state]; rfl
    have ht : ∀ x ∈ c.exceptionTable.toList, False := by
      obtain ⟨meth9, c9, h1, h2, -, -, -, -, h7, -⟩ := Cond.code_spec B.named (atoms_spec (ws := ws) B.pre _ (by rw [hw]; exact List.mem_cons_self))
      cases Option.some.inj (h1.symm.trans B.method)
      cases Option.some.inj (h2.symm.trans (Stand.of_body B).code)
      intro x hx
      rw [Array.isEmpty_iff.mp h7] at hx
      cases hx
    obtain ⟨t, a1, o, b1, b2, b3⟩ := body p e s m args below meth c s₁ B hml ht hP s₁ hh0 (Stand.of_body B)
    exact ⟨t, o, a1, b1, b2, b3⟩
/-- the table of a body with handlers -/
theorem vx_table {p : Program} {x y : MethodName} {S : Spec} {cc bytes : ByteArray} {maxL maxL' : Nat} {ret ret' : Option FieldType} {e : Env} {s s₁ : State} {m : MethodId} {args : Array Value} {below : List Frame} {meth : Method} {c : Code} {hh : List (Nat × Nat × Nat × Nat)}
    (B : BodyLoose p l y S cc maxL ret e s m args below meth c s₁) (h : (Cond.codeWith y bytes maxL' ret' hh).before args s = true) : c.exceptionTable.toList = tableOf hh := by
  obtain ⟨m9, meth9, c9, hn9, h1, h2, -, -, h6, -⟩ := Cond.codeWith_spec h
  cases Option.some.inj (hn9.symm.trans B.named)
  cases Option.some.inj (h1.symm.trans B.method)
  cases Option.some.inj (h2.symm.trans (Stand.of_body B).code)
  rw [← h6, table_eq]
end Bodies
end VXA
/-! ===== END ===== -/
/-! ===== BEGIN a static call of a method with an exception table ===== -/
section VXS
variable {p : Program} {l : Launch} {e : Env} {R : Room} {s : State} {m : MethodId} {args : Array Value} {below : List Frame} {meth : Method} {c : Code} {T : State} {H : Heap} {locs : List Loc} {cells slots : Nat}
abbrev vx_CSW (R : Room) (s : State) (args : Array Value) (own : String) (index : Nat) (y : MethodName) (bytes : ByteArray) (maxL : Nat) (ret : Option FieldType) (hh : List (Nat × Nat × Nat × Nat)) (ws : List Cond) (rm : Room) (mc ms n : Nat) : Prop :=
  (rm.cells = mc ∧ rm.slots = ms ∧ rm.frames + 1 ≤ R.frames ∧ 8 + (maxL + 11) + rm.locals ≤ R.locals ∧ (∀ w ∈ ws, ∀ (a' : Array Value) (U : State), s.WarmedH U.vm → w.before a' U = true) ∧ Cond.codeWith y bytes maxL ret hh ∈ ws) ∧
  (Cond.codeWith y bytes maxL ret hh).before args s = true ∧ (Cond.initialized y.cls).before args s = true ∧ (y.cls ≠ "java/lang/invoke/MethodHandle" ∧ y.cls ≠ "java/lang/invoke/VarHandle") ∧
  (∀ sig, parseMethodDescriptor y.desc = some sig → n = sig.parameters.length) ∧ (Cond.methodLink own index y).before args s = true ∧ (Cond.static y).before args s = true
theorem vx_cwSW {own : String} {index maxL mc ms : Nat} {y : MethodName} {bytes : ByteArray} {ret : Option FieldType} {hh : List (Nat × Nat × Nat × Nat)} {Ts ws ws' : List Cond} {rm : Room} (n : Nat) (ht : ∀ w ∈ Ts, w.before args s = true) (hT : GoodIn Ts (va_wsS own index y ws)) (hw : ws = Cond.codeWith y bytes maxL ret hh :: ws') (hrc : rm.cells = mc) (hrs : rm.slots = ms)
    (hd : y.cls ≠ "java/lang/invoke/MethodHandle" ∧ y.cls ≠ "java/lang/invoke/VarHandle" ∧ (parseMethodDescriptor y.desc).map (fun d => d.parameters.length) = some n) (hR : rm.frames + 1 ≤ R.frames ∧ 8 + (maxL + 11) + rm.locals ≤ R.locals) :
    vx_CSW R s args own index y bytes maxL ret hh ws rm mc ms n := by
  have ok : ∀ w ∈ va_wsS own index y ws, w.before args s = true := fun w h => ht w (hT w h).1
  have hG : GoodIn Ts ws := fun w h => hT w (by unfold va_wsS; exact List.mem_append_right _ h)
  have hc : Cond.codeWith y bytes maxL ret hh ∈ ws := by rw [hw]; exact List.mem_cons_self
  refine ⟨⟨hrc, hrs, hR.1, hR.2, pay_in ht hG, hc⟩, ht _ (hG _ hc).1, ok _ (by simp [va_wsS]), ⟨hd.1, hd.2.1⟩, fun sig h => ?_, ok _ (by simp [va_wsS]), ok _ (by simp [va_wsS])⟩
  have h2 := hd.2.2
  rw [h] at h2
  exact (Option.some.inj h2).symm
theorem vx_callSW (X : Stand p l e R s m args below meth c T locs cells slots) (hexec : p.tables.exec = Jvm.exec) {own : String} {index : Nat} {y : MethodName} {bytes : ByteArray} {maxL : Nat} {ret : Option FieldType} {hh : List (Nat × Nat × Nat × Nat)}
    (hown : s.vm.findClass own = some m.cls) (hlink : (Cond.methodLink own index y).before args s = true) (hstat : (Cond.static y).before args s = true) (hinit : (Cond.initialized y.cls).before args s = true)
    (hcode : (Cond.codeWith y bytes maxL ret hh).before args s = true) (hy : y.cls ≠ "java/lang/invoke/MethodHandle" ∧ y.cls ≠ "java/lang/invoke/VarHandle")
    {W9 : Nat} {Pre : Pt → Array Value → Prop} {Post : Pt → Array Value → Option Value → Pt → Prop} (hK : Back l R p e below s args y 3 W9 Pre Post)
    {g : JFrame} (hg : g.method = m) (hsize : g.locals.size = c.maxLocals) {argsL rest : List Value} (hlen : ∀ sig, parseMethodDescriptor y.desc = some sig → argsL.length = sig.parameters.length)
    (hstack : g.stack = argsL.reverse ++ rest) (hW : 2 * g.monitorRoom + (rest.map fun v => v.category).sum ≤ W9) (hdg : decode c.code g.pc = .ok (.invokestatic index, 3))
    (hpre : ∀ vm₁, s.WarmedH vm₁ → Pre ⟨T.setVm vm₁, locs, cells, slots⟩ argsL.toArray) :
    ∃ (v : Option Value) (vm₁ : Vm) (B : Pt), s.WarmedH vm₁ ∧ Stand p l e R s m args below meth c B.U B.locs B.cells B.slots ∧ Post ⟨T.setVm vm₁, locs, cells, slots⟩ argsL.toArray v B ∧
      ∀ target, Steps p.tables e below (B.U.setTop { g with pc := g.pc + 3, stack := v.toList ++ rest }) target → Steps p.tables e below (T.setTop g) target := by
  obtain ⟨mk, methM, cM, hnamed, hmethM, -, -, -, -, -, -, hsigM⟩ := Cond.codeWith_spec hcode
  have hstatic : methM.isStatic = true := Cond.static_spec hnamed hmethM hstat
  obtain ⟨kP, hkP, -⟩ := className_of_methodNamed hnamed
  have hinitP : kP.init = .initialized := Cond.initialized_spec (findClass_of_methodNamed hnamed) hkP hinit
  obtain ⟨vm₁, X₁, hstep₁⟩ := X.invokestatic hexec hown hlink hnamed hmethM hstatic hkP hinitP hy (g := g) hg (argsL := argsL) (rest := rest) (hlen _ hsigM) hstack hdg
  obtain ⟨v, B, X', hpost, hsteps⟩ := hK m meth c ⟨T.setVm vm₁, locs, cells, slots⟩ { g with stack := rest } (.invokestatic index) mk argsL.toArray X₁ hg hsize hdg hW (X₁.named hnamed) (hpre vm₁ X₁.warmed)
  exact ⟨v, vm₁, B, X₁.warmed, X', hpost, fun target h => hstep₁ _ fun acts => by rw [doInvoke_state]; exact hsteps.trans h⟩
theorem vx_runSW {y : MethodName} {bytes cc : ByteArray} {maxL nL mc ms n index : Nat} {ret : Option FieldType} {hh : List (Nat × Nat × Nat × Nat)} {ws : List Cond} {rm : Room} {Pc : Array Value → State → Prop} {Qc : Array Value → State → Outcome → State → Prop} {free : Addr → Prop} {Ts : List Cond} {own : String} {As rest : List Value} {g : JFrame}
    (S : CallFix p m c cc nL s args Ts own) (hM : Met l y ws rm Pc Qc mc ms free) (cw : vx_CSW R s args own index y bytes maxL ret hh ws rm mc ms n) (hp : PreS s H Pc As)
    (hg : g.method = m) (hn : As.length = n) (hsize : g.locals.size = nL) (hstack : g.stack = As.reverse ++ rest) (hW : 2 * g.monitorRoom + (rest.map fun v => v.category).sum ≤ 8) (hdg : decode cc g.pc = .ok (.invokestatic index, 3)) (hf : cells + mc ≤ R.cells ∧ slots + ms ≤ R.slots) :
    va_Run p l e R s m args below meth c H locs cells slots mc ms g rest (Qc As.toArray) (free) := by
  obtain ⟨⟨hrc, hrs, hfr, hlo, hws, hcw⟩, hcode, hini, hy, hlen, hl, hstt⟩ := cw
  have hK : Back l R p e below s args y 3 8 (PreOf R mc ms Pc) (PostOf Qc mc ms free) := va_backW (hh := hh) (bytes := bytes) (maxL := maxL) (ret := ret) hM hp.1 hrc hrs hfr hlo hws hcw (fun a' U hW => word_at hW (Or.inl (by first | rfl | simp [Cond.onTables, Cond.keeps, Cond.steady])) hini)
  obtain ⟨hx, hb, hml, ho, -⟩ := S
  intro T hT X
  obtain ⟨v, vm₁, ⟨U', l2, c2, s2⟩, hW₁, X', ⟨g', mk, t, L, e1, e2, hq, h1, hL, h2, h3⟩, st⟩ := vx_callSW X hx (hh := hh) (bytes := bytes) (maxL := maxL) (ret := ret) ho hl hstt hini hcode hy hK hg (hsize.trans hml.symm) (argsL := As) (rest := rest) (fun sig h => hn.trans (hlen sig h)) hstack hW (by rw [hb]; exact hdg)
    (fun vm₁ hW₁ => ⟨hf.1, hf.2, hp.2 (T.setVm vm₁) hT hW₁⟩)
  dsimp only [Pt.U, Pt.locs, Pt.cells, Pt.slots] at X' e1 e2 h1 h2 h3 st
  subst h1; subst h2; subst h3
  exact ⟨v, (T.setVm vm₁).calling g' mk As.toArray, t, U', L, hT, X', hL, e1, e2, hq, st⟩
/-- a thing of a world lies in the heap -/
theorem vx_lt {D : va_G} {cl : List vw_C} {ws : va_W} {H1 : Heap} (h : va_P D cl ws H1) {k : Nat} {q : Nat × va_E} (hk : ws[k]? = some q) : q.1 < H1.size := (h k q hk).lt
end VXS
/-! ===== END ===== -/
/-! ===== BEGIN methods with a table of their own: called by a name, returning or throwing ===== -/
section VXH
/-! vx_backW, vx_callVX, vx_callSX, vx_callVW, vx_runVW, vx_runVX, vx_runSX, vx_ofWH follow the same proofs as their sisters above (Free/Laws.lean, Shelf42/LK1.lean); vx_outP calls Shelf42/NT130.lean (outThrough). -/
section
variable {l : Launch} {R : Room} {p : Program} {e : Env} {below : List Frame} {s : State} {sargs : Array Value} {y : MethodName} {len W9 : Nat}
theorem vx_backW {ws : List Cond} {rm : Room} {Pc : Array Value → State → Prop} {Qc : Array Value → State → Outcome → State → Prop} {XC : String → State → State → Prop} {mc ms : Nat} {free : Addr → Prop} {bytes : ByteArray} {maxL : Nat} {ret : Option FieldType} {hh : List (Nat × Nat × Nat × Nat)}
    (hM : vx_Met l y ws rm Pc Qc XC mc ms free) (hblind : FrameBlind Pc) (hrc : rm.cells = mc) (hrs : rm.slots = ms)
    (hframes : rm.frames + 1 ≤ R.frames) (hlocals : W9 + (maxL + 11) + rm.locals ≤ R.locals)
    (hws : ∀ w ∈ ws, ∀ a' U, s.WarmedH U.vm → w.before a' U = true) (hcode : Cond.codeWith y bytes maxL ret hh ∈ ws) (hinit : ∀ a' U, s.WarmedH U.vm → (Cond.initialized y.cls).before a' U = true) :
    vx_Back l R p e below s sargs y len W9 (PreOf R mc ms Pc) (PostOf Qc mc ms free) (vx_Post XC mc ms free) := by
  intro m meth c A g ig mk a X hg hsize hdg hW hn hp
  have h1 : (headSpec ws rm).pre.before a A.U = true := atoms_intro fun w hw => hws w hw _ _ X.warmed
  have h2 : (Cond.codeWith y bytes maxL ret hh).before a A.U = true := hws _ hcode _ _ X.warmed
  have h3 : (Cond.initialized y.cls).before a A.U = true := hinit _ _ X.warmed
  have h4 : A.cells + (headSpec ws rm).room.cells ≤ R.cells := by rw [show (headSpec ws rm).room.cells = mc from hrc]; exact hp.1
  have h5 : A.slots + (headSpec ws rm).room.slots ≤ R.slots := by rw [show (headSpec ws rm).room.slots = ms from hrs]; exact hp.2.1
  have hPc : Pc a (A.U.calling g mk a) := hblind _ _ _ _ hp.2.2
  obtain ⟨U, Ls, c0, s0⟩ := A
  dsimp only [Pt.U, Pt.locs, Pt.cells, Pt.slots] at h1 h2 h3 h4 h5 X hn hPc ⊢
  obtain ⟨m9, methY, cY, hn9, hmY, hcY, -, hlY, -⟩ := Cond.codeWith_spec h2
  cases Option.some.inj (hn9.symm.trans hn)
  obtain ⟨kY, hkY, -⟩ := className_of_methodNamed hn
  have hinitY : kY.init = .initialized := Cond.initialized_spec (findClass_of_methodNamed hn) hkY h3
  have h : At U g.method c below := by rw [hg]; exact X.here
  have hlocals9 : W9 + (maxL + 11) + (headSpec ws rm).room.locals ≤ R.locals := hlocals
  have happ : (headSpec ws rm).appliesLoose y e.platform (U.calling g mk a) = true :=
    Spec.appliesLoose_calling (g := g) h hdg hn hkY hinitY
      (X.room_calling (g := g) (R' := (headSpec ws rm).room) hsize hmY hcY hframes (by rw [hlY]; omega) h4 h5) h1
  obtain ⟨mid, hmid⟩ := h.above
  have hfr : (U.setTop g).frames = (.java g :: mid) ++ below := by rw [State.frames_setTop' g h.top, hmid]; rfl
  obtain ⟨o, s₂, hsteps, -, hend, hq⟩ := Steps.callFree hM p X.admits X.cas X.clock (acts := []) hfr happ hPc trivial
  have hq' : vx_Q Qc XC mc ms free a (U.calling g mk a) o s₂ := hq
  rw [State.frames_setTop' g h.top] at hend
  obtain ⟨g₀, hg0⟩ := Option.isSome_iff_exists.mp h.top
  obtain ⟨r, hr⟩ := State.topJava?_eq_some.mp hg0
  have hr' : (({ U with heap := s₂.heap, slotsUsed := s₂.slotsUsed } : State).setVm s₂.vm).frames = .java g₀ :: r := hr
  rcases hq' with ⟨hqc, L, hfe, hL⟩ | ⟨q, rfl, E, ce, L, hx, hce, hcv, hcl, hW₂, hsm, hL⟩
  · obtain ⟨⟨v, rfl⟩, hW₂, e2, q2, q3, q4, q5, q6⟩ := id hfe
    have e3 : s₂ = ({ (U.calling g mk a).setFrames s₂.frames with heap := s₂.heap, slotsUsed := s₂.slotsUsed } : State).setVm s₂.vm := by
      have : s₂ = ({ s₂ with vm := (U.calling g mk a).vm } : State).setVm s₂.vm := rfl
      rw [e2] at this
      exact this
    obtain ⟨c₂, i₂, len₂, hc₂, hd₂, hf₂⟩ := hend
    have hW' : U.WarmedH s₂.vm := hW₂
    have hcc : c₂ = c := by
      have h1 : s₂.code? g.method = U.code? g.method := by
        rw [State.code?_eq, State.code?_eq, hW'.alike.method?]
      exact Option.some.inj (hc₂.symm.trans (h1.trans h.code))
    subst hcc
    have hlen : len₂ = len := by rw [hdg] at hd₂; cases hd₂; rfl
    subst hlen
    have hs₂ : s₂ = (({ U with heap := s₂.heap, slotsUsed := s₂.slotsUsed } : State).setVm s₂.vm).setTop { g with pc := g.pc + len₂, stack := v.toList ++ g.stack } := by
      refine e3.trans ?_
      rw [hf₂, State.calling_eq h.top, State.setFrames_setFrames, State.setTop_of_frames _ hr', hr]
      rfl
    have hsame : U.sameButNew ({ U with heap := s₂.heap, slotsUsed := s₂.slotsUsed } : State) L mc ms := by
      refine ⟨?_, q2, q3, q4, q5, q6⟩
      obtain ⟨t, ht, -⟩ := State.frames_cons hr
      show ({ U with heap := s₂.heap, slotsUsed := s₂.slotsUsed } : State) = { U.setFrames U.frames with heap := s₂.heap, slotsUsed := s₂.slotsUsed }
      rw [State.setFrames_self ht]
    subst hg
    refine Or.inl ⟨v, ⟨(({ U with heap := s₂.heap, slotsUsed := s₂.slotsUsed } : State).setVm s₂.vm), Ls ++ L, c0 + mc, s0 + ms⟩,
      ⟨X.admits, X.cas, X.clock, X.frames, X.room, X.hears, X.method, X.code, (X.here.setHeapUsed s₂.heap s₂.slotsUsed).setVm hW'.alike, X.tail, State.WarmedH.trans X.warmed hW', X.limits, X.bytes, X.same.trans (hsame.setVm s.vm)⟩,
      ⟨g, mk, s₂, L, rfl, rfl, hqc, rfl, hL, rfl, rfl⟩, ?_⟩
    show Steps p.tables e below _ ((({ U with heap := s₂.heap, slotsUsed := s₂.slotsUsed } : State).setVm s₂.vm).setTop { g with pc := g.pc + len₂, stack := v.toList ++ g.stack })
    rw [← hs₂]
    exact hsteps
  · obtain ⟨e2, q2, q3, q4, q5, q6⟩ := id hsm
    have e3 : s₂ = ({ (U.calling g mk a).setFrames s₂.frames with heap := s₂.heap, slotsUsed := s₂.slotsUsed } : State).setVm s₂.vm := by
      have : s₂ = ({ s₂ with vm := (U.calling g mk a).vm } : State).setVm s₂.vm := rfl
      rw [e2] at this
      exact this
    have hf₂ : s₂.frames = .throwing q :: .java g :: U.frames.tail := hend
    have hW' : U.WarmedH s₂.vm := hW₂
    have hs₂ : s₂ = ((({ U with heap := s₂.heap, slotsUsed := s₂.slotsUsed } : State).setVm s₂.vm).setTop g).pushFrame (.throwing q) := by
      refine e3.trans ?_
      rw [hf₂, State.calling_eq h.top, State.setFrames_setFrames, State.pushFrame, State.frames_setTop _ hr', State.setTop_of_frames _ hr', State.setFrames_setFrames, hr]
      rfl
    have hsame : U.sameButNew ({ U with heap := s₂.heap, slotsUsed := s₂.slotsUsed } : State) L mc ms := by
      refine ⟨?_, q2, q3, q4, q5, q6⟩
      obtain ⟨t, ht, -⟩ := State.frames_cons hr
      show ({ U with heap := s₂.heap, slotsUsed := s₂.slotsUsed } : State) = { U.setFrames U.frames with heap := s₂.heap, slotsUsed := s₂.slotsUsed }
      rw [State.setFrames_self ht]
    subst hg
    refine Or.inr ⟨q, ⟨(({ U with heap := s₂.heap, slotsUsed := s₂.slotsUsed } : State).setVm s₂.vm), Ls ++ L, c0 + mc, s0 + ms⟩,
      ⟨X.admits, X.cas, X.clock, X.frames, X.room, X.hears, X.method, X.code, (X.here.setHeapUsed s₂.heap s₂.slotsUsed).setVm hW'.alike, X.tail, State.WarmedH.trans X.warmed hW', X.limits, X.bytes, X.same.trans (hsame.setVm s.vm)⟩,
      ⟨g, mk, s₂, L, E, ce, rfl, rfl, hx, hce, hcv, hcl, rfl, hL, rfl, rfl⟩, ?_⟩
    show Steps p.tables e below _ (((({ U with heap := s₂.heap, slotsUsed := s₂.slotsUsed } : State).setVm s₂.vm).setTop g).pushFrame (.throwing q))
    rw [← hs₂]
    exact hsteps
end
variable {p : Program} {l : Launch} {e : Env} {R : Room} {s : State} {m : MethodId} {args : Array Value} {below : List Frame} {meth : Method} {c : Code} {T : State} {H : Heap} {locs : List Loc} {cells slots : Nat}
theorem vx_callVX (X : Stand p l e R s m args below meth c T locs cells slots) (hexec : p.tables.exec = Jvm.exec) {own C : String} {index : Nat} {y : MethodName} {bytes : ByteArray} {maxL : Nat} {ret : Option FieldType} {hh : List (Nat × Nat × Nat × Nat)}
    (hown : s.vm.findClass own = some m.cls) (hlink : (Cond.methodLink own index y).before args s = true) (hinst : (Cond.instanceMethod y).before args s = true) (hsel : (Cond.selects C y y).before args s = true)
    (hcode : (Cond.codeWith y bytes maxL ret hh).before args s = true) (hy : y.cls ≠ "java/lang/invoke/MethodHandle" ∧ y.cls ≠ "java/lang/invoke/VarHandle")
    {W9 : Nat} {Pre : Pt → Array Value → Prop} {Post : Pt → Array Value → Option Value → Pt → Prop} {PostX : Pt → Array Value → Addr → Pt → Prop} (hK : vx_Back l R p e below s args y 3 W9 Pre Post PostX)
    {b : Addr} {cellB : Cell} (hcell : T.heap[b]? = some cellB) (hobj : cellB.vm.isStatics = false) (hcls : s.vm.findClass C = some cellB.cls)
    {g : JFrame} (hg : g.method = m) (hsize : g.locals.size = c.maxLocals) {argsL rest : List Value} (hlen : ∀ sig, parseMethodDescriptor y.desc = some sig → argsL.length = sig.parameters.length)
    (hstack : g.stack = argsL.reverse ++ .ref b :: rest) (hW : 2 * g.monitorRoom + (rest.map fun v => v.category).sum ≤ W9) (hdg : decode c.code g.pc = .ok (.invokevirtual index, 3))
    (hpre : ∀ vm₁, s.WarmedH vm₁ → Pre ⟨T.setVm vm₁, locs, cells, slots⟩ (Value.ref b :: argsL).toArray) :
    (∃ (v : Option Value) (vm₁ : Vm) (B : Pt), s.WarmedH vm₁ ∧ Stand p l e R s m args below meth c B.U B.locs B.cells B.slots ∧ Post ⟨T.setVm vm₁, locs, cells, slots⟩ (Value.ref b :: argsL).toArray v B ∧
      ∀ target, Steps p.tables e below (B.U.setTop { g with pc := g.pc + 3, stack := v.toList ++ rest }) target → Steps p.tables e below (T.setTop g) target) ∨
    (∃ (q : Addr) (vm₁ : Vm) (B : Pt), s.WarmedH vm₁ ∧ Stand p l e R s m args below meth c B.U B.locs B.cells B.slots ∧ PostX ⟨T.setVm vm₁, locs, cells, slots⟩ (Value.ref b :: argsL).toArray q B ∧
      Steps p.tables e below (T.setTop g) ((B.U.setTop { g with stack := rest }).pushFrame (.throwing q))) := by
  obtain ⟨mk, methM, hnamed, hmethM, hstM, habM⟩ := Cond.instanceMethod_spec hinst
  obtain ⟨m8, methM', cM, hn8, hmethM', -, -, -, -, -, -, hsigM⟩ := Cond.codeWith_spec hcode
  cases Option.some.inj (hn8.symm.trans hnamed)
  cases hmethM.symm.trans hmethM'
  obtain ⟨c2, r2, m2, q1, q2, q3, q4, kP, hkP, hkPi⟩ := Cond.selects_spec hsel
  cases hcls.symm.trans q1
  cases (State.methodFound?_of_named hnamed hy).symm.trans q2
  cases hnamed.symm.trans q3
  have hselP : selectMethod e.platform s.vm cellB.cls mk = .method mk := by rw [Launch.admits_selectMethod X.admits]; exact q4
  obtain ⟨vm₁, X₁, hstep₁⟩ := X.invokevirtual hexec hown hlink hnamed hmethM hstM hkP hkPi hy (a := b) (cell := cellB) hcell
    (fun z h => by rw [h] at hobj; cases hobj) hselP hmethM habM hkP hkPi (g := g) hg (argsL := argsL) (rest := rest) (hlen _ hsigM) hstack hdg
  rcases hK m meth c ⟨T.setVm vm₁, locs, cells, slots⟩ { g with stack := rest } (.invokevirtual index) mk (Value.ref b :: argsL).toArray X₁ hg hsize hdg hW (X₁.named hnamed) (hpre vm₁ X₁.warmed) with ⟨v, B, X', hpost, hsteps⟩ | ⟨q, B, X', hpost, hsteps⟩
  · exact Or.inl ⟨v, vm₁, B, X₁.warmed, X', hpost, fun target h => hstep₁ _ fun acts => by rw [doInvoke_state]; exact hsteps.trans h⟩
  · exact Or.inr ⟨q, vm₁, B, X₁.warmed, X', hpost, hstep₁ _ fun acts => by rw [doInvoke_state]; exact hsteps⟩
theorem vx_callSX (X : Stand p l e R s m args below meth c T locs cells slots) (hexec : p.tables.exec = Jvm.exec) {own : String} {index : Nat} {y : MethodName} {bytes : ByteArray} {maxL : Nat} {ret : Option FieldType} {hh : List (Nat × Nat × Nat × Nat)}
    (hown : s.vm.findClass own = some m.cls) (hlink : (Cond.methodLink own index y).before args s = true) (hstat : (Cond.static y).before args s = true) (hinit : (Cond.initialized y.cls).before args s = true)
    (hcode : (Cond.codeWith y bytes maxL ret hh).before args s = true) (hy : y.cls ≠ "java/lang/invoke/MethodHandle" ∧ y.cls ≠ "java/lang/invoke/VarHandle")
    {W9 : Nat} {Pre : Pt → Array Value → Prop} {Post : Pt → Array Value → Option Value → Pt → Prop} {PostX : Pt → Array Value → Addr → Pt → Prop} (hK : vx_Back l R p e below s args y 3 W9 Pre Post PostX)
    {g : JFrame} (hg : g.method = m) (hsize : g.locals.size = c.maxLocals) {argsL rest : List Value} (hlen : ∀ sig, parseMethodDescriptor y.desc = some sig → argsL.length = sig.parameters.length)
    (hstack : g.stack = argsL.reverse ++ rest) (hW : 2 * g.monitorRoom + (rest.map fun v => v.category).sum ≤ W9) (hdg : decode c.code g.pc = .ok (.invokestatic index, 3))
    (hpre : ∀ vm₁, s.WarmedH vm₁ → Pre ⟨T.setVm vm₁, locs, cells, slots⟩ argsL.toArray) :
    (∃ (v : Option Value) (vm₁ : Vm) (B : Pt), s.WarmedH vm₁ ∧ Stand p l e R s m args below meth c B.U B.locs B.cells B.slots ∧ Post ⟨T.setVm vm₁, locs, cells, slots⟩ argsL.toArray v B ∧
      ∀ target, Steps p.tables e below (B.U.setTop { g with pc := g.pc + 3, stack := v.toList ++ rest }) target → Steps p.tables e below (T.setTop g) target) ∨
    (∃ (q : Addr) (vm₁ : Vm) (B : Pt), s.WarmedH vm₁ ∧ Stand p l e R s m args below meth c B.U B.locs B.cells B.slots ∧ PostX ⟨T.setVm vm₁, locs, cells, slots⟩ argsL.toArray q B ∧
      Steps p.tables e below (T.setTop g) ((B.U.setTop { g with stack := rest }).pushFrame (.throwing q))) := by
  obtain ⟨mk, methM, cM, hnamed, hmethM, -, -, -, -, -, -, hsigM⟩ := Cond.codeWith_spec hcode
  have hstatic : methM.isStatic = true := Cond.static_spec hnamed hmethM hstat
  obtain ⟨kP, hkP, -⟩ := className_of_methodNamed hnamed
  have hinitP : kP.init = .initialized := Cond.initialized_spec (findClass_of_methodNamed hnamed) hkP hinit
  obtain ⟨vm₁, X₁, hstep₁⟩ := X.invokestatic hexec hown hlink hnamed hmethM hstatic hkP hinitP hy (g := g) hg (argsL := argsL) (rest := rest) (hlen _ hsigM) hstack hdg
  rcases hK m meth c ⟨T.setVm vm₁, locs, cells, slots⟩ { g with stack := rest } (.invokestatic index) mk argsL.toArray X₁ hg hsize hdg hW (X₁.named hnamed) (hpre vm₁ X₁.warmed) with ⟨v, B, X', hpost, hsteps⟩ | ⟨q, B, X', hpost, hsteps⟩
  · exact Or.inl ⟨v, vm₁, B, X₁.warmed, X', hpost, fun target h => hstep₁ _ fun acts => by rw [doInvoke_state]; exact hsteps.trans h⟩
  · exact Or.inr ⟨q, vm₁, B, X₁.warmed, X', hpost, hstep₁ _ fun acts => by rw [doInvoke_state]; exact hsteps⟩
theorem vx_callVW (X : Stand p l e R s m args below meth c T locs cells slots) (hexec : p.tables.exec = Jvm.exec) {own C : String} {index : Nat} {y : MethodName} {bytes : ByteArray} {maxL : Nat} {ret : Option FieldType} {hh : List (Nat × Nat × Nat × Nat)}
    (hown : s.vm.findClass own = some m.cls) (hlink : (Cond.methodLink own index y).before args s = true) (hinst : (Cond.instanceMethod y).before args s = true) (hsel : (Cond.selects C y y).before args s = true)
    (hcode : (Cond.codeWith y bytes maxL ret hh).before args s = true) (hy : y.cls ≠ "java/lang/invoke/MethodHandle" ∧ y.cls ≠ "java/lang/invoke/VarHandle")
    {W9 : Nat} {Pre : Pt → Array Value → Prop} {Post : Pt → Array Value → Option Value → Pt → Prop} (hK : Back l R p e below s args y 3 W9 Pre Post)
    {b : Addr} {cellB : Cell} (hcell : T.heap[b]? = some cellB) (hobj : cellB.vm.isStatics = false) (hcls : s.vm.findClass C = some cellB.cls)
    {g : JFrame} (hg : g.method = m) (hsize : g.locals.size = c.maxLocals) {argsL rest : List Value} (hlen : ∀ sig, parseMethodDescriptor y.desc = some sig → argsL.length = sig.parameters.length)
    (hstack : g.stack = argsL.reverse ++ .ref b :: rest) (hW : 2 * g.monitorRoom + (rest.map fun v => v.category).sum ≤ W9) (hdg : decode c.code g.pc = .ok (.invokevirtual index, 3))
    (hpre : ∀ vm₁, s.WarmedH vm₁ → Pre ⟨T.setVm vm₁, locs, cells, slots⟩ (Value.ref b :: argsL).toArray) :
    ∃ (v : Option Value) (vm₁ : Vm) (B : Pt), s.WarmedH vm₁ ∧ Stand p l e R s m args below meth c B.U B.locs B.cells B.slots ∧ Post ⟨T.setVm vm₁, locs, cells, slots⟩ (Value.ref b :: argsL).toArray v B ∧
      ∀ target, Steps p.tables e below (B.U.setTop { g with pc := g.pc + 3, stack := v.toList ++ rest }) target → Steps p.tables e below (T.setTop g) target := by
  obtain ⟨mk, methM, hnamed, hmethM, hstM, habM⟩ := Cond.instanceMethod_spec hinst
  obtain ⟨m8, methM', cM, hn8, hmethM', -, -, -, -, -, -, hsigM⟩ := Cond.codeWith_spec hcode
  cases Option.some.inj (hn8.symm.trans hnamed)
  cases hmethM.symm.trans hmethM'
  obtain ⟨c2, r2, m2, q1, q2, q3, q4, kP, hkP, hkPi⟩ := Cond.selects_spec hsel
  cases hcls.symm.trans q1
  cases (State.methodFound?_of_named hnamed hy).symm.trans q2
  cases hnamed.symm.trans q3
  have hselP : selectMethod e.platform s.vm cellB.cls mk = .method mk := by rw [Launch.admits_selectMethod X.admits]; exact q4
  obtain ⟨vm₁, X₁, hstep₁⟩ := X.invokevirtual hexec hown hlink hnamed hmethM hstM hkP hkPi hy (a := b) (cell := cellB) hcell
    (fun z h => by rw [h] at hobj; cases hobj) hselP hmethM habM hkP hkPi (g := g) hg (argsL := argsL) (rest := rest) (hlen _ hsigM) hstack hdg
  obtain ⟨v, B, X', hpost, hsteps⟩ := hK m meth c ⟨T.setVm vm₁, locs, cells, slots⟩ { g with stack := rest } (.invokevirtual index) mk (Value.ref b :: argsL).toArray X₁ hg hsize hdg hW (X₁.named hnamed) (hpre vm₁ X₁.warmed)
  exact ⟨v, vm₁, B, X₁.warmed, X', hpost, fun target h => hstep₁ _ fun acts => by rw [doInvoke_state]; exact hsteps.trans h⟩
abbrev vx_CVW (R : Room) (s : State) (args : Array Value) (own C : String) (index : Nat) (y : MethodName) (bytes : ByteArray) (maxL : Nat) (ret : Option FieldType) (hh : List (Nat × Nat × Nat × Nat)) (ws : List Cond) (rm : Room) (mc ms n : Nat) : Prop :=
  (rm.cells = mc ∧ rm.slots = ms ∧ rm.frames + 1 ≤ R.frames ∧ 8 + (maxL + 11) + rm.locals ≤ R.locals ∧ (∀ w ∈ ws, ∀ (a' : Array Value) (U : State), s.WarmedH U.vm → w.before a' U = true) ∧ Cond.codeWith y bytes maxL ret hh ∈ ws) ∧
  (Cond.codeWith y bytes maxL ret hh).before args s = true ∧ (Cond.initialized y.cls).before args s = true ∧ (y.cls ≠ "java/lang/invoke/MethodHandle" ∧ y.cls ≠ "java/lang/invoke/VarHandle") ∧
  (∀ sig, parseMethodDescriptor y.desc = some sig → n = sig.parameters.length) ∧ (Cond.methodLink own index y).before args s = true ∧ (Cond.instanceMethod y).before args s = true ∧ (Cond.selects C y y).before args s = true
theorem vx_cwVW {own C : String} {index maxL mc ms : Nat} {y : MethodName} {bytes : ByteArray} {ret : Option FieldType} {hh : List (Nat × Nat × Nat × Nat)} {Ts ws ws' : List Cond} {rm : Room} (n : Nat) (ht : ∀ w ∈ Ts, w.before args s = true) (hT : GoodIn Ts (wsV own index C y ws)) (hw : ws = Cond.codeWith y bytes maxL ret hh :: ws') (hrc : rm.cells = mc) (hrs : rm.slots = ms)
    (hd : y.cls = C ∧ y.cls ≠ "java/lang/invoke/MethodHandle" ∧ y.cls ≠ "java/lang/invoke/VarHandle" ∧ (parseMethodDescriptor y.desc).map (fun d => d.parameters.length) = some n) (hR : rm.frames + 1 ≤ R.frames ∧ 8 + (maxL + 11) + rm.locals ≤ R.locals) :
    vx_CVW R s args own C index y bytes maxL ret hh ws rm mc ms n := by
  obtain ⟨hC, hd⟩ := hd
  subst hC
  have ok : ∀ w ∈ wsV own index y.cls y ws, w.before args s = true := fun w h => ht w (hT w h).1
  have hG : GoodIn Ts ws := fun w h => hT w (by unfold wsV; exact List.mem_append_right _ h)
  have hc : Cond.codeWith y bytes maxL ret hh ∈ ws := by rw [hw]; exact List.mem_cons_self
  refine ⟨⟨hrc, hrs, hR.1, hR.2, pay_in ht hG, hc⟩, ht _ (hG _ hc).1, ok _ (by simp [wsV]), ⟨hd.1, hd.2.1⟩, fun sig h => ?_, ok _ (by simp [wsV]), ok _ (by simp [wsV]), ok _ (by simp [wsV])⟩
  have h2 := hd.2.2
  rw [h] at h2
  exact (Option.some.inj h2).symm
theorem vx_runVW {y : MethodName} {bytes cc : ByteArray} {maxL nL mc ms n index : Nat} {ret : Option FieldType} {hh : List (Nat × Nat × Nat × Nat)} {ws : List Cond} {rm : Room} {Pc : Array Value → State → Prop} {Qc : Array Value → State → Outcome → State → Prop} {free : Addr → Prop} {Ts : List Cond} {own C : String} {b : Addr} {As rest : List Value} {g : JFrame}
    (S : CallFix p m c cc nL s args Ts own) (hM : Met l y ws rm Pc Qc mc ms free) (cw : vx_CVW R s args own C index y bytes maxL ret hh ws rm mc ms n) (hp : PreV s H C b Pc As)
    (hg : g.method = m) (hn : As.length = n) (hsize : g.locals.size = nL) (hstack : g.stack = As.reverse ++ .ref b :: rest) (hW : 2 * g.monitorRoom + (rest.map fun v => v.category).sum ≤ 8) (hdg : decode cc g.pc = .ok (.invokevirtual index, 3)) (hf : cells + mc ≤ R.cells ∧ slots + ms ≤ R.slots) :
    va_Run p l e R s m args below meth c H locs cells slots mc ms g rest (Qc (Value.ref b :: As).toArray) free := by
  obtain ⟨⟨hrc, hrs, hfr, hlo, hws, hcw⟩, hcode, hini, hy, hlen, hl, hin, hse⟩ := cw
  have hK : Back l R p e below s args y 3 8 (PreOf R mc ms Pc) (PostOf Qc mc ms free) := va_backW (hh := hh) (bytes := bytes) (maxL := maxL) (ret := ret) hM hp.1 hrc hrs hfr hlo hws hcw (fun a' U hW => word_at hW (Or.inl (by first | rfl | simp [Cond.onTables, Cond.keeps, Cond.steady])) hini)
  obtain ⟨hx, hb, hml, ho, -⟩ := S
  obtain ⟨-, ⟨cellB, hcB, hoB, hclB⟩, hPc⟩ := hp
  intro T hT X
  obtain ⟨v, vm₁, ⟨U', l2, c2, s2⟩, hW₁, X', ⟨g', mk, t, L, e1, e2, hq, h1, hL, h2, h3⟩, st⟩ := vx_callVW X hx (C := C) (hh := hh) (bytes := bytes) (maxL := maxL) (ret := ret) ho hl hin hse hcode hy hK (by rw [hT]; exact hcB) hoB hclB hg (hsize.trans hml.symm) (argsL := As) (rest := rest) (fun sig h => hn.trans (hlen sig h)) hstack hW (by rw [hb]; exact hdg)
    (fun vm₁ hW₁ => ⟨hf.1, hf.2, hPc (T.setVm vm₁) hT hW₁⟩)
  dsimp only [Pt.U, Pt.locs, Pt.cells, Pt.slots] at X' e1 e2 h1 h2 h3 st
  subst h1; subst h2; subst h3
  exact ⟨v, (T.setVm vm₁).calling g' mk (Value.ref b :: As).toArray, t, U', L, hT, X', hL, e1, e2, hq, st⟩
section
variable {y : MethodName} {bytes cc : ByteArray} {maxL nL mc ms n index : Nat} {ret : Option FieldType} {ws : List Cond} {rm : Room} {Pc : Array Value → State → Prop} {Qc : Array Value → State → Outcome → State → Prop} {XC : String → State → State → Prop} {free : Addr → Prop} {Ts : List Cond} {own C : String} {b : Addr} {As rest : List Value} {g : JFrame}
theorem vx_runVX {hh : List (Nat × Nat × Nat × Nat)} (S : CallFix p m c cc nL s args Ts own) (hM : vx_Met l y ws rm Pc Qc XC mc ms free) (cw : vx_CVW R s args own C index y bytes maxL ret hh ws rm mc ms n) (hp : PreV s H C b Pc As)
    (hg : g.method = m) (hn : As.length = n) (hsize : g.locals.size = nL) (hstack : g.stack = As.reverse ++ .ref b :: rest) (hW : 2 * g.monitorRoom + (rest.map fun v => v.category).sum ≤ 8) (hdg : decode cc g.pc = .ok (.invokevirtual index, 3)) (hf : cells + mc ≤ R.cells ∧ slots + ms ≤ R.slots) :
    vx_Run p l e R s m args below meth c H locs cells slots mc ms g rest (Qc (Value.ref b :: As).toArray) XC free := by
  obtain ⟨⟨hrc, hrs, hfr, hlo, hws, hcw⟩, hcode, hini, hy, hlen, hl, hin, hse⟩ := cw
  have hK : vx_Back l R p e below s args y 3 8 (PreOf R mc ms Pc) (PostOf Qc mc ms free) (vx_Post XC mc ms free) := vx_backW (hh := hh) (bytes := bytes) (maxL := maxL) (ret := ret) hM hp.1 hrc hrs hfr hlo hws hcw (fun a' U hW => word_at hW (Or.inl (by first | rfl | simp [Cond.onTables, Cond.keeps, Cond.steady])) hini)
  obtain ⟨hx, hb, hml, ho, -⟩ := S
  obtain ⟨-, ⟨cellB, hcB, hoB, hclB⟩, hPc⟩ := hp
  intro T hT X
  rcases vx_callVX X hx (C := C) (hh := hh) (bytes := bytes) (maxL := maxL) (ret := ret) ho hl hin hse hcode hy hK (by rw [hT]; exact hcB) hoB hclB hg (hsize.trans hml.symm) (argsL := As) (rest := rest) (fun sig h => hn.trans (hlen sig h)) hstack hW (by rw [hb]; exact hdg)
    (fun vm₁ hW₁ => ⟨hf.1, hf.2, hPc (T.setVm vm₁) hT hW₁⟩) with ⟨v, vm₁, ⟨U', l2, c2, s2⟩, hW₁, X', ⟨g', mk, t, L, e1, e2, hq, h1, hL, h2, h3⟩, st⟩ | ⟨q, vm₁, ⟨U', l2, c2, s2⟩, hW₁, X', ⟨g', mk, t, L, E, ce, e1, e2, hq, hce, hcv, hcl, h1, hL, h2, h3⟩, st⟩
  · dsimp only [Pt.U, Pt.locs, Pt.cells, Pt.slots] at X' e1 e2 h1 h2 h3 st
    subst h1; subst h2; subst h3
    exact Or.inl ⟨v, (T.setVm vm₁).calling g' mk (Value.ref b :: As).toArray, t, U', L, hT, X', hL, e1, e2, hq, st⟩
  · dsimp only [Pt.U, Pt.locs, Pt.cells, Pt.slots] at X' e1 e2 h1 h2 h3 st hcl
    subst h1; subst h2; subst h3
    exact Or.inr ⟨q, (T.setVm vm₁).calling g' mk (Value.ref b :: As).toArray, t, U', L, E, ce, hT, X', hL, e1, e2, hq, hce, hcv, vx_cls hW₁ hcl, st⟩
theorem vx_runSX {hh : List (Nat × Nat × Nat × Nat)} (S : CallFix p m c cc nL s args Ts own) (hM : vx_Met l y ws rm Pc Qc XC mc ms free) (cw : vx_CSW R s args own index y bytes maxL ret hh ws rm mc ms n) (hp : PreS s H Pc As)
    (hg : g.method = m) (hn : As.length = n) (hsize : g.locals.size = nL) (hstack : g.stack = As.reverse ++ rest) (hW : 2 * g.monitorRoom + (rest.map fun v => v.category).sum ≤ 8) (hdg : decode cc g.pc = .ok (.invokestatic index, 3)) (hf : cells + mc ≤ R.cells ∧ slots + ms ≤ R.slots) :
    vx_Run p l e R s m args below meth c H locs cells slots mc ms g rest (Qc As.toArray) XC free := by
  obtain ⟨⟨hrc, hrs, hfr, hlo, hws, hcw⟩, hcode, hini, hy, hlen, hl, hstt⟩ := cw
  have hK : vx_Back l R p e below s args y 3 8 (PreOf R mc ms Pc) (PostOf Qc mc ms free) (vx_Post XC mc ms free) := vx_backW (hh := hh) (bytes := bytes) (maxL := maxL) (ret := ret) hM hp.1 hrc hrs hfr hlo hws hcw (fun a' U hW => word_at hW (Or.inl (by first | rfl | simp [Cond.onTables, Cond.keeps, Cond.steady])) hini)
  obtain ⟨hx, hb, hml, ho, -⟩ := S
  intro T hT X
  rcases vx_callSX X hx (hh := hh) (bytes := bytes) (maxL := maxL) (ret := ret) ho hl hstt hini hcode hy hK hg (hsize.trans hml.symm) (argsL := As) (rest := rest) (fun sig h => hn.trans (hlen sig h)) hstack hW (by rw [hb]; exact hdg)
    (fun vm₁ hW₁ => ⟨hf.1, hf.2, hp.2 (T.setVm vm₁) hT hW₁⟩) with ⟨v, vm₁, ⟨U', l2, c2, s2⟩, hW₁, X', ⟨g', mk, t, L, e1, e2, hq, h1, hL, h2, h3⟩, st⟩ | ⟨q, vm₁, ⟨U', l2, c2, s2⟩, hW₁, X', ⟨g', mk, t, L, E, ce, e1, e2, hq, hce, hcv, hcl, h1, hL, h2, h3⟩, st⟩
  · dsimp only [Pt.U, Pt.locs, Pt.cells, Pt.slots] at X' e1 e2 h1 h2 h3 st
    subst h1; subst h2; subst h3
    exact Or.inl ⟨v, (T.setVm vm₁).calling g' mk As.toArray, t, U', L, hT, X', hL, e1, e2, hq, st⟩
  · dsimp only [Pt.U, Pt.locs, Pt.cells, Pt.slots] at X' e1 e2 h1 h2 h3 st hcl
    subst h1; subst h2; subst h3
    exact Or.inr ⟨q, (T.setVm vm₁).calling g' mk As.toArray, t, U', L, E, ce, hT, X', hL, e1, e2, hq, hce, hcv, vx_cls hW₁ hcl, st⟩
end
end VXH
theorem vx_ofWH {l : Launch} {y : MethodName} {ws ws' : List Cond} {rm : Room} {Pc : Array Value → State → Prop} {Qc : Array Value → State → Outcome → State → Prop} {XC : String → State → State → Prop} {mc ms : Nat} {free : Addr → Prop} {cc : ByteArray} {maxL : Nat} {ret : Option FieldType} {hh : List (Nat × Nat × Nat × Nat)}
    (hy : plainName y.cls = true) (hw : ws = Cond.codeWith y cc maxL ret hh :: ws')
    (body : ∀ p e s m args below meth c s₁, BodyLoose p l y (headSpec ws rm) cc maxL ret e s m args below meth c s₁ → c.maxLocals = maxL → Pc args s →
      W p l e (headSpec ws rm).room s m args below meth c s.heap [] 0 0 (vx_MQ below Qc XC args s mc ms free) (entryFrame m args maxL)) : vx_Met l y ws rm Pc Qc XC mc ms free := by
  refine MetFree.of_bodyS (code := cc) (maxLocals := maxL) (ret := ret) hy ?_ ?_
  · intro args s m h hn
    obtain ⟨m9, meth, c, hn9, h1, h2, h3, h4, -, h5, h6, -⟩ := Cond.codeWith_spec (atoms_spec (ws := ws) h _ (by rw [hw]; exact List.mem_cons_self))
    cases hn.symm.trans hn9
    exact ⟨meth, c, h1, h2, h3, h4, h5, h6⟩
  · intro p e s m args below meth c s₁ B hml hP _
    have hh0 : s₁.heap = s.heap := by rw [B.state]; rfl
    obtain ⟨t, a1, o, b1, b2, b3⟩ := body p e s m args below meth c s₁ B hml hP s₁ hh0 (Stand.of_body B)
    exact ⟨t, o, a1, b1, b2, b3⟩
/-! ===== END ===== -/
end
section
/-! The pure machine: memory by cell and place, resolved code, one instruction's meaning by continuation. -/
abbrev PM : Type := (Nat → Nat → Int32) × (Nat → Nat → Int64)
def up2 {α : Type} (f : Nat → Nat → α) (k j : Nat) (v : α) : Nat → Nat → α := fun a b => if a = k then (if b = j then v else f a b) else f a b
def mI (M : PM) (k j : Nat) (v : Int32) : PM := (up2 M.1 k j v, M.2)
def mJ (M : PM) (k j : Nat) (v : Int64) : PM := (M.1, up2 M.2 k j v)
/-- a cell's shape: an object (number, fields: a fixed cell or a typed place) or an array (number of its type, length, type, fixed cells) -/
abbrev PSh : Type := (Nat × List (Nat ⊕ FieldType)) ⊕ (Nat × Nat × FieldType × List Nat)
def rv (ρ : Nat → Nat) (v : Value) : Value := match v with
  | .ref k => .ref (ρ k)
  | v => v
def p_fv (ρ : Nat → Nat) (M : PM) (k j : Nat) (f : Nat ⊕ FieldType) : Value := match f with
  | .inl x => .ref (ρ x)
  | .inr .long => .long (M.2 k j)
  | .inr _ => .int (M.1 k j)
def p_cell (ρ : Nat → Nat) (cA : Nat → ClassId) (M : PM) (k : Nat) (sh : PSh) : va_E := match sh with
  | .inl (c, fs) => .inr (c, fs.mapIdx (p_fv ρ M k))
  | .inr (t, n, ty, rs) => .inl (cA t, n, match ty with
    | .long => .inr (.inl (M.2 k))
    | .object _ => .inr (.inr (.inr (.inr (fun i => (rs[i]?).map ρ))))
    | _ => .inl (M.1 k))
def p_w (ρ : Nat → Nat) (cA : Nat → ClassId) (Sh : List PSh) (M : PM) : va_W := Sh.mapIdx (fun k sh => (ρ k, p_cell ρ cA M k sh))
/-- storing into the locals by place; a long that the place cuts is gone -/
def p_cut (a : Option Value) : Option Value := match a with
  | some (.long _) => none
  | some (.double _) => none
  | a => a
def st1 : List (Option Value) → Nat → Option Value → List (Option Value)
  | [], _, _ => []
  | _ :: t, 0, v => v :: t
  | a :: t, 1, v => p_cut a :: (match t with
    | [] => []
    | _ :: t' => v :: t')
  | a :: t, n + 2, v => a :: st1 t (n + 1) v
def st2 : List (Option Value) → Nat → Option Value → List (Option Value)
  | [], _, _ => []
  | _ :: t, 0, v => v :: (match t with
    | [] => []
    | _ :: t' => none :: t')
  | a :: t, 1, v => p_cut a :: (match t with
    | [] => []
    | _ :: t' => v :: (match t' with
      | [] => []
      | _ :: t'' => none :: t''))
  | a :: t, n + 2, v => a :: st2 t (n + 1) v
/-- the locals at a method's entry -/
def p_ent : List Value → List (Option Value)
  | [] => []
  | .long x :: r => some (.long x) :: none :: p_ent r
  | .double x :: r => some (.double x) :: none :: p_ent r
  | v :: r => some v :: p_ent r
def p_ent0 (n : Nat) (vs : List Value) : List (Option Value) := p_ent vs ++ List.replicate (n - (p_ent vs).length) none
/-- what a method asks of what it calls -/
abbrev PEnv : Type := Nat → List Value → PM → (Option (Option Value) → PM → Prop) → Prop
abbrev PI : Type := Instr × Nat × Nat × Nat × List Nat × Value
abbrev PCode : Type := Nat → Option PI
/-- both roads of a branch -/
def p_br (c : Prop) (a b : Prop) : Prop := (c → a) ∧ (¬ c → b)
def p_icmp (op : ClassFile.Cond) (x y : Int32) : Prop := match op with
  | .eq => x = y
  | .ne => ¬ x = y
  | .lt => x < y
  | .ge => y ≤ x
  | .gt => y < x
  | .le => x ≤ y
/-- a throw at pc: to the handler there, behind its store, or out -/
def p_th (hn : Nat → Option (Nat × Nat)) (pc : Nat) (L : List (Option Value)) (M : PM) (K : Nat → List (Option Value) → List Value → PM → Prop) (Q : Option (Option Value) → PM → Prop) : Prop := match hn pc with
  | some (p2, i) => K p2 (st1 L i none) [] M
  | none => Q none M
/-- a table of jumps -/
def p_sw (x : Int32) (k : Nat → Prop) (d : Nat) : Int → List Nat → Prop
  | _, [] => k d
  | v, t :: ts => p_br (x = Int32.ofInt v) (k t) (p_sw x k d (v + 1) ts)
/-- the number of the thrown thing's kind -/
abbrev p_xc : Nat := 0
def p_ld (L : List (Option Value)) (i : Nat) (k : Value → Prop) : Prop := match L[i]? with
  | some (some v) => k v
  | _ => False
def p_isI (v : Value) (k : Int32 → Prop) : Prop := match v with
  | .int x => k x
  | _ => False
def p_isJ (v : Value) (k : Int64 → Prop) : Prop := match v with
  | .long x => k x
  | _ => False
def p_isR (v : Value) (k : Nat → Prop) : Prop := match v with
  | .ref x => k x
  | _ => False
def p_pop (st : List Value) (k : Value → List Value → Prop) : Prop := match st with
  | v :: r => k v r
  | [] => False
def p_popI (st : List Value) (k : Int32 → List Value → Prop) : Prop := match st with
  | .int x :: r => k x r
  | _ => False
def p_popJ (st : List Value) (k : Int64 → List Value → Prop) : Prop := match st with
  | .long x :: r => k x r
  | _ => False
def p_popR (st : List Value) (k : Nat → List Value → Prop) : Prop := match st with
  | .ref x :: r => k x r
  | _ => False
def p_obj (Sh : List PSh) (c k : Nat) (f : List (Nat ⊕ FieldType) → Prop) : Prop := match Sh[k]? with
  | some (.inl (c', fs)) => c' = c ∧ f fs
  | _ => False
def p_arr (Sh : List PSh) (k : Nat) (f : Nat → Nat → FieldType → List Nat → Prop) : Prop := match Sh[k]? with
  | some (.inr (t, n, ty, rs)) => f t n ty rs
  | _ => False
/-- int or boolean -/
def p_small (ty : FieldType) : Prop := match ty with
  | .int => True
  | .boolean => True
  | _ => False
def p_ex (Sh : List PSh) (E : PEnv) (hn : Nat → Option (Nat × Nat)) (ret : Option FieldType) (pc : Nat) (ins : Instr) (nx : Nat) (a0 b0 : Nat) (ts0 : List Nat) (cv : Value) (L : List (Option Value)) (st : List Value) (M : PM) (K : Nat → List (Option Value) → List Value → PM → Prop) (Q : Option (Option Value) → PM → Prop) : Prop :=
  match ins with
  | .iconst _ => K nx L (cv :: st) M
  | .bipush _ => K nx L (cv :: st) M
  | .sipush _ => K nx L (cv :: st) M
  | .lconst _ => K nx L (cv :: st) M
  | .ldc _ => K nx L (cv :: st) M
  | .ldc2_w _ => K nx L (cv :: st) M
  | .iload_n _ => p_ld L (a0) fun v => p_isI v fun x => K nx L (.int x :: st) M
  | .iload _ => p_ld L (a0) fun v => p_isI v fun x => K nx L (.int x :: st) M
  | .lload_n _ => p_ld L (a0) fun v => p_isJ v fun x => K nx L (.long x :: st) M
  | .lload _ => p_ld L (a0) fun v => p_isJ v fun x => K nx L (.long x :: st) M
  | .aload_n _ => p_ld L (a0) fun v => p_isR v fun x => K nx L (.ref x :: st) M
  | .aload _ => p_ld L (a0) fun v => p_isR v fun x => K nx L (.ref x :: st) M
  | .istore_n _ => p_popI st fun x r => K nx (st1 L (a0) (some (.int x))) r M
  | .istore _ => p_popI st fun x r => K nx (st1 L (a0) (some (.int x))) r M
  | .lstore_n _ => p_popJ st fun x r => K nx (st2 L (a0) (some (.long x))) r M
  | .lstore _ => p_popJ st fun x r => K nx (st2 L (a0) (some (.long x))) r M
  | .astore_n _ => p_popR st fun x r => K nx (st1 L (a0) (some (.ref x))) r M
  | .astore _ => p_popR st fun x r => K nx (st1 L (a0) (some (.ref x))) r M
  | .iinc _ _ => p_ld L (a0) fun v => p_isI v fun x => p_isI cv fun n => K nx (st1 L (a0) (some (.int (x + n)))) st M
  | .iadd => p_popI st fun y r => p_popI r fun x r => K nx L (.int (x + y) :: r) M
  | .isub => p_popI st fun y r => p_popI r fun x r => K nx L (.int (x - y) :: r) M
  | .imul => p_popI st fun y r => p_popI r fun x r => K nx L (.int (x * y) :: r) M
  | .iand => p_popI st fun y r => p_popI r fun x r => K nx L (.int (x &&& y) :: r) M
  | .ishr => p_popI st fun y r => p_popI r fun x r => K nx L (.int (x >>> (y &&& 31)) :: r) M
  | .iushr => p_popI st fun y r => p_popI r fun x r => K nx L (.int ((x.toUInt32 >>> (y.toUInt32 &&& Int32.toUInt32 31)).toInt32) :: r) M
  | .idiv => p_popI st fun y r => p_popI r fun x r => ¬ y = 0 ∧ K nx L (.int (x / y) :: r) M
  | .irem => p_popI st fun y r => p_popI r fun x r => ¬ y = 0 ∧ K nx L (.int (x - x / y * y) :: r) M
  | .ladd => p_popJ st fun y r => p_popJ r fun x r => K nx L (.long (x + y) :: r) M
  | .lsub => p_popJ st fun y r => p_popJ r fun x r => K nx L (.long (x - y) :: r) M
  | .lmul => p_popJ st fun y r => p_popJ r fun x r => K nx L (.long (x * y) :: r) M
  | .land => p_popJ st fun y r => p_popJ r fun x r => K nx L (.long (x &&& y) :: r) M
  | .lor => p_popJ st fun y r => p_popJ r fun x r => K nx L (.long (x ||| y) :: r) M
  | .ldiv => p_popJ st fun y r => p_popJ r fun x r => ¬ y = 0 ∧ K nx L (.long (x / y) :: r) M
  | .lrem => p_popJ st fun y r => p_popJ r fun x r => ¬ y = 0 ∧ K nx L (.long (x - x / y * y) :: r) M
  | .lneg => p_popJ st fun x r => K nx L (.long (-x) :: r) M
  | .i2b => p_popI st fun x r => K nx L (.int x.toInt8.toInt32 :: r) M
  | .i2l => p_popI st fun x r => K nx L (.long x.toInt64 :: r) M
  | .l2i => p_popJ st fun x r => K nx L (.int x.toInt32 :: r) M
  | .lcmp => p_popJ st fun y r => p_popJ r fun x r => K nx L (.int (lg_cmp x y) :: r) M
  | .dup => p_pop st fun v r => v.category = 1 ∧ K nx L (v :: v :: r) M
  | .dup2 => p_pop st fun v r => p_pop r fun w r => v.category = 1 ∧ w.category = 1 ∧ K nx L (v :: w :: v :: w :: r) M
  | .ifCond c _ => p_popI st fun x r => p_br (p_icmp c x 0) (K (a0) L r M) (K nx L r M)
  | .if_icmp c _ => p_popI st fun y r => p_popI r fun x r => p_br (p_icmp c x y) (K (a0) L r M) (K nx L r M)
  | .goto _ => K (a0) L st M
  | .tableswitch _ lo _ _ => p_popI st fun x r => p_sw x (fun t => K t L r M) (a0) lo ts0
  | .getfield _ => p_popR st fun k r => p_obj Sh (a0) k fun fs => match fs[b0]? with
    | some (.inl x) => K nx L (.ref x :: r) M
    | some (.inr .long) => K nx L (.long (M.2 k (b0)) :: r) M
    | some (.inr _) => K nx L (.int (M.1 k (b0)) :: r) M
    | none => False
  | .putfield _ => p_pop st fun v r => p_popR r fun k r => p_obj Sh (a0) k fun fs => match fs[b0]? with
    | some (.inr .long) => p_isJ v fun x => K nx L r (mJ M k (b0) x)
    | some (.inr ty) => p_isI v fun x => p_small ty ∧ narrow ty (.int x) = .int x ∧ fits ty (.int x) = true ∧ K nx L r (mI M k (b0) x)
    | _ => False
  | .iaload => p_popI st fun i r => p_popR r fun k r => p_arr Sh k fun _ n ty _ => ty = .int ∧ vp_in i n ∧ K nx L (.int (M.1 k i.toNatClampNeg) :: r) M
  | .baload => p_popI st fun i r => p_popR r fun k r => p_arr Sh k fun _ n ty _ => (ty = .byte ∨ ty = .boolean) ∧ vp_in i n ∧ K nx L (.int (M.1 k i.toNatClampNeg) :: r) M
  | .laload => p_popI st fun i r => p_popR r fun k r => p_arr Sh k fun _ n ty _ => ty = .long ∧ vp_in i n ∧ K nx L (.long (M.2 k i.toNatClampNeg) :: r) M
  | .aaload => p_popI st fun i r => p_popR r fun k r => p_arr Sh k fun _ n ty rs => (∃ C, ty = .object C) ∧ vp_in i n ∧ ∃ x, rs[i.toNatClampNeg]? = some x ∧ K nx L (.ref x :: r) M
  | .iastore => p_popI st fun x r => p_popI r fun i r => p_popR r fun k r => p_arr Sh k fun _ n ty _ => ty = .int ∧ vp_in i n ∧ K nx L r (mI M k i.toNatClampNeg x)
  | .bastore => p_popI st fun x r => p_popI r fun i r => p_popR r fun k r => p_arr Sh k fun _ n ty _ => (ty = .byte ∨ ty = .boolean) ∧ vp_in i n ∧ K nx L r (mI M k i.toNatClampNeg (vp_nar ty x))
  | .lastore => p_popJ st fun x r => p_popI r fun i r => p_popR r fun k r => p_arr Sh k fun _ n ty _ => ty = .long ∧ vp_in i n ∧ K nx L r (mJ M k i.toNatClampNeg x)
  | .arraylength => p_popR st fun k r => p_arr Sh k fun _ n _ _ => K nx L (.int (Int32.ofNat n) :: r) M
  | .invokevirtual _ => ((st.drop (b0)).map fun v => v.category).sum ≤ 8 ∧ ∃ Q0, E (a0) (st.take (b0)).reverse M Q0 ∧ (∀ v M', Q0 (some v) M' → K nx L (v.toList ++ st.drop (b0)) M') ∧ ∀ M', Q0 none M' → p_th hn pc L M' K Q
  | .invokestatic _ => if b0 = 1000 then (p_popI st fun y r => p_popI r fun x r => (r.map fun v => v.category).sum ≤ 8 ∧ K nx L (.int (if x < y then y else x) :: r) M) else if b0 = 1001 then (p_popJ st fun x r => (r.map fun v => v.category).sum ≤ 8 ∧ K nx L (.long (if 0 < x then x else -x) :: r) M) else (((st.drop (b0)).map fun v => v.category).sum ≤ 8 ∧ ∃ Q0, E (a0) (st.take (b0)).reverse M Q0 ∧ (∀ v M', Q0 (some v) M' → K nx L (v.toList ++ st.drop (b0)) M') ∧ ∀ M', Q0 none M' → p_th hn pc L M' K Q)
  | .ireturn => p_popI st fun x r => r = [] ∧ (∃ ty, ret = some ty ∧ p_small ty ∧ narrow ty (.int x) = .int x) ∧ Q (some (some (.int x))) M
  | .lreturn => p_popJ st fun x r => r = [] ∧ ret = some .long ∧ Q (some (some (.long x))) M
  | .areturn => p_popR st fun x r => r = [] ∧ (∃ C, ret = some (.object C)) ∧ Q (some (some (.ref x))) M
  | .return_ => st = [] ∧ ret = none ∧ Q (some none) M
  | .athrow => p_popR st fun k _ => p_obj Sh p_xc k fun _ => p_th hn pc L M K Q
  | _ => False
end
section
/-! The least meaning of a method's code: Ev. -/
theorem p_br_mono {c a b a' b' : Prop} (h1 : a → a') (h2 : b → b') (h : p_br c a b) : p_br c a' b' := ⟨fun hc => h1 (h.1 hc), fun hc => h2 (h.2 hc)⟩
theorem p_th_mono {hn : Nat → Option (Nat × Nat)} {pc : Nat} {L : List (Option Value)} {M : PM} {K K' : Nat → List (Option Value) → List Value → PM → Prop} {Q : Option (Option Value) → PM → Prop} (h : ∀ pc L st M, K pc L st M → K' pc L st M) (hk : p_th hn pc L M K Q) : p_th hn pc L M K' Q := by
  unfold p_th at hk ⊢
  split at hk
  · exact h _ _ _ _ hk
  · exact hk
theorem p_sw_mono {x : Int32} {k k' : Nat → Prop} {d : Nat} (h : ∀ t, k t → k' t) : ∀ (ts : List Nat) (v : Int), p_sw x k d v ts → p_sw x k' d v ts
  | [], _, hk => h _ hk
  | _ :: ts, v, hk => p_br_mono (h _) (p_sw_mono h ts (v + 1)) hk
theorem p_ld_mono {L : List (Option Value)} {i : Nat} {k k' : Value → Prop} (h : ∀ v, k v → k' v) (hk : p_ld L i k) : p_ld L i k' := by
  unfold p_ld at hk ⊢
  split at hk
  · exact h _ hk
  · exact hk
theorem p_isI_mono {v : Value} {k k' : Int32 → Prop} (h : ∀ v, k v → k' v) (hk : p_isI v k) : p_isI v k' := by
  cases v <;> first | exact h _ hk | exact hk
theorem p_isJ_mono {v : Value} {k k' : Int64 → Prop} (h : ∀ v, k v → k' v) (hk : p_isJ v k) : p_isJ v k' := by
  cases v <;> first | exact h _ hk | exact hk
theorem p_isR_mono {v : Value} {k k' : Nat → Prop} (h : ∀ v, k v → k' v) (hk : p_isR v k) : p_isR v k' := by
  cases v <;> first | exact h _ hk | exact hk
theorem p_pop_mono {st : List Value} {k k' : Value → List Value → Prop} (h : ∀ v r, k v r → k' v r) (hk : p_pop st k) : p_pop st k' := by
  cases st with
  | nil => exact hk
  | cons v r => exact h _ _ hk
theorem p_popI_mono {st : List Value} {k k' : Int32 → List Value → Prop} (h : ∀ v r, k v r → k' v r) (hk : p_popI st k) : p_popI st k' := by
  cases st with
  | nil => exact hk
  | cons v r => cases v <;> first | exact h _ _ hk | exact hk
theorem p_popJ_mono {st : List Value} {k k' : Int64 → List Value → Prop} (h : ∀ v r, k v r → k' v r) (hk : p_popJ st k) : p_popJ st k' := by
  cases st with
  | nil => exact hk
  | cons v r => cases v <;> first | exact h _ _ hk | exact hk
theorem p_popR_mono {st : List Value} {k k' : Nat → List Value → Prop} (h : ∀ v r, k v r → k' v r) (hk : p_popR st k) : p_popR st k' := by
  cases st with
  | nil => exact hk
  | cons v r => cases v <;> first | exact h _ _ hk | exact hk
theorem p_obj_mono {Sh : List PSh} {c k : Nat} {f f' : List (Nat ⊕ FieldType) → Prop} (h : ∀ v, f v → f' v) (hk : p_obj Sh c k f) : p_obj Sh c k f' := by
  unfold p_obj at hk ⊢
  split at hk
  · exact ⟨hk.1, h _ hk.2⟩
  · exact hk
theorem p_arr_mono {Sh : List PSh} {k : Nat} {f f' : Nat → Nat → FieldType → List Nat → Prop} (h : ∀ a b c d, f a b c d → f' a b c d) (hk : p_arr Sh k f) : p_arr Sh k f' := by
  unfold p_arr at hk ⊢
  split at hk
  · exact h _ _ _ _ hk
  · exact hk
set_option maxHeartbeats 4000000 in
theorem p_ex_mono {Sh : List PSh} {E : PEnv} {hn : Nat → Option (Nat × Nat)} {ret : Option FieldType} {pc : Nat} {ins : Instr} {nx : Nat} {a0 b0 : Nat} {ts0 : List Nat} {cv : Value} {L : List (Option Value)} {st : List Value} {M : PM} {K K' : Nat → List (Option Value) → List Value → PM → Prop} {Q : Option (Option Value) → PM → Prop}
    (h : ∀ pc L st M, K pc L st M → K' pc L st M) (hk : p_ex Sh E hn ret pc ins nx a0 b0 ts0 cv L st M K Q) : p_ex Sh E hn ret pc ins nx a0 b0 ts0 cv L st M K' Q := by
  have hQ0 : ∀ {st : List Value}, (((st.drop (b0)).map fun v => v.category).sum ≤ 8 ∧ ∃ Q0, E (a0) (st.take (b0)).reverse M Q0 ∧ (∀ v M', Q0 (some v) M' → K nx L (v.toList ++ st.drop (b0)) M') ∧ ∀ M', Q0 none M' → p_th hn pc L M' K Q) → (((st.drop (b0)).map fun v => v.category).sum ≤ 8 ∧ ∃ Q0, E (a0) (st.take (b0)).reverse M Q0 ∧ (∀ v M', Q0 (some v) M' → K' nx L (v.toList ++ st.drop (b0)) M') ∧ ∀ M', Q0 none M' → p_th hn pc L M' K' Q) := by
    rintro st ⟨h0, Q0, h1, h2, h3⟩
    exact ⟨h0, Q0, h1, fun v M' hq => h _ _ _ _ (h2 v M' hq), fun M' hq => p_th_mono h (h3 M' hq)⟩
  cases ins
  case iconst => exact h _ _ _ _ hk
  case bipush => exact h _ _ _ _ hk
  case sipush => exact h _ _ _ _ hk
  case lconst => exact h _ _ _ _ hk
  case ldc => exact h _ _ _ _ hk
  case ldc2_w => exact h _ _ _ _ hk
  case iload_n => exact p_ld_mono (fun _ => p_isI_mono fun _ => h _ _ _ _) hk
  case iload => exact p_ld_mono (fun _ => p_isI_mono fun _ => h _ _ _ _) hk
  case lload_n => exact p_ld_mono (fun _ => p_isJ_mono fun _ => h _ _ _ _) hk
  case lload => exact p_ld_mono (fun _ => p_isJ_mono fun _ => h _ _ _ _) hk
  case aload_n => exact p_ld_mono (fun _ => p_isR_mono fun _ => h _ _ _ _) hk
  case aload => exact p_ld_mono (fun _ => p_isR_mono fun _ => h _ _ _ _) hk
  case istore_n => exact p_popI_mono (fun _ _ => h _ _ _ _) hk
  case istore => exact p_popI_mono (fun _ _ => h _ _ _ _) hk
  case lstore_n => exact p_popJ_mono (fun _ _ => h _ _ _ _) hk
  case lstore => exact p_popJ_mono (fun _ _ => h _ _ _ _) hk
  case astore_n => exact p_popR_mono (fun _ _ => h _ _ _ _) hk
  case astore => exact p_popR_mono (fun _ _ => h _ _ _ _) hk
  case iinc => exact p_ld_mono (fun _ => p_isI_mono fun _ => p_isI_mono fun _ => h _ _ _ _) hk
  case iadd => exact p_popI_mono (fun _ _ => p_popI_mono fun _ _ => h _ _ _ _) hk
  case isub => exact p_popI_mono (fun _ _ => p_popI_mono fun _ _ => h _ _ _ _) hk
  case imul => exact p_popI_mono (fun _ _ => p_popI_mono fun _ _ => h _ _ _ _) hk
  case iand => exact p_popI_mono (fun _ _ => p_popI_mono fun _ _ => h _ _ _ _) hk
  case ishr => exact p_popI_mono (fun _ _ => p_popI_mono fun _ _ => h _ _ _ _) hk
  case iushr => exact p_popI_mono (fun _ _ => p_popI_mono fun _ _ => h _ _ _ _) hk
  case idiv => exact p_popI_mono (fun _ _ => p_popI_mono fun _ _ h9 => ⟨h9.1, h _ _ _ _ h9.2⟩) hk
  case irem => exact p_popI_mono (fun _ _ => p_popI_mono fun _ _ h9 => ⟨h9.1, h _ _ _ _ h9.2⟩) hk
  case ladd => exact p_popJ_mono (fun _ _ => p_popJ_mono fun _ _ => h _ _ _ _) hk
  case lsub => exact p_popJ_mono (fun _ _ => p_popJ_mono fun _ _ => h _ _ _ _) hk
  case lmul => exact p_popJ_mono (fun _ _ => p_popJ_mono fun _ _ => h _ _ _ _) hk
  case land => exact p_popJ_mono (fun _ _ => p_popJ_mono fun _ _ => h _ _ _ _) hk
  case lor => exact p_popJ_mono (fun _ _ => p_popJ_mono fun _ _ => h _ _ _ _) hk
  case ldiv => exact p_popJ_mono (fun _ _ => p_popJ_mono fun _ _ h9 => ⟨h9.1, h _ _ _ _ h9.2⟩) hk
  case lrem => exact p_popJ_mono (fun _ _ => p_popJ_mono fun _ _ h9 => ⟨h9.1, h _ _ _ _ h9.2⟩) hk
  case lneg => exact p_popJ_mono (fun _ _ => h _ _ _ _) hk
  case i2b => exact p_popI_mono (fun _ _ => h _ _ _ _) hk
  case i2l => exact p_popI_mono (fun _ _ => h _ _ _ _) hk
  case l2i => exact p_popJ_mono (fun _ _ => h _ _ _ _) hk
  case lcmp => exact p_popJ_mono (fun _ _ => p_popJ_mono fun _ _ => h _ _ _ _) hk
  case dup => exact p_pop_mono (fun _ _ h9 => ⟨h9.1, h _ _ _ _ h9.2⟩) hk
  case dup2 => exact p_pop_mono (fun _ _ => p_pop_mono fun _ _ h9 => ⟨h9.1, h9.2.1, h _ _ _ _ h9.2.2⟩) hk
  case ifCond => exact p_popI_mono (fun _ _ => p_br_mono (h _ _ _ _) (h _ _ _ _)) hk
  case if_icmp => exact p_popI_mono (fun _ _ => p_popI_mono fun _ _ => p_br_mono (h _ _ _ _) (h _ _ _ _)) hk
  case goto => exact h _ _ _ _ hk
  case tableswitch => exact p_popI_mono (fun _ _ => p_sw_mono (fun _ => h _ _ _ _) _ _) hk
  case getfield =>
    refine p_popR_mono (fun _ _ => p_obj_mono fun fs h9 => ?_) hk
    split at h9
    · exact h _ _ _ _ h9
    · exact h _ _ _ _ h9
    · exact h _ _ _ _ h9
    · exact h9
  case putfield =>
    refine p_pop_mono (fun _ _ => p_popR_mono fun _ _ => p_obj_mono fun fs h9 => ?_) hk
    split at h9
    · exact p_isJ_mono (fun _ => h _ _ _ _) h9
    · exact p_isI_mono (fun _ h8 => ⟨h8.1, h8.2.1, h8.2.2.1, h _ _ _ _ h8.2.2.2⟩) h9
    · exact h9
  case iaload => exact p_popI_mono (fun _ _ => p_popR_mono fun _ _ => p_arr_mono fun _ _ _ _ h9 => ⟨h9.1, h9.2.1, h _ _ _ _ h9.2.2⟩) hk
  case baload => exact p_popI_mono (fun _ _ => p_popR_mono fun _ _ => p_arr_mono fun _ _ _ _ h9 => ⟨h9.1, h9.2.1, h _ _ _ _ h9.2.2⟩) hk
  case laload => exact p_popI_mono (fun _ _ => p_popR_mono fun _ _ => p_arr_mono fun _ _ _ _ h9 => ⟨h9.1, h9.2.1, h _ _ _ _ h9.2.2⟩) hk
  case aaload => exact p_popI_mono (fun _ _ => p_popR_mono fun _ _ => p_arr_mono fun _ _ _ _ ⟨h7, h8, x, hx, h9⟩ => ⟨h7, h8, x, hx, h _ _ _ _ h9⟩) hk
  case iastore => exact p_popI_mono (fun _ _ => p_popI_mono fun _ _ => p_popR_mono fun _ _ => p_arr_mono fun _ _ _ _ h9 => ⟨h9.1, h9.2.1, h _ _ _ _ h9.2.2⟩) hk
  case bastore => exact p_popI_mono (fun _ _ => p_popI_mono fun _ _ => p_popR_mono fun _ _ => p_arr_mono fun _ _ _ _ h9 => ⟨h9.1, h9.2.1, h _ _ _ _ h9.2.2⟩) hk
  case lastore => exact p_popJ_mono (fun _ _ => p_popI_mono fun _ _ => p_popR_mono fun _ _ => p_arr_mono fun _ _ _ _ h9 => ⟨h9.1, h9.2.1, h _ _ _ _ h9.2.2⟩) hk
  case arraylength => exact p_popR_mono (fun _ _ => p_arr_mono fun _ _ _ _ => h _ _ _ _) hk
  case invokevirtual => exact hQ0 hk
  case invokestatic =>
    unfold p_ex at hk ⊢
    dsimp only at hk ⊢
    split at hk
    · rename_i h0; rw [if_pos h0]; exact p_popI_mono (fun _ _ => p_popI_mono fun _ _ h9 => ⟨h9.1, h _ _ _ _ h9.2⟩) hk
    · rename_i h0
      rw [if_neg h0]
      split at hk
      · rename_i h1; rw [if_pos h1]; exact p_popJ_mono (fun _ _ h9 => ⟨h9.1, h _ _ _ _ h9.2⟩) hk
      · rename_i h1; rw [if_neg h1]; exact hQ0 hk
  case ireturn => exact hk
  case lreturn => exact hk
  case areturn => exact hk
  case return_ => exact hk
  case athrow => exact p_popR_mono (fun _ _ => p_obj_mono fun _ => p_th_mono h) hk
  all_goals exact hk
/-- what a body is: the world's shape, what it calls, its handlers, its answer's type, its code, what holds where the code ends -/
abbrev PBody : Type := List PSh × PEnv × (Nat → Option (Nat × Nat)) × Option FieldType × PCode × (Nat → List (Option Value) → List Value → PM → Prop)
def p_st (B : PBody) (Q : Option (Option Value) → PM → Prop) (pc : Nat) (L : List (Option Value)) (st : List Value) (M : PM) (K : Nat → List (Option Value) → List Value → PM → Prop) : Prop := match B.2.2.2.2.1 pc with
  | none => B.2.2.2.2.2 pc L st M
  | some (ins, nx, a0, b0, ts0, cv) => p_ex B.1 B.2.1 B.2.2.1 B.2.2.2.1 pc ins nx a0 b0 ts0 cv L st M K Q
def Ev (B : PBody) (Q : Option (Option Value) → PM → Prop) (pc : Nat) (L : List (Option Value)) (st : List Value) (M : PM) : Prop :=
  ∀ P : Nat → List (Option Value) → List Value → PM → Prop, (∀ pc L st M, p_st B Q pc L st M P → P pc L st M) → P pc L st M
theorem p_st_mono {B : PBody} {Q : Option (Option Value) → PM → Prop} {pc : Nat} {L : List (Option Value)} {st : List Value} {M : PM} {K K' : Nat → List (Option Value) → List Value → PM → Prop} (h : ∀ pc L st M, K pc L st M → K' pc L st M) (hk : p_st B Q pc L st M K) : p_st B Q pc L st M K' := by
  unfold p_st at hk ⊢
  split at hk
  · exact hk
  · exact p_ex_mono h hk
theorem Ev.step {B : PBody} {Q : Option (Option Value) → PM → Prop} {pc : Nat} {L : List (Option Value)} {st : List Value} {M : PM} (h : p_st B Q pc L st M (Ev B Q)) : Ev B Q pc L st M :=
  fun P hP => hP _ _ _ _ (p_st_mono (fun _ _ _ _ hk => hk P hP) h)
/-- n steps at once; places in 'cut' are left as they are -/
def p_vc (B : PBody) (Q : Option (Option Value) → PM → Prop) (cut : List Nat) : Nat → Nat → List (Option Value) → List Value → PM → Prop
  | 0, pc, L, st, M => Ev B Q pc L st M
  | n + 1, pc, L, st, M => if cut.contains pc then Ev B Q pc L st M else p_st B Q pc L st M (p_vc B Q cut n)
theorem p_vc_ev {B : PBody} {Q : Option (Option Value) → PM → Prop} {cut : List Nat} : ∀ (n : Nat) {pc : Nat} {L : List (Option Value)} {st : List Value} {M : PM}, p_vc B Q cut n pc L st M → Ev B Q pc L st M
  | 0, _, _, _, _, h => h
  | n + 1, pc, L, st, M, h => by
    unfold p_vc at h
    split at h
    · exact h
    · exact Ev.step (p_st_mono (fun _ _ _ _ => p_vc_ev n) h)
theorem Ev.go {B : PBody} {Q : Option (Option Value) → PM → Prop} (cut : List Nat) (n : Nat) {pc : Nat} {L : List (Option Value)} {st : List Value} {M : PM} (h : p_st B Q pc L st M (p_vc B Q cut n)) : Ev B Q pc L st M :=
  Ev.step (p_st_mono (fun _ _ _ _ => p_vc_ev n) h)
theorem ev_s {B : PBody} {Q : Option (Option Value) → PM → Prop} {pc : Nat} {L : List (Option Value)} {st : List Value} {M : PM} {ins : Instr} {nx a0 b0 : Nat} {ts0 : List Nat} {cv : Value} (hc : B.2.2.2.2.1 pc = some (ins, nx, a0, b0, ts0, cv)) (h : p_ex B.1 B.2.1 B.2.2.1 B.2.2.2.1 pc ins nx a0 b0 ts0 cv L st M (Ev B Q) Q) : Ev B Q pc L st M := by
  refine Ev.step ?_
  unfold p_st
  rw [hc]
  exact h
end
section
/-! The pure machine's world and locals beside the real ones. -/
theorem up2_ne {α : Type} {f : Nat → Nat → α} {k j : Nat} {v : α} {i : Nat} (h : i ≠ k) : up2 f k j v i = f i := by
  funext b; simp [up2, h]
theorem up2_eqI {f : Nat → Nat → Int32} {k j : Nat} {v : Int32} : up2 f k j v k = upd (f k) j v := by
  funext b; simp [up2, upd]
theorem up2_eqJ {f : Nat → Nat → Int64} {k j : Nat} {v : Int64} : up2 f k j v k = vp_updL (f k) j v := by
  funext b; simp [up2, vp_updL]
theorem p_w_get {ρ : Nat → Nat} {cA : Nat → ClassId} {Sh : List PSh} {M : PM} {k : Nat} {sh : PSh} (hk : Sh[k]? = some sh) : (p_w ρ cA Sh M)[k]? = some (ρ k, p_cell ρ cA M k sh) := by
  unfold p_w
  rw [List.getElem?_mapIdx, hk]; rfl
theorem p_w_inv {ρ : Nat → Nat} {cA : Nat → ClassId} {Sh : List PSh} {M : PM} {k : Nat} {q : Nat × va_E} (h : (p_w ρ cA Sh M)[k]? = some q) : ∃ sh, Sh[k]? = some sh ∧ q = (ρ k, p_cell ρ cA M k sh) := by
  unfold p_w at h
  rw [List.getElem?_mapIdx] at h
  cases hs : Sh[k]? with
  | none => rw [hs] at h; cases h
  | some sh => rw [hs] at h; exact ⟨sh, rfl, (Option.some.inj h).symm⟩
theorem p_cell_row {ρ : Nat → Nat} {cA : Nat → ClassId} {M M' : PM} {k : Nat} (h1 : M'.1 k = M.1 k) (h2 : M'.2 k = M.2 k) (sh : PSh) : p_cell ρ cA M' k sh = p_cell ρ cA M k sh := by
  have hf : p_fv ρ M' k = p_fv ρ M k := by
    funext j f
    unfold p_fv
    split
    · rfl
    · rw [h2]
    · rw [h1]
  unfold p_cell
  split
  · rw [hf]
  · rw [h1, h2]
theorem p_w_set {ρ : Nat → Nat} {cA : Nat → ClassId} {Sh : List PSh} {M M' : PM} {k : Nat} {sh : PSh} {e : va_E} (hk : Sh[k]? = some sh) (hr : ∀ i, i ≠ k → M'.1 i = M.1 i ∧ M'.2 i = M.2 i) (he : p_cell ρ cA M' k sh = e) : (p_w ρ cA Sh M).set k (ρ k, e) = p_w ρ cA Sh M' := by
  apply List.ext_getElem?
  intro i
  by_cases hi : i = k
  · subst hi
    rw [List.getElem?_set_self (by rw [p_w, List.length_mapIdx]; exact (List.getElem?_eq_some_iff.mp hk).1), p_w_get hk, he]
  · rw [List.getElem?_set_ne (Ne.symm hi)]
    unfold p_w
    rw [List.getElem?_mapIdx, List.getElem?_mapIdx]
    cases Sh[i]? with
    | none => rfl
    | some sh' => exact congrArg some (congrArg (Prod.mk (ρ i)) (p_cell_row (hr i hi).1 (hr i hi).2 sh').symm)
theorem p_fs_set {ρ : Nat → Nat} {M M' : PM} {k j : Nat} {fs : List (Nat ⊕ FieldType)} {f : Nat ⊕ FieldType} {v : Value} (hj : fs[j]? = some f) (hv : p_fv ρ M' k j f = v) (ho : ∀ b, b ≠ j → M'.1 k b = M.1 k b ∧ M'.2 k b = M.2 k b) : (fs.mapIdx (p_fv ρ M k)).set j v = fs.mapIdx (p_fv ρ M' k) := by
  apply List.ext_getElem?
  intro b
  by_cases hb : b = j
  · subst hb
    rw [List.getElem?_set_self (by rw [List.length_mapIdx]; exact (List.getElem?_eq_some_iff.mp hj).1), List.getElem?_mapIdx, hj]
    exact congrArg some hv.symm
  · rw [List.getElem?_set_ne (Ne.symm hb), List.getElem?_mapIdx, List.getElem?_mapIdx]
    cases fs[b]? with
    | none => rfl
    | some g =>
      refine congrArg some ?_
      unfold p_fv
      split
      · rfl
      · rw [(ho b hb).2]
      · rw [(ho b hb).1]
theorem p_w_putI {ρ : Nat → Nat} {cA : Nat → ClassId} {Sh : List PSh} {M : PM} {k j ci : Nat} {fs : List (Nat ⊕ FieldType)} {ty : FieldType} {x : Int32} (hk : Sh[k]? = some (.inl (ci, fs))) (hj : fs[j]? = some (.inr ty)) (ht : p_small ty) :
    (p_w ρ cA Sh M).set k (ρ k, .inr (ci, (fs.mapIdx (p_fv ρ M k)).set j (.int x))) = p_w ρ cA Sh (mI M k j x) := by
  refine p_w_set hk (fun i hi => ⟨up2_ne hi, rfl⟩) ?_
  show (Sum.inr (ci, fs.mapIdx (p_fv ρ (mI M k j x) k)) : va_E) = _
  rw [p_fs_set (ρ := ρ) (M := M) (M' := mI M k j x) (k := k) (v := .int x) hj (by cases ty <;> first | exact ht.elim | simp [p_fv, mI, up2]) (fun b hb => ⟨by simp [mI, up2, hb], rfl⟩)]
theorem p_w_putJ {ρ : Nat → Nat} {cA : Nat → ClassId} {Sh : List PSh} {M : PM} {k j ci : Nat} {fs : List (Nat ⊕ FieldType)} {x : Int64} (hk : Sh[k]? = some (.inl (ci, fs))) (hj : fs[j]? = some (.inr .long)) :
    (p_w ρ cA Sh M).set k (ρ k, .inr (ci, (fs.mapIdx (p_fv ρ M k)).set j (.long x))) = p_w ρ cA Sh (mJ M k j x) := by
  refine p_w_set hk (fun i hi => ⟨rfl, up2_ne hi⟩) ?_
  show (Sum.inr (ci, fs.mapIdx (p_fv ρ (mJ M k j x) k)) : va_E) = _
  rw [p_fs_set (ρ := ρ) (M := M) (M' := mJ M k j x) (k := k) (v := .long x) hj (by simp [p_fv, mJ, up2]) (fun b hb => ⟨rfl, by simp [mJ, up2, hb]⟩)]
theorem p_w_arrI {ρ : Nat → Nat} {cA : Nat → ClassId} {Sh : List PSh} {M : PM} {k j t n : Nat} {ty : FieldType} {rs : List Nat} {x : Int32} (hk : Sh[k]? = some (.inr (t, n, ty, rs))) (ht : ty = .int ∨ ty = .byte ∨ ty = .boolean) :
    (p_w ρ cA Sh M).set k (ρ k, .inl (cA t, n, .inl (upd (M.1 k) j x))) = p_w ρ cA Sh (mI M k j x) := by
  refine p_w_set hk (fun i hi => ⟨up2_ne hi, rfl⟩) ?_
  rcases ht with rfl | rfl | rfl <;> (show (Sum.inl (cA t, n, Sum.inl ((mI M k j x).1 k)) : va_E) = _; rw [show (mI M k j x).1 k = upd (M.1 k) j x from up2_eqI])
theorem p_w_arrJ {ρ : Nat → Nat} {cA : Nat → ClassId} {Sh : List PSh} {M : PM} {k j t n : Nat} {rs : List Nat} {x : Int64} (hk : Sh[k]? = some (.inr (t, n, .long, rs))) :
    (p_w ρ cA Sh M).set k (ρ k, .inl (cA t, n, .inr (.inl (vp_updL (M.2 k) j x)))) = p_w ρ cA Sh (mJ M k j x) := by
  refine p_w_set hk (fun i hi => ⟨rfl, up2_ne hi⟩) ?_
  show (Sum.inl (cA t, n, Sum.inr (Sum.inl ((mJ M k j x).2 k))) : va_E) = _
  rw [show (mJ M k j x).2 k = vp_updL (M.2 k) j x from up2_eqJ]
/-! locals -/
def lvl (ρ : Nat → Nat) (L : List (Option Value)) : List (Nat × Value) := (List.range L.length).filterMap (fun i => match L[i]? with
  | some (some v) => some (i, rv ρ v)
  | _ => none)
theorem lvl_mem {ρ : Nat → Nat} {L : List (Option Value)} {j : Nat} {w : Value} : (j, w) ∈ lvl ρ L ↔ ∃ v, L[j]? = some (some v) ∧ w = rv ρ v := by
  unfold lvl
  rw [List.mem_filterMap]
  constructor
  · rintro ⟨i, -, hi⟩
    split at hi
    · rename_i v hv
      cases hi
      exact ⟨v, hv, rfl⟩
    · cases hi
  · rintro ⟨v, hv, rfl⟩
    exact ⟨j, List.mem_range.mpr (List.getElem?_eq_some_iff.mp hv).1, by rw [hv]⟩
def p_Lr (ρ : Nat → Nat) (nL : Nat) (L : List (Option Value)) (ls : Array Slot) : Prop := L.length = nL ∧ lv_has ls nL (lvl ρ L)
theorem p_Lr.at {ρ : Nat → Nat} {nL : Nat} {L : List (Option Value)} {ls : Array Slot} (h : p_Lr ρ nL L ls) {i : Nat} {v : Value} (hi : L[i]? = some (some v)) : ls[i]? = some (.val (rv ρ v)) := h.2.2.2 (i, rv ρ v) (lvl_mem.mpr ⟨v, hi, rfl⟩)
theorem st1_len : ∀ (L : List (Option Value)) (i : Nat) (v : Option Value), (st1 L i v).length = L.length
  | [], _, _ => rfl
  | _ :: _, 0, _ => rfl
  | _ :: t, 1, _ => by cases t <;> rfl
  | _ :: t, n + 2, v => by simp [st1, st1_len t (n + 1) v]
theorem st1_get : ∀ (L : List (Option Value)) (i : Nat) (v : Option Value) (j : Nat), i < L.length → (st1 L i v)[j]? = if j = i then some v else if j + 1 = i then (L[j]?).map p_cut else L[j]?
  | [], _, _, _, h => absurd h (Nat.not_lt_zero _)
  | a :: t, 0, v, j, _ => by cases j <;> simp [st1]
  | a :: t, 1, v, j, h => by
    cases t with
    | nil => simp at h
    | cons b t' => rcases j with _ | _ | j <;> simp [st1]
  | a :: t, n + 2, v, j, h => by
    cases j with
    | zero => simp [st1]
    | succ j =>
      have := st1_get t (n + 1) v j (by simp only [List.length_cons] at h; omega)
      simp only [st1, List.getElem?_cons_succ, this]
      simp
theorem st2_len : ∀ (L : List (Option Value)) (i : Nat) (v : Option Value), (st2 L i v).length = L.length
  | [], _, _ => rfl
  | _ :: t, 0, _ => by cases t <;> rfl
  | _ :: t, 1, _ => by rcases t with _ | ⟨_, _ | ⟨_, _⟩⟩ <;> rfl
  | _ :: t, n + 2, v => by simp [st2, st2_len t (n + 1) v]
theorem st2_get : ∀ (L : List (Option Value)) (i : Nat) (v : Option Value) (j : Nat), i + 1 < L.length → (st2 L i v)[j]? = if j = i then some v else if j = i + 1 then some none else if j + 1 = i then (L[j]?).map p_cut else L[j]?
  | [], _, _, _, h => absurd h (Nat.not_lt_zero _)
  | a :: t, 0, v, j, h => by
    cases t with
    | nil => simp at h
    | cons b t' => rcases j with _ | _ | j <;> simp [st2]
  | a :: t, 1, v, j, h => by
    rcases t with _ | ⟨b, _ | ⟨b', t'⟩⟩
    · simp at h
    · simp at h
    · rcases j with _ | _ | _ | j <;> simp [st2]
  | a :: t, n + 2, v, j, h => by
    cases j with
    | zero => simp [st2]
    | succ j =>
      have := st2_get t (n + 1) v j (by simp only [List.length_cons] at h; omega)
      simp only [st2, List.getElem?_cons_succ, this]
      simp
theorem rv_cat (ρ : Nat → Nat) (v : Value) : (rv ρ v).category = v.category := by cases v <;> rfl
theorem p_cut_some {a : Option Value} {v : Value} (h : p_cut a = some v) : a = some v ∧ v.category = 1 := by
  cases a with
  | none => cases h
  | some w => cases w <;> first | (cases h; exact ⟨rfl, rfl⟩) | cases h
/-- the locals behind a store of one place: any value that the place may have got -/
theorem p_Lr.set1 {ρ : Nat → Nat} {nL : Nat} {L : List (Option Value)} {ls ls' : Array Slot} (h : p_Lr ρ nL L ls) {i : Nat} (hi : i < nL) {x : Value} {v : Option Value} (hx : ∀ w, v = some w → rv ρ w = x) (h' : lv_has ls' nL ((i, x) :: (lvl ρ L).filter (fun q => !(q.1 == i) && !(q.1 + 1 == i && q.2.category == 2)))) : p_Lr ρ nL (st1 L i v) ls' := by
  have hiL : i < L.length := by rw [h.1]; exact hi
  refine ⟨by rw [st1_len]; exact h.1, h'.1, h'.2.1, fun q hq => ?_⟩
  obtain ⟨j, w⟩ := q
  obtain ⟨u, hu, rfl⟩ := lvl_mem.mp hq
  rw [st1_get L i v j hiL] at hu
  by_cases hj : j = i
  · subst hj
    rw [if_pos rfl] at hu
    have := hx u (Option.some.inj hu)
    show ls'[j]? = some (.val (rv ρ u))
    rw [this]
    exact h'.2.2 (j, x) List.mem_cons_self
  · rw [if_neg hj] at hu
    refine h'.2.2 (j, rv ρ u) (List.mem_cons_of_mem _ (List.mem_filter.mpr ?_))
    by_cases hj1 : j + 1 = i
    · rw [if_pos hj1] at hu
      cases hLj : L[j]? with
      | none => rw [hLj] at hu; cases hu
      | some a =>
        rw [hLj] at hu
        obtain ⟨ha, hc⟩ := p_cut_some (Option.some.inj hu)
        subst ha
        exact ⟨lvl_mem.mpr ⟨u, hLj, rfl⟩, by simp [hj, rv_cat, hc]⟩
    · rw [if_neg hj1] at hu
      exact ⟨lvl_mem.mpr ⟨u, hu, rfl⟩, by simp [hj, hj1]⟩
theorem p_Lr.set2 {ρ : Nat → Nat} {nL : Nat} {L : List (Option Value)} {ls ls' : Array Slot} (h : p_Lr ρ nL L ls) {i : Nat} (hi : i + 1 < nL) {x : Value} {v : Option Value} (hx : ∀ w, v = some w → rv ρ w = x) (h' : lv_has ls' nL ((i, x) :: (lvl ρ L).filter (fun q => !(q.1 == i) && (!(q.1 == i + 1) && !(q.1 + 1 == i && q.2.category == 2))))) : p_Lr ρ nL (st2 L i v) ls' := by
  have hiL : i + 1 < L.length := by rw [h.1]; exact hi
  refine ⟨by rw [st2_len]; exact h.1, h'.1, h'.2.1, fun q hq => ?_⟩
  obtain ⟨j, w⟩ := q
  obtain ⟨u, hu, rfl⟩ := lvl_mem.mp hq
  rw [st2_get L i v j hiL] at hu
  by_cases hj : j = i
  · subst hj
    rw [if_pos rfl] at hu
    have := hx u (Option.some.inj hu)
    show ls'[j]? = some (.val (rv ρ u))
    rw [this]
    exact h'.2.2 (j, x) List.mem_cons_self
  · rw [if_neg hj] at hu
    by_cases hj2 : j = i + 1
    · rw [if_pos hj2] at hu; cases hu
    · rw [if_neg hj2] at hu
      refine h'.2.2 (j, rv ρ u) (List.mem_cons_of_mem _ (List.mem_filter.mpr ?_))
      by_cases hj1 : j + 1 = i
      · rw [if_pos hj1] at hu
        cases hLj : L[j]? with
        | none => rw [hLj] at hu; cases hu
        | some a =>
          rw [hLj] at hu
          obtain ⟨ha, hc⟩ := p_cut_some (Option.some.inj hu)
          subst ha
          exact ⟨lvl_mem.mpr ⟨u, hLj, rfl⟩, by simp [hj, hj2, rv_cat, hc]⟩
      · rw [if_neg hj1] at hu
        exact ⟨lvl_mem.mpr ⟨u, hu, rfl⟩, by simp [hj, hj1, hj2]⟩
/-! what the readers of the stack say -/
theorem p_ld_e {L : List (Option Value)} {i : Nat} {k : Value → Prop} (h : p_ld L i k) : ∃ v, L[i]? = some (some v) ∧ k v := by
  unfold p_ld at h
  split at h
  · rename_i v hv; exact ⟨v, hv, h⟩
  · exact h.elim
theorem p_isI_e {v : Value} {k : Int32 → Prop} (h : p_isI v k) : ∃ x, v = .int x ∧ k x := by cases v <;> first | exact ⟨_, rfl, h⟩ | exact h.elim
theorem p_isJ_e {v : Value} {k : Int64 → Prop} (h : p_isJ v k) : ∃ x, v = .long x ∧ k x := by cases v <;> first | exact ⟨_, rfl, h⟩ | exact h.elim
theorem p_isR_e {v : Value} {k : Nat → Prop} (h : p_isR v k) : ∃ x, v = .ref x ∧ k x := by cases v <;> first | exact ⟨_, rfl, h⟩ | exact h.elim
theorem p_pop_e {st : List Value} {k : Value → List Value → Prop} (h : p_pop st k) : ∃ v r, st = v :: r ∧ k v r := by
  cases st with
  | nil => exact h.elim
  | cons v r => exact ⟨v, r, rfl, h⟩
theorem p_popI_e {st : List Value} {k : Int32 → List Value → Prop} (h : p_popI st k) : ∃ x r, st = .int x :: r ∧ k x r := by
  cases st with
  | nil => exact h.elim
  | cons v r => cases v <;> first | exact ⟨_, r, rfl, h⟩ | exact h.elim
theorem p_popJ_e {st : List Value} {k : Int64 → List Value → Prop} (h : p_popJ st k) : ∃ x r, st = .long x :: r ∧ k x r := by
  cases st with
  | nil => exact h.elim
  | cons v r => cases v <;> first | exact ⟨_, r, rfl, h⟩ | exact h.elim
theorem p_popR_e {st : List Value} {k : Nat → List Value → Prop} (h : p_popR st k) : ∃ x r, st = .ref x :: r ∧ k x r := by
  cases st with
  | nil => exact h.elim
  | cons v r => cases v <;> first | exact ⟨_, r, rfl, h⟩ | exact h.elim
theorem p_obj_e {Sh : List PSh} {c k : Nat} {f : List (Nat ⊕ FieldType) → Prop} (h : p_obj Sh c k f) : ∃ fs, Sh[k]? = some (.inl (c, fs)) ∧ f fs := by
  unfold p_obj at h
  split at h
  · rename_i c' fs hs
    obtain ⟨rfl, h⟩ := h
    exact ⟨fs, hs, h⟩
  · exact h.elim
theorem p_arr_e {Sh : List PSh} {k : Nat} {f : Nat → Nat → FieldType → List Nat → Prop} (h : p_arr Sh k f) : ∃ t n ty rs, Sh[k]? = some (.inr (t, n, ty, rs)) ∧ f t n ty rs := by
  unfold p_arr at h
  split at h
  · rename_i t n ty rs hs
    exact ⟨t, n, ty, rs, hs, h⟩
  · exact h.elim
end
section
/-! Each instruction of the pure machine is the real one's. -/
section PS1
variable {p : Program} {l : Launch} {e : Env} {R : Room} {s : State} {m : MethodId} {args : Array Value} {below : List Frame} {meth : Method} {c : Code} {H : Heap} {locs : List Loc} {cells slots : Nat} {Q : State → Prop} {cc : ByteArray} {pc : Nat} {ls : Array Slot} {rest : List Value}
theorem w_athrow (hexec : p.tables.exec = Jvm.exec) (hb : c.code = cc) {a : Addr} (hdg : decode cc pc = .ok (.athrow, 1)) (kk : vx_W p l e R s m args below meth c H locs cells slots Q (F0 m pc ls rest) a) : W p l e R s m args below meth c H locs cells slots Q (F0 m pc ls (.ref a :: rest)) := by
  intro T hT X
  obtain ⟨t, a1, b1⟩ := kk T hT X
  refine ⟨t, ?_, b1⟩
  subst hb
  have hat : At T (F0 m pc ls (.ref a :: rest)).method c below := X.here
  jvm_step hat [hexec, hdg, athrow.wp_sem]
  exact a1
end PS1
/-- a kind of objects, by its number: its name, its fields' table, what the tables say -/
def p_kind (cl : List vw_C) (Ts : List Cond) (ci : Nat) (C : String) (T : u_T) (N : Nat) (ty : Nat → FieldType) : Prop :=
  cl[ci]? = some (C, T, N) ∧ (∀ w ∈ u_ws C T N, w ∈ Ts) ∧ (∀ k, k < N → parseFieldDescriptor (T k).2.2.1 = some (ty k)) ∧ (∀ a, a < N → ∀ b, b < N → a ≠ b → (T a).2.1 ≠ (T b).2.1)
/-- the entry 'index' of own's pool names the place j of the kind ci -/
def p_fok (cl : List vw_C) (Ts : List Cond) (own : String) (index ci j : Nat) : Prop := ∃ C T N ty, p_kind cl Ts ci C T N ty ∧ j < N ∧ Cond.fieldLink own index (T j).1 (T j).2.1 (T j).2.2.1 ∈ Ts
/-- and it is no final one, of that type -/
def p_fput (cl : List vw_C) (ci j : Nat) (ty : FieldType) : Prop := ∀ C T N, cl[ci]? = some (C, T, N) → (T j).2.2.2 = false ∧ parseFieldDescriptor (T j).2.2.1 = some ty
/-- the shapes fit the kinds and the arrays' types -/
def p_shok (cl : List vw_C) (tys : List (ClassId × FieldType)) (cA : Nat → ClassId) (Sh : List PSh) : Prop :=
  (∀ (k t n : Nat) (ty : FieldType) (rs : List Nat), Sh[k]? = some (.inr (t, n, ty, rs)) → tys[t]? = some (cA t, ty)) ∧ (∀ (k ci : Nat) (fs : List (Nat ⊕ FieldType)) (j : Nat) (ty : FieldType), Sh[k]? = some (.inl (ci, fs)) → fs[j]? = some (.inr ty) → p_fput cl ci j ty)
/-- the words of a method of java.lang.Math -/
def p_mw (Ts : List Cond) (own : String) (i : Nat) (y : MethodName) (cw : Cond) : Prop := Cond.methodLink own i y ∈ Ts ∧ Cond.static y ∈ Ts ∧ Cond.initialized "java/lang/Math" ∈ Ts ∧ cw ∈ Ts
abbrev p_mmax : Cond := .code Lib.Math.max.name Lib.Math.max.code 2 (some .int)
abbrev p_mabs : Cond := .code Lib.MathLoose.abs_long.x Lib.MathLoose.abs_long.code 2 (some .long)
/-- what is asked of a resolved instruction at pc, decoded with length len -/
def p_chk (cl : List vw_C) (Ts : List Cond) (own : String) (nL pc : Nat) (ins : Instr) (len : Nat) (a0 b0 : Nat) (ts0 : List Nat) (cv : Value) : Prop := match ins with
  | .iconst n => len = 1 ∧ cv = .int (Int32.ofInt n)
  | .bipush n => len = 2 ∧ cv = .int (Int8.ofInt n).toInt32
  | .sipush n => len = 3 ∧ cv = .int (Int16.ofInt n).toInt32
  | .lconst n => len = 1 ∧ cv = .long (Int64.ofNat (n : Nat))
  | .ldc i => len = 2 ∧ ∃ v, cv = .int v ∧ Cond.constant own i v ∈ Ts
  | .ldc2_w i => len = 3 ∧ ∃ v, cv = .long v ∧ Cond.constantLong own i v ∈ Ts
  | .iload_n k => len = 1 ∧ (k : Nat) = a0
  | .lload_n k => len = 1 ∧ (k : Nat) = a0
  | .aload_n k => len = 1 ∧ (k : Nat) = a0
  | .iload k => len = 2 ∧ k = a0
  | .lload k => len = 2 ∧ k = a0
  | .aload k => len = 2 ∧ k = a0
  | .istore_n k => len = 1 ∧ (k : Nat) = a0 ∧ a0 < nL
  | .astore_n k => len = 1 ∧ (k : Nat) = a0 ∧ a0 < nL
  | .lstore_n k => len = 1 ∧ (k : Nat) = a0 ∧ a0 + 1 < nL
  | .istore k => len = 2 ∧ k = a0 ∧ a0 < nL
  | .astore k => len = 2 ∧ k = a0 ∧ a0 < nL
  | .lstore k => len = 2 ∧ k = a0 ∧ a0 + 1 < nL
  | .iinc k n => len = 3 ∧ k = a0 ∧ a0 < nL ∧ cv = .int (Int32.ofInt n)
  | .ifCond _ off => len = 3 ∧ (pc : Int) + off = (a0 : Int)
  | .if_icmp _ off => len = 3 ∧ (pc : Int) + off = (a0 : Int)
  | .goto off => len = 3 ∧ (pc : Int) + off = (a0 : Int)
  | .tableswitch d lo hi offs => (pc : Int) + d = (a0 : Int) ∧ -2147483648 ≤ lo ∧ hi ≤ 2147483647 ∧ hi = lo + ts0.length - 1 ∧ offs.toList.map (fun o => (pc : Int) + o) = ts0.map (fun t : Nat => (t : Int))
  | .getfield i => len = 3 ∧ p_fok cl Ts own i (a0) (b0)
  | .putfield i => len = 3 ∧ p_fok cl Ts own i (a0) (b0)
  | .invokevirtual _ => len = 3
  | .invokestatic _ => len = 3
  | _ => len = 1
section PS2
variable {p : Program} {l : Launch} {e : Env} {R : Room} {s : State} {m : MethodId} {args : Array Value} {below : List Frame} {meth : Method} {c : Code} {H0 : Heap} {cells slots mc ms : Nat} {D : va_G} {cl : List vw_C} {tys : List (ClassId × FieldType)} {A free : Nat → Prop} {ρ : Nat → Nat} {cA : Nat → ClassId} {Sh : List PSh} {cc : ByteArray} {nL : Nat} {own : String} {Ts : List Cond} {Qc : Array Value → State → Outcome → State → Prop} {XC : String → State → State → Prop}
/-- the real machine at a point of the pure one -/
def p_sm (p : Program) (l : Launch) (e : Env) (R : Room) (s : State) (m : MethodId) (args : Array Value) (below : List Frame) (meth : Method) (c : Code) (H0 : Heap) (cells slots : Nat) (Qw : State → Prop) (D : va_G) (cl : List vw_C) (A : Nat → Prop) (ρ : Nat → Nat) (cA : Nat → ClassId) (Sh : List PSh) (nL : Nat) (pc : Nat) (L : List (Option Value)) (st : List Value) (M : PM) : Prop :=
  ∀ (H : Heap) (locs : List Loc) (ls : Array Slot), p_Lr ρ nL L ls → va_P D cl (p_w ρ cA Sh M) H → va_D A (p_w ρ cA Sh M) → va_S A H0 H locs → W p l e R s m args below meth c H locs cells slots Qw (F0 m pc ls (st.map (rv ρ)))
/-- the same, with something thrown over it -/
def p_sx (p : Program) (l : Launch) (e : Env) (R : Room) (s : State) (m : MethodId) (args : Array Value) (below : List Frame) (meth : Method) (c : Code) (H0 : Heap) (cells slots : Nat) (Qw : State → Prop) (D : va_G) (cl : List vw_C) (A : Nat → Prop) (ρ : Nat → Nat) (cA : Nat → ClassId) (Sh : List PSh) (nL : Nat) (XN : String) (pc : Nat) (L : List (Option Value)) (M : PM) : Prop :=
  ∀ (H : Heap) (locs : List Loc) (ls : Array Slot) (rest : List Value) (q : Addr) (ce : Cell), p_Lr ρ nL L ls → va_P D cl (p_w ρ cA Sh M) H → va_D A (p_w ρ cA Sh M) → va_S A H0 H locs → H[q]? = some ce → ce.vm = .none → s.vm.findClass XN = some ce.cls → vx_W p l e R s m args below meth c H locs cells slots Qw (F0 m pc ls rest) q
theorem p_sw_e {x : Int32} {k : Nat → Prop} {d : Nat} : ∀ (ts : List Nat) (v : Int), -2147483648 ≤ v → v + ts.length ≤ 2147483648 → p_sw x k d v ts → (x.toInt < v → k d) ∧ (v + ts.length ≤ x.toInt → k d) ∧ ∀ (j t : Nat), ts[j]? = some t → x.toInt = v + j → k t
  | [], v, _, _, h => ⟨fun _ => h, fun _ => h, fun j t ht => by simp at ht⟩
  | t0 :: ts, v, h1, h2, h => by
    simp only [List.length_cons] at h2 ⊢
    have hv : (Int32.ofInt v).toInt = v := Int32.toInt_ofInt_of_le (by show -2 ^ 31 ≤ v; omega) (by show v < 2 ^ 31; omega)
    by_cases hx : x = Int32.ofInt v
    · have hxv : x.toInt = v := by rw [hx, hv]
      refine ⟨fun h9 => by omega, fun h9 => by omega, fun j t ht hj => ?_⟩
      have hj0 : j = 0 := by omega
      subst hj0
      cases ht
      exact h.1 hx
    · have hxv : x.toInt ≠ v := fun h9 => hx (Int32.toInt_inj.mp (by rw [hv]; exact h9))
      obtain ⟨a1, a2, a3⟩ := p_sw_e ts (v + 1) (by omega) (by omega) (h.2 hx)
      refine ⟨fun h9 => a1 (by omega), fun h9 => a2 (by omega), fun j t ht hj => ?_⟩
      cases j with
      | zero => omega
      | succ j => exact a3 j t ht (by omega)
set_option maxHeartbeats 8000000 in
set_option maxRecDepth 20000 in
theorem p_ex_snd {E : PEnv} {hn : Nat → Option (Nat × Nat)} {ret : Option FieldType} {pc : Nat} {ins : Instr} {nx len : Nat} {a0 b0 : Nat} {ts0 : List Nat} {cv : Value} {L : List (Option Value)} {st : List Value} {M : PM} {K : Nat → List (Option Value) → List Value → PM → Prop} {Qp : Option (Option Value) → PM → Prop} {XN : String}
    (hx : p.tables.exec = Jvm.exec) (hb : c.code = cc) (hown : s.vm.findClass own = some m.cls) (hts : ∀ w ∈ Ts, w.before args s = true) (hK : va_K D cl tys s) (hsh : p_shok cl tys cA Sh) (hlocks : meth.locks = false) (hret : meth.sig.returnType = ret) (hmc : cells ≤ mc) (hms : slots ≤ ms) (hAf : ∀ q, A q → free q)
    (hd : decode cc pc = .ok (ins, len)) (hnx : nx = pc + len) (hc : p_chk cl Ts own nL pc ins len a0 b0 ts0 cv) (hml : c.maxLocals = nL) (hR1 : 1 ≤ R.frames ∧ 21 ≤ R.locals ∧ cells ≤ R.cells ∧ slots ≤ R.slots)
    (hmx : ∀ i, ins = .invokestatic i → b0 = 1000 → p_mw Ts own i Lib.Math.max.name p_mmax) (hab : ∀ i, ins = .invokestatic i → b0 = 1001 → p_mw Ts own i Lib.MathLoose.abs_long.x p_mabs)
    (hkind0 : ∀ k fs, Sh[k]? = some (.inl (p_xc, fs)) → ∃ T N, cl[p_xc]? = some (XN, T, N) ∧ ∀ H, va_P D cl (p_w ρ cA Sh M) H → ∃ ce : Cell, H[ρ k]? = some ce ∧ ce.vm = .none)
    (hKK : ∀ pc L st M, K pc L st M → p_sm p l e R s m args below meth c H0 cells slots (vx_MQ below Qc XC args s mc ms free) D cl A ρ cA Sh nL pc L st M)
    (hcall : ∀ (k n : Nat) (L : List (Option Value)) (st : List Value) (M : PM) (Q0 : Option (Option Value) → PM → Prop), (∃ i, ins = .invokevirtual i ∨ (ins = .invokestatic i ∧ b0 ≠ 1000 ∧ b0 ≠ 1001)) → k = a0 → n = b0 → ((st.drop n).map fun v => v.category).sum ≤ 8 → E k (st.take n).reverse M Q0 →
      (∀ v M', Q0 (some v) M' → p_sm p l e R s m args below meth c H0 cells slots (vx_MQ below Qc XC args s mc ms free) D cl A ρ cA Sh nL (pc + 3) L (v.toList ++ st.drop n) M') →
      (∀ M', Q0 none M' → p_sx p l e R s m args below meth c H0 cells slots (vx_MQ below Qc XC args s mc ms free) D cl A ρ cA Sh nL XN pc L M') →
      p_sm p l e R s m args below meth c H0 cells slots (vx_MQ below Qc XC args s mc ms free) D cl A ρ cA Sh nL pc L st M)
    (hth : ∀ (L : List (Option Value)) (M : PM), p_th hn pc L M K Qp → p_sx p l e R s m args below meth c H0 cells slots (vx_MQ below Qc XC args s mc ms free) D cl A ρ cA Sh nL XN pc L M)
    (hQ : ∀ (v : Option Value) (M : PM) (H : Heap) (locs : List Loc), Qp (some v) M → va_P D cl (p_w ρ cA Sh M) H → va_D A (p_w ρ cA Sh M) → va_S A H0 H locs → ∀ t : State, t.heap = H → s.WarmedH t.vm → Qc args s (.returned (v.map (rv ρ))) t)
    (hk : p_ex Sh E hn ret pc ins nx a0 b0 ts0 cv L st M K Qp) : p_sm p l e R s m args below meth c H0 cells slots (vx_MQ below Qc XC args s mc ms free) D cl A ρ cA Sh nL pc L st M := by
  subst hnx
  have hcS : ∀ {k n : Nat} {L : List (Option Value)} {st : List Value} {M : PM}, (∃ i, ins = .invokevirtual i ∨ (ins = .invokestatic i ∧ b0 ≠ 1000 ∧ b0 ≠ 1001)) → len = 3 → k = a0 → n = b0 → (((st.drop n).map fun v => v.category).sum ≤ 8 ∧ ∃ Q0, E k (st.take n).reverse M Q0 ∧ (∀ v M', Q0 (some v) M' → K (pc + len) L (v.toList ++ st.drop n) M') ∧ ∀ M', Q0 none M' → p_th hn pc L M' K Qp) → p_sm p l e R s m args below meth c H0 cells slots (vx_MQ below Qc XC args s mc ms free) D cl A ρ cA Sh nL pc L st M := by
    rintro k n L st M hi rfl e1 e2 ⟨h0, Q0, h1, h2, h3⟩
    exact hcall k n L st M Q0 hi e1 e2 h0 h1 (fun v M' hq => hKK _ _ _ _ (h2 v M' hq)) (fun M' hq => hth _ _ (h3 M' hq))
  cases ins
  case iconst n => obtain ⟨rfl, rfl⟩ := hc; exact fun H locs ls hL hP hD hS => lv_iconst hx hb hd rfl (hKK _ _ _ _ hk H locs ls hL hP hD hS)
  case bipush n => obtain ⟨rfl, rfl⟩ := hc; exact fun H locs ls hL hP hD hS => lv_bipush hx hb hd rfl (hKK _ _ _ _ hk H locs ls hL hP hD hS)
  case sipush n => obtain ⟨rfl, rfl⟩ := hc; exact fun H locs ls hL hP hD hS => lv_sipush hx hb hd rfl (hKK _ _ _ _ hk H locs ls hL hP hD hS)
  case lconst n => obtain ⟨rfl, rfl⟩ := hc; exact fun H locs ls hL hP hD hS => lv_lconst hx hb hd rfl (hKK _ _ _ _ hk H locs ls hL hP hD hS)
  case ldc n => obtain ⟨rfl, v, rfl, hw⟩ := hc; exact fun H locs ls hL hP hD hS => lv_ldc hx hb hown (hts _ hw) hd (hKK _ _ _ _ hk H locs ls hL hP hD hS)
  case ldc2_w n => obtain ⟨rfl, v, rfl, hw⟩ := hc; exact fun H locs ls hL hP hD hS => lv_ldc2 hx hb hown (hts _ hw) hd (hKK _ _ _ _ hk H locs ls hL hP hD hS)
  case iload_n i => obtain ⟨rfl, hi⟩ := hc; obtain ⟨v, hv, hk⟩ := p_ld_e hk; obtain ⟨x, rfl, hk⟩ := p_isI_e hk; exact fun H locs ls hL hP hD hS => lv_iload_n hx hb hd hi (hL.at hv) (hKK _ _ _ _ hk H locs ls hL hP hD hS)
  case lload_n i => obtain ⟨rfl, hi⟩ := hc; obtain ⟨v, hv, hk⟩ := p_ld_e hk; obtain ⟨x, rfl, hk⟩ := p_isJ_e hk; exact fun H locs ls hL hP hD hS => lv_lload_n hx hb hd hi (hL.at hv) (hKK _ _ _ _ hk H locs ls hL hP hD hS)
  case aload_n i => obtain ⟨rfl, hi⟩ := hc; obtain ⟨v, hv, hk⟩ := p_ld_e hk; obtain ⟨x, rfl, hk⟩ := p_isR_e hk; exact fun H locs ls hL hP hD hS => lv_aload_n hx hb hd hi (hL.at hv) (hKK _ _ _ _ hk H locs ls hL hP hD hS)
  case iload i => obtain ⟨rfl, rfl⟩ := hc; obtain ⟨v, hv, hk⟩ := p_ld_e hk; obtain ⟨x, rfl, hk⟩ := p_isI_e hk; exact fun H locs ls hL hP hD hS => lv_iload hx hb hd (hL.at hv) (hKK _ _ _ _ hk H locs ls hL hP hD hS)
  case lload i => obtain ⟨rfl, rfl⟩ := hc; obtain ⟨v, hv, hk⟩ := p_ld_e hk; obtain ⟨x, rfl, hk⟩ := p_isJ_e hk; exact fun H locs ls hL hP hD hS => lv_lload hx hb hd (hL.at hv) (hKK _ _ _ _ hk H locs ls hL hP hD hS)
  case aload i => obtain ⟨rfl, rfl⟩ := hc; obtain ⟨v, hv, hk⟩ := p_ld_e hk; obtain ⟨x, rfl, hk⟩ := p_isR_e hk; exact fun H locs ls hL hP hD hS => lv_aload hx hb hd (hL.at hv) (hKK _ _ _ _ hk H locs ls hL hP hD hS)
  case istore_n i => obtain ⟨rfl, hi, hlt⟩ := hc; obtain ⟨x, r, rfl, hk⟩ := p_popI_e hk; exact fun H locs ls hL hP hD hS => lv_istore_n hx hb hd hi hL.2 hlt rfl (fun ls' hl' => hKK _ _ _ _ hk H locs ls' (hL.set1 hlt (fun w hw => by cases hw; rfl) hl') hP hD hS)
  case astore_n i => obtain ⟨rfl, hi, hlt⟩ := hc; obtain ⟨x, r, rfl, hk⟩ := p_popR_e hk; exact fun H locs ls hL hP hD hS => lv_astore_n hx hb hd hi hL.2 hlt rfl (fun ls' hl' => hKK _ _ _ _ hk H locs ls' (hL.set1 hlt (fun w hw => by cases hw; rfl) hl') hP hD hS)
  case lstore_n i => obtain ⟨rfl, hi, hlt⟩ := hc; obtain ⟨x, r, rfl, hk⟩ := p_popJ_e hk; exact fun H locs ls hL hP hD hS => lv_lstore_n hx hb hd hi hL.2 hlt rfl (fun ls' hl' => hKK _ _ _ _ hk H locs ls' (hL.set2 hlt (fun w hw => by cases hw; rfl) hl') hP hD hS)
  case istore i => obtain ⟨rfl, rfl, hlt⟩ := hc; obtain ⟨x, r, rfl, hk⟩ := p_popI_e hk; exact fun H locs ls hL hP hD hS => lv_istore hx hb hd hL.2 hlt rfl (fun ls' hl' => hKK _ _ _ _ hk H locs ls' (hL.set1 hlt (fun w hw => by cases hw; rfl) hl') hP hD hS)
  case astore i => obtain ⟨rfl, rfl, hlt⟩ := hc; obtain ⟨x, r, rfl, hk⟩ := p_popR_e hk; exact fun H locs ls hL hP hD hS => lv_astore hx hb hd hL.2 hlt rfl (fun ls' hl' => hKK _ _ _ _ hk H locs ls' (hL.set1 hlt (fun w hw => by cases hw; rfl) hl') hP hD hS)
  case lstore i => obtain ⟨rfl, rfl, hlt⟩ := hc; obtain ⟨x, r, rfl, hk⟩ := p_popJ_e hk; exact fun H locs ls hL hP hD hS => lv_lstore hx hb hd hL.2 hlt rfl (fun ls' hl' => hKK _ _ _ _ hk H locs ls' (hL.set2 hlt (fun w hw => by cases hw; rfl) hl') hP hD hS)
  case iinc i n =>
    obtain ⟨rfl, rfl, hlt, rfl⟩ := hc; obtain ⟨v, hv, hk⟩ := p_ld_e hk; obtain ⟨x, rfl, hk⟩ := p_isI_e hk
    intro H locs ls hL hP hD hS
    obtain ⟨kk, hkk⟩ := List.getElem?_of_mem (lvl_mem.mpr ⟨.int x, hv, rfl⟩ : (_, rv ρ (.int x)) ∈ lvl ρ L)
    exact lv_iinc hx hb hd hL.2 hkk rfl hlt rfl (fun ls' hl' => hKK _ _ _ _ hk H locs ls' (hL.set1 hlt (fun w hw => by cases hw; rfl) hl') hP hD hS)
  case iadd => obtain rfl : len = 1 := hc; obtain ⟨y, r, rfl, hk⟩ := p_popI_e hk; obtain ⟨x, r, rfl, hk⟩ := p_popI_e hk; exact fun H locs ls hL hP hD hS => lv_iadd hx hb hd (hKK _ _ _ _ hk H locs ls hL hP hD hS)
  case isub => obtain rfl : len = 1 := hc; obtain ⟨y, r, rfl, hk⟩ := p_popI_e hk; obtain ⟨x, r, rfl, hk⟩ := p_popI_e hk; exact fun H locs ls hL hP hD hS => lv_isub hx hb hd (hKK _ _ _ _ hk H locs ls hL hP hD hS)
  case imul => obtain rfl : len = 1 := hc; obtain ⟨y, r, rfl, hk⟩ := p_popI_e hk; obtain ⟨x, r, rfl, hk⟩ := p_popI_e hk; exact fun H locs ls hL hP hD hS => lv_imul hx hb hd (hKK _ _ _ _ hk H locs ls hL hP hD hS)
  case iand => obtain rfl : len = 1 := hc; obtain ⟨y, r, rfl, hk⟩ := p_popI_e hk; obtain ⟨x, r, rfl, hk⟩ := p_popI_e hk; exact fun H locs ls hL hP hD hS => lv_iand hx hb hd (hKK _ _ _ _ hk H locs ls hL hP hD hS)
  case ishr => obtain rfl : len = 1 := hc; obtain ⟨y, r, rfl, hk⟩ := p_popI_e hk; obtain ⟨x, r, rfl, hk⟩ := p_popI_e hk; exact fun H locs ls hL hP hD hS => lv_ishr hx hb hd (hKK _ _ _ _ hk H locs ls hL hP hD hS)
  case iushr => obtain rfl : len = 1 := hc; obtain ⟨y, r, rfl, hk⟩ := p_popI_e hk; obtain ⟨x, r, rfl, hk⟩ := p_popI_e hk; exact fun H locs ls hL hP hD hS => lv_iushr hx hb hd rfl (hKK _ _ _ _ hk H locs ls hL hP hD hS)
  case idiv => obtain rfl : len = 1 := hc; obtain ⟨y, r, rfl, hk⟩ := p_popI_e hk; obtain ⟨x, r, rfl, hk⟩ := p_popI_e hk; exact fun H locs ls hL hP hD hS => lv_idiv hx hb hd hk.1 (hKK _ _ _ _ hk.2 H locs ls hL hP hD hS)
  case irem => obtain rfl : len = 1 := hc; obtain ⟨y, r, rfl, hk⟩ := p_popI_e hk; obtain ⟨x, r, rfl, hk⟩ := p_popI_e hk; exact fun H locs ls hL hP hD hS => lv_irem hx hb hd hk.1 (hKK _ _ _ _ hk.2 H locs ls hL hP hD hS)
  case ladd => obtain rfl : len = 1 := hc; obtain ⟨y, r, rfl, hk⟩ := p_popJ_e hk; obtain ⟨x, r, rfl, hk⟩ := p_popJ_e hk; exact fun H locs ls hL hP hD hS => lv_ladd hx hb hd (hKK _ _ _ _ hk H locs ls hL hP hD hS)
  case lsub => obtain rfl : len = 1 := hc; obtain ⟨y, r, rfl, hk⟩ := p_popJ_e hk; obtain ⟨x, r, rfl, hk⟩ := p_popJ_e hk; exact fun H locs ls hL hP hD hS => lv_lsub hx hb hd (hKK _ _ _ _ hk H locs ls hL hP hD hS)
  case lmul => obtain rfl : len = 1 := hc; obtain ⟨y, r, rfl, hk⟩ := p_popJ_e hk; obtain ⟨x, r, rfl, hk⟩ := p_popJ_e hk; exact fun H locs ls hL hP hD hS => lv_lmul hx hb hd (hKK _ _ _ _ hk H locs ls hL hP hD hS)
  case land => obtain rfl : len = 1 := hc; obtain ⟨y, r, rfl, hk⟩ := p_popJ_e hk; obtain ⟨x, r, rfl, hk⟩ := p_popJ_e hk; exact fun H locs ls hL hP hD hS => lv_land hx hb hd (hKK _ _ _ _ hk H locs ls hL hP hD hS)
  case lor => obtain rfl : len = 1 := hc; obtain ⟨y, r, rfl, hk⟩ := p_popJ_e hk; obtain ⟨x, r, rfl, hk⟩ := p_popJ_e hk; exact fun H locs ls hL hP hD hS => lv_lor hx hb hd (hKK _ _ _ _ hk H locs ls hL hP hD hS)
  case ldiv => obtain rfl : len = 1 := hc; obtain ⟨y, r, rfl, hk⟩ := p_popJ_e hk; obtain ⟨x, r, rfl, hk⟩ := p_popJ_e hk; exact fun H locs ls hL hP hD hS => lv_ldiv hx hb hd hk.1 (hKK _ _ _ _ hk.2 H locs ls hL hP hD hS)
  case lrem => obtain rfl : len = 1 := hc; obtain ⟨y, r, rfl, hk⟩ := p_popJ_e hk; obtain ⟨x, r, rfl, hk⟩ := p_popJ_e hk; exact fun H locs ls hL hP hD hS => lv_lrem hx hb hd hk.1 (hKK _ _ _ _ hk.2 H locs ls hL hP hD hS)
  case lneg => obtain rfl : len = 1 := hc; obtain ⟨x, r, rfl, hk⟩ := p_popJ_e hk; exact fun H locs ls hL hP hD hS => lv_lneg hx hb hd (hKK _ _ _ _ hk H locs ls hL hP hD hS)
  case i2b => obtain rfl : len = 1 := hc; obtain ⟨x, r, rfl, hk⟩ := p_popI_e hk; exact fun H locs ls hL hP hD hS => lv_i2b hx hb hd rfl (hKK _ _ _ _ hk H locs ls hL hP hD hS)
  case i2l => obtain rfl : len = 1 := hc; obtain ⟨x, r, rfl, hk⟩ := p_popI_e hk; exact fun H locs ls hL hP hD hS => lv_i2l hx hb hd rfl (hKK _ _ _ _ hk H locs ls hL hP hD hS)
  case l2i => obtain rfl : len = 1 := hc; obtain ⟨x, r, rfl, hk⟩ := p_popJ_e hk; exact fun H locs ls hL hP hD hS => lv_l2i hx hb hd rfl (hKK _ _ _ _ hk H locs ls hL hP hD hS)
  case lcmp => obtain rfl : len = 1 := hc; obtain ⟨y, r, rfl, hk⟩ := p_popJ_e hk; obtain ⟨x, r, rfl, hk⟩ := p_popJ_e hk; exact fun H locs ls hL hP hD hS => W.lcmp hx hb hd (hKK _ _ _ _ hk H locs ls hL hP hD hS)
  case dup => obtain rfl : len = 1 := hc; obtain ⟨v, r, rfl, hv, hk⟩ := p_pop_e hk; exact fun H locs ls hL hP hD hS => lv_dup hx hb hd (by rw [rv_cat]; exact hv) (hKK _ _ _ _ hk H locs ls hL hP hD hS)
  case dup2 => obtain rfl : len = 1 := hc; obtain ⟨v, r, rfl, hk⟩ := p_pop_e hk; obtain ⟨w, r, rfl, hv, hw, hk⟩ := p_pop_e hk; exact fun H locs ls hL hP hD hS => lv_dup2_11 hx hb hd (by rw [rv_cat]; exact hv) (by rw [rv_cat]; exact hw) (hKK _ _ _ _ hk H locs ls hL hP hD hS)
  case ifCond op off =>
    obtain ⟨rfl, ho⟩ := hc; obtain ⟨x, r, rfl, hk⟩ := p_popI_e hk
    intro H locs ls hL hP hD hS
    cases op
    · exact lv_if_eq hx hb hd ho (fun h => hKK _ _ _ _ (hk.1 h) H locs ls hL hP hD hS) (fun h => hKK _ _ _ _ (hk.2 h) H locs ls hL hP hD hS)
    · exact lv_if_ne hx hb hd ho (fun h => hKK _ _ _ _ (hk.1 h) H locs ls hL hP hD hS) (fun h => hKK _ _ _ _ (hk.2 (fun q => q h)) H locs ls hL hP hD hS)
    · exact lv_if_lt hx hb hd ho (fun h => hKK _ _ _ _ (hk.1 h) H locs ls hL hP hD hS) (fun h => hKK _ _ _ _ (hk.2 h) H locs ls hL hP hD hS)
    · exact lv_if_ge hx hb hd ho (fun h => hKK _ _ _ _ (hk.1 h) H locs ls hL hP hD hS) (fun h => hKK _ _ _ _ (hk.2 h) H locs ls hL hP hD hS)
    · exact lv_if_gt hx hb hd ho (fun h => hKK _ _ _ _ (hk.1 h) H locs ls hL hP hD hS) (fun h => hKK _ _ _ _ (hk.2 h) H locs ls hL hP hD hS)
    · exact lv_if_le hx hb hd ho (fun h => hKK _ _ _ _ (hk.1 h) H locs ls hL hP hD hS) (fun h => hKK _ _ _ _ (hk.2 h) H locs ls hL hP hD hS)
  case if_icmp op off =>
    obtain ⟨rfl, ho⟩ := hc; obtain ⟨y, r, rfl, hk⟩ := p_popI_e hk; obtain ⟨x, r, rfl, hk⟩ := p_popI_e hk
    intro H locs ls hL hP hD hS
    cases op
    · exact lv_icmp_eq hx hb hd ho (fun h => hKK _ _ _ _ (hk.1 h) H locs ls hL hP hD hS) (fun h => hKK _ _ _ _ (hk.2 h) H locs ls hL hP hD hS)
    · exact lv_icmp_ne hx hb hd ho (fun h => hKK _ _ _ _ (hk.1 h) H locs ls hL hP hD hS) (fun h => hKK _ _ _ _ (hk.2 (fun q => q h)) H locs ls hL hP hD hS)
    · exact lv_icmp_lt hx hb hd ho (fun h => hKK _ _ _ _ (hk.1 h) H locs ls hL hP hD hS) (fun h => hKK _ _ _ _ (hk.2 h) H locs ls hL hP hD hS)
    · exact lv_icmp_ge hx hb hd ho (fun h => hKK _ _ _ _ (hk.1 h) H locs ls hL hP hD hS) (fun h => hKK _ _ _ _ (hk.2 h) H locs ls hL hP hD hS)
    · exact lv_icmp_gt hx hb hd ho (fun h => hKK _ _ _ _ (hk.1 h) H locs ls hL hP hD hS) (fun h => hKK _ _ _ _ (hk.2 h) H locs ls hL hP hD hS)
    · exact lv_icmp_le hx hb hd ho (fun h => hKK _ _ _ _ (hk.1 h) H locs ls hL hP hD hS) (fun h => hKK _ _ _ _ (hk.2 h) H locs ls hL hP hD hS)
  case goto off => obtain ⟨rfl, ho⟩ := hc; exact fun H locs ls hL hP hD hS => lv_goto hx hb hd ho (hKK _ _ _ _ hk H locs ls hL hP hD hS)
  case tableswitch d lo hi offs =>
    obtain ⟨h1, h2, h3, h4, h5⟩ := hc; obtain ⟨x, r, rfl, hk⟩ := p_popI_e hk
    intro H locs ls hL hP hD hS
    obtain ⟨a1, a2, a3⟩ := p_sw_e _ _ h2 (by omega) hk
    by_cases hlo : x.toInt < lo
    · exact lv_tableOut hx hb hd (Or.inl hlo) h1 (hKK _ _ _ _ (a1 hlo) H locs ls hL hP hD hS)
    · by_cases hhi : hi < x.toInt
      · exact lv_tableOut hx hb hd (Or.inr hhi) h1 (hKK _ _ _ _ (a2 (by omega)) H locs ls hL hP hD hS)
      · have hlt : (x.toInt - lo).toNat < ts0.length := by omega
        have ht : ts0[(x.toInt - lo).toNat]? = some ts0[(x.toInt - lo).toNat] := List.getElem?_eq_getElem hlt
        have h6 : (offs.toList.map (fun o => (pc : Int) + o))[(x.toInt - lo).toNat]? = some ((ts0[(x.toInt - lo).toNat] : Nat) : Int) := by rw [h5, List.getElem?_map, ht]; rfl
        rw [List.getElem?_map] at h6
        cases ho : offs.toList[(x.toInt - lo).toNat]? with
        | none => rw [ho] at h6; cases h6
        | some o =>
          rw [ho] at h6
          exact lv_tableIn hx hb hd hlo hhi (by rw [← Array.getElem?_toList]; exact ho) (Option.some.inj h6) (hKK _ _ _ _ (a3 _ _ ht (by omega)) H locs ls hL hP hD hS)
  case getfield i =>
    obtain ⟨rfl, C, T, N, ty, ⟨k1, k2, k3, k4⟩, hj, hw⟩ := hc; obtain ⟨k, r, rfl, hk⟩ := p_popR_e hk; obtain ⟨fs, hfs, hk⟩ := p_obj_e hk
    intro H locs ls hL hP hD hS
    have hg : ∀ f, fs[b0]? = some f → (fs.mapIdx (p_fv ρ M k))[b0]? = some (p_fv ρ M k (b0) f) := fun f hf => by rw [List.getElem?_mapIdx, hf]; rfl
    split at hk
    · rename_i x hf
      exact va_get hx hb hts k2 hown hK hP k (p_w_get hfs) k1 (b0) hj (hts _ hw) (fun _ h9 => h9) (hg _ hf) hd (hKK _ _ _ _ hk H locs ls hL hP hD hS)
    · rename_i hf
      exact va_get hx hb hts k2 hown hK hP k (p_w_get hfs) k1 (b0) hj (hts _ hw) (fun _ h9 => h9) (hg _ hf) hd (hKK _ _ _ _ hk H locs ls hL hP hD hS)
    · rename_i t9 hnl hf
      have e9 : p_fv ρ M k (b0) (.inr t9) = .int (M.1 k (b0)) := by
        cases t9 <;> first | rfl | exact absurd rfl hnl
      have g9 := hg _ hf
      rw [e9] at g9
      exact va_get hx hb hts k2 hown hK hP k (p_w_get hfs) k1 (b0) hj (hts _ hw) (fun _ h9 => h9) g9 hd (hKK _ _ _ _ hk H locs ls hL hP hD hS)
    · exact hk.elim
  case putfield i =>
    obtain ⟨rfl, C, T, N, ty, ⟨k1, k2, k3, k4⟩, hj, hw⟩ := hc; obtain ⟨v, r, rfl, hk⟩ := p_pop_e hk; obtain ⟨k, r, rfl, hk⟩ := p_popR_e hk; obtain ⟨fs, hfs, hk⟩ := p_obj_e hk
    intro H locs ls hL hP hD hS
    have hlen : ∀ {f}, fs[b0]? = some f → b0 < (fs.mapIdx (p_fv ρ M k)).length := fun hf => by rw [List.length_mapIdx]; exact (List.getElem?_eq_some_iff.mp hf).1
    split at hk
    · rename_i hf
      obtain ⟨x, rfl, hk⟩ := p_isJ_e hk
      obtain ⟨f1, f2⟩ := hsh.2 k _ _ _ _ hfs hf C T N k1
      refine va_put (v := .long x) hx hb hts k2 ty k3 k4 hown hK hP hD hS k (p_w_get hfs) k1 (b0) hj (hts _ hw) (fun _ h9 => h9) f1 f2 rfl rfl (hlen hf) hd (fun H1 locs1 hP1 hD1 hS1 => ?_)
      rw [p_w_putJ hfs hf] at hP1 hD1
      exact hKK _ _ _ _ hk H1 locs1 ls hL hP1 hD1 hS1
    · rename_i t9 hnl hf
      obtain ⟨x, rfl, h7, h8, h9, hk⟩ := p_isI_e hk
      obtain ⟨f1, f2⟩ := hsh.2 k _ _ _ _ hfs hf C T N k1
      refine va_put (v := .int x) hx hb hts k2 ty k3 k4 hown hK hP hD hS k (p_w_get hfs) k1 (b0) hj (hts _ hw) (fun _ h9 => h9) f1 f2 h8 h9 (hlen hf) hd (fun H1 locs1 hP1 hD1 hS1 => ?_)
      rw [p_w_putI hfs hf h7] at hP1 hD1
      exact hKK _ _ _ _ hk H1 locs1 ls hL hP1 hD1 hS1
    · exact hk.elim
  case iaload =>
    obtain rfl : len = 1 := hc; obtain ⟨i, r, rfl, hk⟩ := p_popI_e hk; obtain ⟨k, r, rfl, hk⟩ := p_popR_e hk; obtain ⟨t, n, ty, rs, hs, rfl, hin, hk⟩ := p_arr_e hk
    exact fun H locs ls hL hP hD hS => va_iald hx hb hK hP k t (p_w_get hs) (hsh.1 _ _ _ _ _ hs) hin hd (hKK _ _ _ _ hk H locs ls hL hP hD hS)
  case baload =>
    obtain rfl : len = 1 := hc; obtain ⟨i, r, rfl, hk⟩ := p_popI_e hk; obtain ⟨k, r, rfl, hk⟩ := p_popR_e hk; obtain ⟨t, n, ty, rs, hs, hty, hin, hk⟩ := p_arr_e hk
    rcases hty with rfl | rfl
    · exact fun H locs ls hL hP hD hS => va_bald hx hb hK hP k t (p_w_get hs) (hsh.1 _ _ _ _ _ hs) hin hd (hKK _ _ _ _ hk H locs ls hL hP hD hS)
    · exact fun H locs ls hL hP hD hS => va_zald hx hb hK hP k t (p_w_get hs) (hsh.1 _ _ _ _ _ hs) hin hd (hKK _ _ _ _ hk H locs ls hL hP hD hS)
  case laload =>
    obtain rfl : len = 1 := hc; obtain ⟨i, r, rfl, hk⟩ := p_popI_e hk; obtain ⟨k, r, rfl, hk⟩ := p_popR_e hk; obtain ⟨t, n, ty, rs, hs, rfl, hin, hk⟩ := p_arr_e hk
    exact fun H locs ls hL hP hD hS => va_lald hx hb hK hP k t (p_w_get hs) (hsh.1 _ _ _ _ _ hs) hin hd (hKK _ _ _ _ hk H locs ls hL hP hD hS)
  case aaload =>
    obtain rfl : len = 1 := hc; obtain ⟨i, r, rfl, hk⟩ := p_popI_e hk; obtain ⟨k, r, rfl, hk⟩ := p_popR_e hk; obtain ⟨t, n, ty, rs, hs, ⟨C, rfl⟩, hin, x, hrs, hk⟩ := p_arr_e hk
    intro H locs ls hL hP hD hS
    refine va_aldq hx hb hK hP k t (p_w_get hs) (hsh.1 _ _ _ _ _ hs) hin hd ?_
    rw [hrs]
    exact hKK _ _ _ _ hk H locs ls hL hP hD hS
  case iastore =>
    obtain rfl : len = 1 := hc; obtain ⟨x, r, rfl, hk⟩ := p_popI_e hk; obtain ⟨i, r, rfl, hk⟩ := p_popI_e hk; obtain ⟨k, r, rfl, hk⟩ := p_popR_e hk; obtain ⟨t, n, ty, rs, hs, rfl, hin, hk⟩ := p_arr_e hk
    intro H locs ls hL hP hD hS
    refine va_iast hx hb hK hP hD hS k t (p_w_get hs) (hsh.1 _ _ _ _ _ hs) hin hd (fun H1 locs1 hP1 hD1 hS1 => ?_)
    rw [p_w_arrI hs (Or.inl rfl)] at hP1 hD1
    exact hKK _ _ _ _ hk H1 locs1 ls hL hP1 hD1 hS1
  case bastore =>
    obtain rfl : len = 1 := hc; obtain ⟨x, r, rfl, hk⟩ := p_popI_e hk; obtain ⟨i, r, rfl, hk⟩ := p_popI_e hk; obtain ⟨k, r, rfl, hk⟩ := p_popR_e hk; obtain ⟨t, n, ty, rs, hs, hty, hin, hk⟩ := p_arr_e hk
    intro H locs ls hL hP hD hS
    rcases hty with rfl | rfl
    · refine va_bast hx hb hK hP hD hS k t (p_w_get hs) (hsh.1 _ _ _ _ _ hs) hin hd (fun H1 locs1 hP1 hD1 hS1 => ?_)
      rw [p_w_arrI hs (Or.inr (Or.inl rfl))] at hP1 hD1
      exact hKK _ _ _ _ hk H1 locs1 ls hL hP1 hD1 hS1
    · refine va_zast hx hb hK hP hD hS k t (p_w_get hs) (hsh.1 _ _ _ _ _ hs) hin hd (fun H1 locs1 hP1 hD1 hS1 => ?_)
      rw [p_w_arrI hs (Or.inr (Or.inr rfl))] at hP1 hD1
      exact hKK _ _ _ _ hk H1 locs1 ls hL hP1 hD1 hS1
  case lastore =>
    obtain rfl : len = 1 := hc; obtain ⟨x, r, rfl, hk⟩ := p_popJ_e hk; obtain ⟨i, r, rfl, hk⟩ := p_popI_e hk; obtain ⟨k, r, rfl, hk⟩ := p_popR_e hk; obtain ⟨t, n, ty, rs, hs, rfl, hin, hk⟩ := p_arr_e hk
    intro H locs ls hL hP hD hS
    refine va_last hx hb hK hP hD hS k t (p_w_get hs) (hsh.1 _ _ _ _ _ hs) hin hd (fun H1 locs1 hP1 hD1 hS1 => ?_)
    rw [p_w_arrJ hs] at hP1 hD1
    exact hKK _ _ _ _ hk H1 locs1 ls hL hP1 hD1 hS1
  case arraylength =>
    obtain rfl : len = 1 := hc; obtain ⟨k, r, rfl, hk⟩ := p_popR_e hk; obtain ⟨t, n, ty, rs, hs, hk⟩ := p_arr_e hk
    exact fun H locs ls hL hP hD hS => va_alen hx hb hK hP k t (p_w_get hs) (hsh.1 _ _ _ _ _ hs) rfl hd (hKK _ _ _ _ hk H locs ls hL hP hD hS)
  case invokevirtual i => exact hcS ⟨i, Or.inl rfl⟩ hc rfl rfl hk
  case invokestatic i =>
    have hcat : ∀ r : List Value, ((r.map (rv ρ)).map fun v => v.category).sum = (r.map fun v => v.category).sum := fun r => by rw [List.map_map, show (fun v : Value => v.category) ∘ rv ρ = fun v => v.category from funext fun v => rv_cat ρ v]
    unfold p_ex at hk
    dsimp only at hk
    split at hk
    · rename_i h0
      obtain rfl : len = 3 := hc
      obtain ⟨y, r0, rfl, hk2⟩ := p_popI_e hk; obtain ⟨x, r, rfl, h8, hk3⟩ := p_popI_e hk2
      obtain ⟨w1, w2, w3, w4⟩ := hmx i rfl h0
      exact fun H locs ls hL hP hD hS => va_mmax hx hb (hml.trans hL.2.1.symm) hown (hts _ w1) (hts _ w2) (hts _ w3) (hts _ w4) hR1.1 (by rw [hcat]; omega) hR1.2.2.1 hR1.2.2.2 hd (hKK _ _ _ _ hk3 H locs ls hL hP hD hS)
    · rename_i h0
      split at hk
      · rename_i h1
        obtain rfl : len = 3 := hc
        obtain ⟨x, r, rfl, h8, hk2⟩ := p_popJ_e hk
        obtain ⟨w1, w2, w3, w4⟩ := hab i rfl h1
        exact fun H locs ls hL hP hD hS => va_mabs_long hx hb (hml.trans hL.2.1.symm) hown (hts _ w1) (hts _ w2) (hts _ w3) (hts _ w4) hR1.1 (by rw [hcat]; omega) hR1.2.2.1 hR1.2.2.2 hd (hKK _ _ _ _ hk2 H locs ls hL hP hD hS)
      · rename_i h1
        exact hcS ⟨i, Or.inr ⟨rfl, h0, h1⟩⟩ hc rfl rfl hk
  case ireturn =>
    obtain rfl : len = 1 := hc; obtain ⟨x, r, rfl, rfl, ⟨ty, hty, hsm, hnr⟩, hk⟩ := p_popI_e hk
    exact fun H locs ls hL hP hD hS => W.widen hmc hms (vx_ret (W.zret hx hb (hret.trans hty) hnr (hQ _ M H locs hk hP hD hS) (fun q hq => hAf _ (hS.2.2 q hq)) hd))
  case lreturn =>
    obtain rfl : len = 1 := hc; obtain ⟨x, r, rfl, rfl, hty, hk⟩ := p_popJ_e hk
    exact fun H locs ls hL hP hD hS => W.widen hmc hms (vx_ret (W.lret hx hb (hret.trans hty) (hQ _ M H locs hk hP hD hS) (fun q hq => hAf _ (hS.2.2 q hq)) hd))
  case areturn =>
    obtain rfl : len = 1 := hc; obtain ⟨x, r, rfl, rfl, ⟨C, hC⟩, hk⟩ := p_popR_e hk
    exact fun H locs ls hL hP hD hS => W.widen hmc hms (vx_ret (W.aret hx hb (hret.trans hC) (Or.inl ⟨C, rfl⟩) (Or.inr ⟨_, rfl⟩) (hQ _ M H locs hk hP hD hS) (fun q hq => hAf _ (hS.2.2 q hq)) hd))
  case return_ =>
    obtain rfl : len = 1 := hc; obtain ⟨rfl, hty, hk⟩ := hk
    exact fun H locs ls hL hP hD hS => W.widen hmc hms (vx_ret (W.vret hx hb (hret.trans hty) (hQ none M H locs hk hP hD hS) (fun q hq => hAf _ (hS.2.2 q hq)) hd))
  case athrow =>
    obtain rfl : len = 1 := hc; obtain ⟨k, r, rfl, hk⟩ := p_popR_e hk; obtain ⟨fs, hfs, hk⟩ := p_obj_e hk
    intro H locs ls hL hP hD hS
    obtain ⟨T, N, hcl, hce⟩ := hkind0 k fs hfs
    obtain ⟨ce, hce, hcv⟩ := hce H hP
    obtain ⟨cell, r1, r2, r3⟩ := va_recv hK hP hcl (p_w_get hfs)
    cases Option.some.inj (hce.symm.trans r1)
    exact w_athrow hx hb hd (hth _ _ hk H locs ls _ _ _ hL hP hD hS hce hcv r3)
  all_goals exact hk.elim
end PS2
end
section
/-! Methods: what the pure machine says of a method is a contract of the real one. -/
/-- name, bytes, locals, answer's type, table of handlers, resolved code, handlers by place, the receiver's kind, how many parameters -/
abbrev PMeth : Type := MethodName × ByteArray × Nat × Option FieldType × List (Nat × Nat × Nat × Nat) × PCode × (Nat → Option (Nat × Nat)) × Option Nat × Nat
abbrev PMeth.y (q : PMeth) : MethodName := q.1
abbrev PMeth.bytes (q : PMeth) : ByteArray := q.2.1
abbrev PMeth.maxL (q : PMeth) : Nat := q.2.2.1
abbrev PMeth.ret (q : PMeth) : Option FieldType := q.2.2.2.1
abbrev PMeth.hh (q : PMeth) : List (Nat × Nat × Nat × Nat) := q.2.2.2.2.1
abbrev PMeth.code (q : PMeth) : PCode := q.2.2.2.2.2.1
abbrev PMeth.hn (q : PMeth) : Nat → Option (Nat × Nat) := q.2.2.2.2.2.2.1
abbrev PMeth.rc (q : PMeth) : Option Nat := q.2.2.2.2.2.2.2.1
abbrev PMeth.np (q : PMeth) : Nat := q.2.2.2.2.2.2.2.2
def PMeth.cw (q : PMeth) : Cond := if q.hh = [] then .code q.y q.bytes q.maxL q.ret else .codeWith q.y q.bytes q.maxL q.ret q.hh
/-- how a method may be entered -/
def p_in (Sh : List PSh) (q : PMeth) (as : List Value) : Prop := (p_ent as).length ≤ q.maxL ∧ match q.rc with
  | none => as.length = q.np
  | some ci => as.length = q.np + 1 ∧ ∃ b r fs, as = .ref b :: r ∧ Sh[b]? = some (.inl (ci, fs))
def p_sem (MT : Nat → Option PMeth) (Sh : List PSh) : Nat → PEnv
  | 0 => fun _ _ _ _ => False
  | d + 1 => fun k as M Q => ∃ q, MT k = some q ∧ p_in Sh q as ∧ Ev (Sh, p_sem MT Sh d, q.hn, q.ret, q.code, fun _ _ _ _ => False) Q 0 (p_ent0 q.maxL as) [] M
/-- a handler's table beside its places -/
def p_hok (Ts : List Cond) (own XN : String) (bytes : ByteArray) (nL : Nat) (hh : List (Nat × Nat × Nat × Nat)) (hn : Nat → Option (Nat × Nat)) : Prop :=
  (∀ pc, hn pc = none → ∀ x ∈ tableOf hh, covers x pc = false) ∧
  ∀ pc p2 i, hn pc = some (p2, i) → ∃ pre x suf, tableOf hh = pre ++ x :: suf ∧ (∀ z ∈ pre, covers z pc = false) ∧ covers x pc = true ∧ x.catchType ≠ 0 ∧ Cond.classLink own x.catchType XN ∈ Ts ∧ i < nL ∧
    ((∃ k : Fin 4, (k : Nat) = i ∧ decode bytes x.handlerPc = .ok (.astore_n k, 1) ∧ p2 = x.handlerPc + 1) ∨ (decode bytes x.handlerPc = .ok (.astore i, 2) ∧ p2 = x.handlerPc + 2))
/-- a call's entry -/
def p_cok (cl : List vw_C) (Ts : List Cond) (MT : Nat → Option PMeth) (own : String) (st : Bool) (idx k n : Nat) : Prop := ∃ q, MT k = some q ∧ Cond.methodLink own idx q.y ∈ Ts ∧ Cond.initialized q.y.cls ∈ Ts ∧ q.cw ∈ Ts ∧ (q.y.cls ≠ "java/lang/invoke/MethodHandle" ∧ q.y.cls ≠ "java/lang/invoke/VarHandle") ∧ (parseMethodDescriptor q.y.desc).map (fun d => d.parameters.length) = some q.np ∧
  match st with
  | true => q.rc = none ∧ n = q.np ∧ Cond.static q.y ∈ Ts
  | false => n = q.np + 1 ∧ Cond.instanceMethod q.y ∈ Ts ∧ Cond.selects q.y.cls q.y q.y ∈ Ts ∧ ∃ ci T N, q.rc = some ci ∧ cl[ci]? = some (q.y.cls, T, N)
/-- a static call: of Math, or of a method of the table -/
def p_csx (cl : List vw_C) (Ts : List Cond) (MT : Nat → Option PMeth) (own : String) (i k n : Nat) : Prop := if n = 1000 then p_mw Ts own i Lib.Math.max.name p_mmax else if n = 1001 then p_mw Ts own i Lib.MathLoose.abs_long.x p_mabs else p_cok cl Ts MT own true i k n
/-- what is checked of a method -/
def p_mok (cl : List vw_C) (Ts : List Cond) (MT : Nat → Option PMeth) (XN : String) (q : PMeth) : Prop :=
  plainName q.y.cls = true ∧ p_hok Ts q.y.cls XN q.bytes q.maxL q.hh q.hn ∧
  ∀ pc ins nx a0 b0 ts0 cv, q.code pc = some (ins, nx, a0, b0, ts0, cv) → ∃ len, decode q.bytes pc = .ok (ins, len) ∧ nx = pc + len ∧ p_chk cl Ts q.y.cls q.maxL pc ins len a0 b0 ts0 cv ∧ (∀ i, ins = .invokevirtual i → p_cok cl Ts MT q.y.cls false i (a0) (b0)) ∧ (∀ i, ins = .invokestatic i → p_csx cl Ts MT q.y.cls i (a0) (b0))
def p_A (ρ : Nat → Nat) (n sz : Nat) : Nat → Prop := fun q => (∃ k, k < n ∧ q = ρ k) ∨ sz ≤ q
def p_Pc (cl : List vw_C) (Sh : List PSh) (ρ : Nat → Nat) (cA : Nat → ClassId) (D : va_G) (tys : List (ClassId × FieldType)) (sz : Nat) (as : List Value) (M : PM) : Array Value → State → Prop :=
  va_Pc (as.map (rv ρ)) (fun U => U.heap.size = sz ∧ va_P D cl (p_w ρ cA Sh M) U.heap ∧ va_K D cl tys U ∧ va_D (fun _ => True) (p_w ρ cA Sh M))
def p_Qc (cl : List vw_C) (Sh : List PSh) (ρ : Nat → Nat) (cA : Nat → ClassId) (D : va_G) (sz : Nat) (Q0 : Option (Option Value) → PM → Prop) : Array Value → State → Outcome → State → Prop :=
  fun _ st o t => (∃ v M', o = .returned (v.map (rv ρ)) ∧ Q0 (some v) M' ∧ va_P D cl (p_w ρ cA Sh M') t.heap) ∧ va_F (p_A ρ Sh.length sz) st t
def p_XC (cl : List vw_C) (Sh : List PSh) (XN : String) (ρ : Nat → Nat) (cA : Nat → ClassId) (D : va_G) (sz : Nat) (Q0 : Option (Option Value) → PM → Prop) : String → State → State → Prop :=
  fun E st t => E = XN ∧ (∃ M', Q0 none M' ∧ va_P D cl (p_w ρ cA Sh M') t.heap) ∧ va_F (p_A ρ Sh.length sz) st t
def p_rm (K9 d : Nat) : Room := { frames := d, cells := 0, slots := 0, locals := d * K9 }
/-- the contract of every method at depth d -/
def p_CT (l : Launch) (cl : List vw_C) (Ts : List Cond) (MT : Nat → Option PMeth) (Sh : List PSh) (XN : String) (K9 d : Nat) : Prop :=
  ∀ k q, MT k = some q → ∀ (ρ : Nat → Nat) (cA : Nat → ClassId) (D : va_G) (tys : List (ClassId × FieldType)) (sz : Nat) (as : List Value) (M : PM) (Q0 : Option (Option Value) → PM → Prop), p_shok cl tys cA Sh → p_sem MT Sh d k as M Q0 →
    vx_Met l q.y (q.cw :: Ts) (p_rm K9 d) (p_Pc cl Sh ρ cA D tys sz as M) (p_Qc cl Sh ρ cA D sz Q0) (p_XC cl Sh XN ρ cA D sz Q0) 0 0 (p_A ρ Sh.length sz)
theorem p_w_D {A : Nat → Prop} {ρ : Nat → Nat} {cA : Nat → ClassId} {Sh : List PSh} {M M' : PM} (h : va_D A (p_w ρ cA Sh M)) : va_D A (p_w ρ cA Sh M') := by
  have key : ∀ (k : Nat) (q : Nat × va_E), (p_w ρ cA Sh M')[k]? = some q → ∃ q0, (p_w ρ cA Sh M)[k]? = some q0 ∧ q0.1 = q.1 := by
    intro k q hq
    obtain ⟨sh, hs, rfl⟩ := p_w_inv hq
    exact ⟨_, p_w_get hs, rfl⟩
  refine ⟨fun i j x y hi hj hxy => ?_, fun k q hk => ?_⟩
  · obtain ⟨x0, h1, h2⟩ := key i x hi
    obtain ⟨y0, h3, h4⟩ := key j y hj
    exact h.1 i j x0 y0 h1 h3 (h2.trans (hxy.trans h4.symm))
  · obtain ⟨q0, h1, h2⟩ := key k q hk
    rw [← h2]
    exact h.2 k q0 h1
theorem p_A_in {A : Nat → Prop} {ρ : Nat → Nat} {cA : Nat → ClassId} {Sh : List PSh} {M : PM} {sz : Nat} (h : va_D A (p_w ρ cA Sh M)) (hA : ∀ q, sz ≤ q → A q) : ∀ q, p_A ρ Sh.length sz q → A q := by
  rintro q (⟨k, hk, rfl⟩ | h2)
  · exact h.2 k _ (p_w_get (List.getElem?_eq_getElem hk))
  · exact hA q h2
theorem p_blind {cl : List vw_C} {Sh : List PSh} {ρ : Nat → Nat} {cA : Nat → ClassId} {D : va_G} {tys : List (ClassId × FieldType)} {sz : Nat} {as : List Value} {M : PM} : FrameBlind (p_Pc cl Sh ρ cA D tys sz as M) := by
  rintro a U g mk ⟨h1, h2, h3, h4, h5⟩
  exact ⟨h1, h2, h3, va_K.moved (u := U) (U := U.calling g mk a) (Vm.Alike.refl U.vm) h4, h5⟩
theorem cw_code {q : PMeth} (h : q.hh = []) : q.cw = .code q.y q.bytes q.maxL q.ret := if_pos h
theorem cw_with {q : PMeth} (h : ¬ q.hh = []) : q.cw = .codeWith q.y q.bytes q.maxL q.ret q.hh := if_neg h
theorem goodIn_all {Ts : List Cond} (hg : ∀ w ∈ Ts, goodWord w = true) {w : Cond} (h : w ∈ Ts) : w ∈ Ts ∧ ((w.onTables && w.keeps) = true ∨ ∃ ty, w = .arrayClass ty) := ⟨h, good_of_word (hg w h)⟩
section PCALL
variable {p : Program} {l : Launch} {e : Env} {R : Room} {s : State} {m : MethodId} {args : Array Value} {below : List Frame} {meth : Method} {c : Code} {H0 : Heap} {cells slots mc ms : Nat} {D : va_G} {cl : List vw_C} {tys : List (ClassId × FieldType)} {A : Nat → Prop} {ρ : Nat → Nat} {cA : Nat → ClassId} {Sh : List PSh} {cc : ByteArray} {nL : Nat} {own : String} {Ts : List Cond} {Qw : State → Prop} {MT : Nat → Option PMeth} {XN : String} {K9 d : Nat}
set_option maxHeartbeats 4000000 in
theorem p_call (CT : p_CT l cl Ts MT Sh XN K9 d) (S : CallFix p m c cc nL s args Ts own) (hg : ∀ w ∈ Ts, goodWord w = true) (hK : va_K D cl tys s) (hsh : p_shok cl tys cA Sh) (hAn : ∀ q, H0.size ≤ q → A q) (hRf : d + 1 ≤ R.frames) (hRl : ∀ k q, MT k = some q → 8 + (q.maxL + 11) + d * K9 ≤ R.locals) (hRc : cells ≤ R.cells) (hRs : slots ≤ R.slots)
    {pc : Nat} {ins : Instr} {idx k n : Nat} {st9 : Bool} (hins : ins = if st9 then .invokestatic idx else .invokevirtual idx) (hd : decode cc pc = .ok (ins, 3)) (hcok : p_cok cl Ts MT own st9 idx k n)
    {L : List (Option Value)} {st : List Value} {M : PM} {Q0 : Option (Option Value) → PM → Prop} (hcat : ((st.drop n).map fun v => v.category).sum ≤ 8) (hE : p_sem MT Sh d k (st.take n).reverse M Q0)
    (kr : ∀ v M', Q0 (some v) M' → p_sm p l e R s m args below meth c H0 cells slots Qw D cl A ρ cA Sh nL (pc + 3) L (v.toList ++ st.drop n) M')
    (kx : ∀ M', Q0 none M' → p_sx p l e R s m args below meth c H0 cells slots Qw D cl A ρ cA Sh nL XN pc L M') :
    p_sm p l e R s m args below meth c H0 cells slots Qw D cl A ρ cA Sh nL pc L st M := by
  intro H locs ls hL hP hD hS
  obtain ⟨q, hq, hlk, hini, hcw, hy, hdesc, hkind⟩ := hcok
  have hin : p_in Sh q (st.take n).reverse := by
    cases d with
    | zero => exact hE.elim
    | succ d =>
      obtain ⟨q', hq', h1, -⟩ := hE
      cases Option.some.inj (hq.symm.trans hq')
      exact h1
  have hM := CT k q hq ρ cA D tys H.size (st.take n).reverse M Q0 hsh hE
  have hb0 : FrameBlind (p_Pc cl Sh ρ cA D tys H.size (st.take n).reverse M) := p_blind
  have hPc : ∀ U : State, U.heap = H → s.WarmedH U.vm → p_Pc cl Sh ρ cA D tys H.size (st.take n).reverse M ((st.take n).reverse.map (rv ρ)).toArray U := fun U hU hW => ⟨rfl, by rw [hU], by rw [hU]; exact hP, va_K.moved hW.alike hK, hD.weaken (fun _ _ _ _ => trivial)⟩
  have hws : ∀ w ∈ q.cw :: Ts, ∀ (a' : Array Value) (U : State), s.WarmedH U.vm → w.before a' U = true := pay_in S.2.2.2.2 (fun w hw => (List.mem_cons.mp hw).elim (fun h9 => by rw [h9]; exact goodIn_all hg hcw) (fun h9 => goodIn_all hg h9))
  have hfr : (p_rm K9 d).frames + 1 ≤ R.frames := hRf
  have hlo : 8 + (q.maxL + 11) + (p_rm K9 d).locals ≤ R.locals := hRl k q hq
  have hsig : ∀ sig, parseMethodDescriptor q.y.desc = some sig → q.np = sig.parameters.length := fun sig h9 => by rw [h9] at hdesc; exact (Option.some.inj hdesc).symm
  have hst : st.map (rv ρ) = (st.take n).map (rv ρ) ++ (st.drop n).map (rv ρ) := by rw [← List.map_append, List.take_append_drop]
  have hcat' : (((st.drop n).map (rv ρ)).map fun v => v.category).sum ≤ 8 := by
    rw [List.map_map, show (fun v : Value => v.category) ∘ rv ρ = fun v => v.category from funext fun v => rv_cat ρ v]; exact hcat
  have hrun : vx_Run p l e R s m args below meth c H locs cells slots 0 0 (F0 m pc ls (st.map (rv ρ))) ((st.drop n).map (rv ρ)) (p_Qc cl Sh ρ cA D H.size Q0 ((st.take n).reverse.map (rv ρ)).toArray) (p_XC cl Sh XN ρ cA D H.size Q0) (p_A ρ Sh.length H.size) := by
    cases st9 with
    | true =>
      obtain ⟨hrc, hn, hstat⟩ := hkind
      subst hins
      have hlen : ((st.take n).reverse.map (rv ρ)).length = q.np := by
        have h2 := hin.2
        rw [hrc] at h2
        rw [List.length_map]; exact h2
      by_cases hh : q.hh = []
      · rw [cw_code hh] at hM hws hcw
        exact vx_runS S hM ⟨⟨rfl, rfl, hfr, hlo, hws, List.mem_cons_self, S.2.2.2.2 _ hcw, S.2.2.2.2 _ hini, hy, hsig, S.2.2.2.2 _ hlk⟩, S.2.2.2.2 _ hstat⟩ ⟨hb0, hPc⟩ rfl hlen hL.2.1 (by show st.map (rv ρ) = _; rw [hst, ← List.map_reverse, List.reverse_reverse]) (lv_room hcat') hd ⟨hRc, hRs⟩
      · rw [cw_with hh] at hM hws hcw
        exact vx_runSX S hM ⟨⟨rfl, rfl, hfr, hlo, hws, List.mem_cons_self⟩, S.2.2.2.2 _ hcw, S.2.2.2.2 _ hini, hy, hsig, S.2.2.2.2 _ hlk, S.2.2.2.2 _ hstat⟩ ⟨hb0, hPc⟩ rfl hlen hL.2.1 (by show st.map (rv ρ) = _; rw [hst, ← List.map_reverse, List.reverse_reverse]) (lv_room hcat') hd ⟨hRc, hRs⟩
    | false =>
      obtain ⟨hn, hinst, hsel, ci, T, N, hrc, hcl⟩ := hkind
      subst hins
      have h2 := hin.2
      rw [hrc] at h2
      obtain ⟨hlen, b, r, fs, has, hfs⟩ := h2
      have hrecv := va_recv hK hP hcl (p_w_get hfs)
      have hlen' : (r.map (rv ρ)).length = q.np := by rw [List.length_map]; rw [has] at hlen; simpa using hlen
      have hstk : st.map (rv ρ) = (r.map (rv ρ)).reverse ++ .ref (ρ b) :: (st.drop n).map (rv ρ) := by
        have h9 : st.take n = (.ref b :: r).reverse := by rw [← has, List.reverse_reverse]
        rw [hst, h9]
        simp [rv]
      have hPc' : ∀ U : State, U.heap = H → s.WarmedH U.vm → p_Pc cl Sh ρ cA D tys H.size (st.take n).reverse M (Value.ref (ρ b) :: r.map (rv ρ)).toArray U := fun U hU hW => by have h9 := hPc U hU hW; rw [has] at h9 ⊢; exact h9
      have e9 : ((st.take n).reverse.map (rv ρ)).toArray = (Value.ref (ρ b) :: r.map (rv ρ)).toArray := by rw [has]; rfl
      rw [e9]
      by_cases hh : q.hh = []
      · rw [cw_code hh] at hM hws hcw
        exact vx_runV S hM ⟨⟨rfl, rfl, hfr, hlo, hws, List.mem_cons_self, S.2.2.2.2 _ hcw, S.2.2.2.2 _ hini, hy, hsig, S.2.2.2.2 _ hlk⟩, S.2.2.2.2 _ hinst, S.2.2.2.2 _ hsel⟩ ⟨hb0, hrecv, hPc'⟩ rfl hlen' hL.2.1 hstk (lv_room hcat') hd ⟨hRc, hRs⟩
      · rw [cw_with hh] at hM hws hcw
        exact vx_runVX S hM ⟨⟨rfl, rfl, hfr, hlo, hws, List.mem_cons_self⟩, S.2.2.2.2 _ hcw, S.2.2.2.2 _ hini, hy, hsig, S.2.2.2.2 _ hlk, S.2.2.2.2 _ hinst, S.2.2.2.2 _ hsel⟩ ⟨hb0, hrecv, hPc'⟩ rfl hlen' hL.2.1 hstk (lv_room hcat') hd ⟨hRc, hRs⟩
  have hA1 : ∀ q, q < H.size → p_A ρ Sh.length H.size q → A q := fun q9 _ h9 => p_A_in hD (fun z hz => hAn z (Nat.le_trans hS.1 hz)) q9 h9
  have hA2 : ∀ q, p_A ρ Sh.length H.size q → A q := fun q9 h9 => p_A_in hD (fun z hz => hAn z (Nat.le_trans hS.1 hz)) q9 h9
  intro T hT X
  rcases hrun T hT X with ⟨v, st₀, t, T', L9, h0, X', hL9, e1, e2, ⟨⟨v', M', hv, hq0, hP'⟩, hF⟩, hgo⟩ | ⟨q9, st₀, t, T', L9, E9, ce, h0, X', hL9, e1, e2, ⟨hE9, ⟨M', hq0, hP'⟩, hF⟩, hce, hcv, hcl9, hgo⟩
  · cases hv
    obtain ⟨k1, k2, k3⟩ := vx_keep h0 e1 hS hA1 hA2 hL9 hF
    obtain ⟨t2, a1, b1⟩ := kr v' M' hq0 T'.heap (locs ++ L9) ls hL (by rw [e1]; exact hP') (p_w_D hD) k3 T' rfl X'
    refine ⟨t2, hgo t2 ?_, b1⟩
    have e7 : (v'.map (rv ρ)).toList ++ (st.drop n).map (rv ρ) = (v'.toList ++ st.drop n).map (rv ρ) := by cases v' <;> simp
    rw [e7]
    exact a1
  · subst hE9
    obtain ⟨k1, k2, k3⟩ := vx_keep h0 e1 hS hA1 hA2 hL9 hF
    obtain ⟨t2, a1, b1⟩ := kx M' hq0 T'.heap (locs ++ L9) ls ((st.drop n).map (rv ρ)) q9 ce hL (by rw [e1]; exact hP') (p_w_D hD) k3 (by rw [e1]; exact hce) hcv hcl9 T' rfl X'
    exact ⟨t2, hgo.trans a1, b1⟩
end PCALL
end
section
/-! The induction over the depth of calls. -/
theorem lv_args_mem {ρ : Nat → Nat} : ∀ (vs : List Value) (i j : Nat) (v : Value), (p_ent vs)[j]? = some (some v) → (i + j, rv ρ v) ∈ lv_args i (vs.map (rv ρ))
  | [], _, _, _, h => by simp [p_ent] at h
  | w :: vs, i, j, v, h => by
    have key : ∀ (hc : w.category = 1), p_ent (w :: vs) = some w :: p_ent vs := fun hc => by cases w <;> first | rfl | simp [Value.category] at hc
    have key2 : ∀ (hc : w.category = 2), p_ent (w :: vs) = some w :: none :: p_ent vs := fun hc => by cases w <;> first | rfl | simp [Value.category] at hc
    show _ ∈ (i, rv ρ w) :: lv_args (if (rv ρ w).category = 2 then i + 2 else i + 1) (vs.map (rv ρ))
    rcases lv_cat w with hc | hc
    · rw [key hc] at h
      rw [rv_cat, if_neg (by omega)]
      cases j with
      | zero => cases h; exact List.mem_cons_self
      | succ j =>
        have := lv_args_mem (ρ := ρ) vs (i + 1) j v h
        rw [show i + (j + 1) = i + 1 + j by omega]
        exact List.mem_cons_of_mem _ this
    · rw [key2 hc] at h
      rw [rv_cat, if_pos hc]
      rcases j with _ | _ | j
      · cases h; exact List.mem_cons_self
      · cases h
      · have := lv_args_mem (ρ := ρ) vs (i + 2) j v h
        rw [show i + (j + 2) = i + 2 + j by omega]
        exact List.mem_cons_of_mem _ this
theorem p_ent_sl {ρ : Nat → Nat} : ∀ vs : List Value, (lg_sl (vs.map (rv ρ))).length = (p_ent vs).length
  | [] => rfl
  | w :: vs => by
    have ih := p_ent_sl (ρ := ρ) vs
    have e : lg_sl ((w :: vs).map (rv ρ)) = (if (rv ρ w).category = 2 then [.val (rv ρ w), .second] else [.val (rv ρ w)]) ++ lg_sl (vs.map (rv ρ)) := rfl
    rw [e, List.length_append, ih]
    cases w <;> simp [rv, Value.category, p_ent] <;> omega
theorem p_entry {ρ : Nat → Nat} {n : Nat} {vs : List Value} (h : (p_ent vs).length ≤ n) : p_Lr ρ n (p_ent0 n vs) ((lg_sl (vs.map (rv ρ)) ++ List.replicate (n - (lg_sl (vs.map (rv ρ))).length) Slot.unset).toArray) := by
  have h1 := lv_entry (vs.map (rv ρ)) (n := n) (by rw [p_ent_sl]; exact h)
  refine ⟨by simp [p_ent0]; omega, h1.1, h1.2.1, fun q hq => ?_⟩
  obtain ⟨j, w⟩ := q
  obtain ⟨v, hv, rfl⟩ := lvl_mem.mp hq
  refine h1.2.2 (j, rv ρ v) ?_
  have hv' : (p_ent vs)[j]? = some (some v) := by
    unfold p_ent0 at hv
    by_cases hj : j < (p_ent vs).length
    · rw [List.getElem?_append_left hj] at hv; exact hv
    · rw [List.getElem?_append_right (by omega), List.getElem?_replicate] at hv
      split at hv <;> cases hv
  have := lv_args_mem (ρ := ρ) vs 0 j v hv'
  rwa [Nat.zero_add] at this
section PTH
variable {p : Program} {l : Launch} {e : Env} {R : Room} {s : State} {m : MethodId} {args : Array Value} {below : List Frame} {meth : Method} {c : Code} {H0 : Heap} {cells slots mc ms : Nat} {D : va_G} {cl : List vw_C} {tys : List (ClassId × FieldType)} {A free : Nat → Prop} {ρ : Nat → Nat} {cA : Nat → ClassId} {Sh : List PSh} {cc : ByteArray} {nL : Nat} {own : String} {Ts : List Cond} {MT : Nat → Option PMeth} {XN : String} {K9 d : Nat} {Qc : Array Value → State → Outcome → State → Prop} {XC : String → State → State → Prop}
theorem p_throw {hh : List (Nat × Nat × Nat × Nat)} {hn : Nat → Option (Nat × Nat)} (S : CallFix p m c cc nL s args Ts own) (htab : c.exceptionTable.toList = tableOf hh) (hok : p_hok Ts own XN cc nL hh hn) (hlocks : meth.locks = false) (hmc : cells ≤ mc) (hms : slots ≤ ms) (hAf : ∀ q, A q → free q)
    {K : Nat → List (Option Value) → List Value → PM → Prop} {Qp : Option (Option Value) → PM → Prop}
    (hKK : ∀ pc L st M, K pc L st M → p_sm p l e R s m args below meth c H0 cells slots (vx_MQ below Qc XC args s mc ms free) D cl A ρ cA Sh nL pc L st M)
    (hX : ∀ (M : PM) (H : Heap) (locs : List Loc), Qp none M → va_P D cl (p_w ρ cA Sh M) H → va_D A (p_w ρ cA Sh M) → va_S A H0 H locs → ∀ t : State, t.heap = H → s.vm.Alike t.vm → XC XN s t)
    {pc : Nat} {L : List (Option Value)} {M : PM} (h : p_th hn pc L M K Qp) : p_sx p l e R s m args below meth c H0 cells slots (vx_MQ below Qc XC args s mc ms free) D cl A ρ cA Sh nL XN pc L M := by
  intro H locs ls rest q ce hL hP hD hS hce hcv hcl
  obtain ⟨hx, hb, hml, hown, hts⟩ := S
  unfold p_th at h
  split at h
  · rename_i p2 i hi
    obtain ⟨pre, x, suf, h1, h2, h3, h4, h5, h7, h8⟩ := hok.2 pc p2 i hi
    refine vx_catch hown pre x suf (htab.trans h1) h2 h3 h4 (hts _ h5) hce hcv hcl ?_
    rcases h8 with ⟨k, hk, hd, rfl⟩ | ⟨hd, rfl⟩
    · exact lv_astore_n hx hb hd hk hL.2 h7 rfl (fun ls' hl' => hKK _ _ _ _ h H locs ls' (hL.set1 h7 (fun w hw => by cases hw) hl') hP hD hS)
    · exact lv_astore hx hb hd hL.2 h7 rfl (fun ls' hl' => hKK _ _ _ _ h H locs ls' (hL.set1 h7 (fun w hw => by cases hw) hl') hP hD hS)
  · rename_i hi
    exact vx_out (fun x hx9 => hok.1 pc hi x (by rw [← htab]; exact hx9)) hlocks hce hcv hcl (fun t ht ha => hX M H locs h hP hD hS t ht ha) (fun z hz => hAf _ (hS.2.2 z hz)) hmc hms
/-- the walk of a body: from a point where the pure machine goes through, the real one does, up to where the pure code ends -/
theorem p_body {q : PMeth} {X9 : Nat → List (Option Value) → List Value → PM → Prop} (CT : p_CT l cl Ts MT Sh XN K9 d) (S : CallFix p m c q.bytes q.maxL s args Ts q.y.cls) (hg : ∀ w ∈ Ts, goodWord w = true) (hK : va_K D cl tys s) (hsh : p_shok cl tys cA Sh) (hAn : ∀ q, H0.size ≤ q → A q) (hRf : d + 1 ≤ R.frames) (hRl : ∀ k q, MT k = some q → 8 + (q.maxL + 11) + d * K9 ≤ R.locals) (hRc : cells ≤ R.cells) (hRs : slots ≤ R.slots) (hR21 : 21 ≤ R.locals)
    (hmok : p_mok cl Ts MT XN q) (htab : c.exceptionTable.toList = tableOf q.hh) (hlocks : meth.locks = false) (hret : meth.sig.returnType = q.ret) (hmc : cells ≤ mc) (hms : slots ≤ ms) (hAf : ∀ q, A q → free q)
    (hkind0 : ∀ (k : Nat) (fs : List (Nat ⊕ FieldType)), Sh[k]? = some (.inl (p_xc, fs)) → ∃ T N, cl[p_xc]? = some (XN, T, N))
    {Qp : Option (Option Value) → PM → Prop}
    (hX9 : ∀ pc L st M, X9 pc L st M → p_sm p l e R s m args below meth c H0 cells slots (vx_MQ below Qc XC args s mc ms free) D cl A ρ cA Sh q.maxL pc L st M)
    (hX : ∀ (M : PM) (H : Heap) (locs : List Loc), Qp none M → va_P D cl (p_w ρ cA Sh M) H → va_D A (p_w ρ cA Sh M) → va_S A H0 H locs → ∀ t : State, t.heap = H → s.vm.Alike t.vm → XC XN s t)
    (hQ : ∀ (v : Option Value) (M : PM) (H : Heap) (locs : List Loc), Qp (some v) M → va_P D cl (p_w ρ cA Sh M) H → va_D A (p_w ρ cA Sh M) → va_S A H0 H locs → ∀ t : State, t.heap = H → s.WarmedH t.vm → Qc args s (.returned (v.map (rv ρ))) t)
    {pc : Nat} {L : List (Option Value)} {st : List Value} {M : PM} (h : Ev (Sh, p_sem MT Sh d, q.hn, q.ret, q.code, X9) Qp pc L st M) :
    p_sm p l e R s m args below meth c H0 cells slots (vx_MQ below Qc XC args s mc ms free) D cl A ρ cA Sh q.maxL pc L st M := by
  refine h (p_sm p l e R s m args below meth c H0 cells slots (vx_MQ below Qc XC args s mc ms free) D cl A ρ cA Sh q.maxL) (fun pc L st M hs => ?_)
  unfold p_st at hs
  split at hs
  · exact hX9 _ _ _ _ hs
  · rename_i ins nx a0 b0 ts0 cv hcode
    obtain ⟨len, hd, hnx, hchk, hcv, hcs⟩ := hmok.2.2 pc ins nx a0 b0 ts0 cv hcode
    refine p_ex_snd (E := p_sem MT Sh d) (hn := q.hn) (XN := XN) S.1 S.2.1 S.2.2.2.1 S.2.2.2.2 hK hsh hlocks hret hmc hms hAf hd hnx hchk S.2.2.1 ⟨by omega, hR21, hRc, hRs⟩ (fun i hi h0 => by have h8 := hcs i hi; unfold p_csx at h8; rw [if_pos h0] at h8; exact h8) (fun i hi h0 => by have h8 := hcs i hi; unfold p_csx at h8; rw [if_neg (by omega), if_pos h0] at h8; exact h8) ?_ (fun _ _ _ _ h9 => h9) ?_ (fun L M h9 => p_throw S htab hmok.2.1 hlocks hmc hms hAf (fun _ _ _ _ h8 => h8) hX h9) hQ hs
    · intro k fs hfs
      obtain ⟨T, N, hcl⟩ := hkind0 k fs hfs
      refine ⟨T, N, hcl, fun H hP => ?_⟩
      obtain ⟨r, -, cell, hc1, hc2, hc3, -⟩ := hP k _ (p_w_get hfs)
      exact ⟨cell, hc1, hc3⟩
    · rintro k n L st M Q0 ⟨i, hi⟩ rfl rfl hcat hE kr kx
      rcases hi with rfl | ⟨rfl, n0, n1⟩
      · have hlen : len = 3 := hchk
        subst hlen
        exact p_call CT S hg hK hsh hAn hRf hRl hRc hRs (st9 := false) rfl hd (hcv i rfl) hcat hE kr kx
      · have hlen : len = 3 := hchk
        subst hlen
        exact p_call CT S hg hK hsh hAn hRf hRl hRc hRs (st9 := true) rfl hd (by have h8 := hcs i rfl; unfold p_csx at h8; rw [if_neg n0, if_neg n1] at h8; exact h8) hcat hE kr kx
end PTH
theorem p_ct {l : Launch} {cl : List vw_C} {Ts : List Cond} {MT : Nat → Option PMeth} {Sh : List PSh} {XN : String} {K9 : Nat} (hg : ∀ w ∈ Ts, goodWord w = true) (hmok : ∀ k q, MT k = some q → p_mok cl Ts MT XN q) (hK9 : ∀ k q, MT k = some q → q.maxL + 19 ≤ K9 ∧ 21 ≤ K9)
    (hkind0 : ∀ (k : Nat) (fs : List (Nat ⊕ FieldType)), Sh[k]? = some (.inl (p_xc, fs)) → ∃ T N, cl[p_xc]? = some (XN, T, N)) : ∀ d, p_CT l cl Ts MT Sh XN K9 d := by
  intro d
  induction d with
  | zero => intro k q hq ρ cA D tys sz as M Q0 hsh hE; exact hE.elim
  | succ d CT =>
    intro k q hq ρ cA D tys sz as M Q0 hsh hE
    obtain ⟨q', hq', hin, hev⟩ := hE
    cases Option.some.inj (hq.symm.trans hq')
    have hm := hmok k q hq
    have body : ∀ (p : Program) (e : Env) (s : State) (m : MethodId) (args : Array Value) (below : List Frame) (meth : Method) (c : Code) (s₁ : State), BodyLoose p l q.y (headSpec (q.cw :: Ts) (p_rm K9 (d + 1))) q.bytes q.maxL q.ret e s m args below meth c s₁ → c.maxLocals = q.maxL → c.exceptionTable.toList = tableOf q.hh → p_Pc cl Sh ρ cA D tys sz as M args s →
        W p l e (headSpec (q.cw :: Ts) (p_rm K9 (d + 1))).room s m args below meth c s.heap [] 0 0 (vx_MQ below (p_Qc cl Sh ρ cA D sz Q0) (p_XC cl Sh XN ρ cA D sz Q0) args s 0 0 (p_A ρ Sh.length sz)) (entryFrame m args q.maxL) := by
      intro p e s m args below meth c s₁ B hml htab hPc
      obtain ⟨rfl, hsz, hP, hK, hD⟩ := hPc
      subst hsz
      have hts0 := atoms_spec (ws := q.cw :: Ts) B.pre
      have hts : ∀ w ∈ Ts, w.before (as.map (rv ρ)).toArray s = true := fun w hw => hts0 w (List.mem_cons_of_mem _ hw)
      have hown : s.vm.findClass q.y.cls = some m.cls := findClass_of_methodNamed B.named
      have hDA : va_D (p_A ρ Sh.length s.heap.size) (p_w ρ cA Sh M) := hD.weaken (fun k9 q9 hk9 _ => by
        obtain ⟨sh, hs, rfl⟩ := p_w_inv hk9
        exact Or.inl ⟨k9, (List.getElem?_eq_some_iff.mp hs).1, rfl⟩)
      rw [lg_entry_eq]
      refine p_body (d := d) (H0 := s.heap) (A := p_A ρ Sh.length s.heap.size) (X9 := fun _ _ _ _ => False) CT ⟨B.exec, B.bytes, hml, hown, hts⟩ hg hK hsh (fun q9 h9 => Or.inr h9) (Nat.le_refl _) (fun k9 q9 h9 => ?_) (Nat.zero_le _) (Nat.zero_le _) (by show 21 ≤ (d + 1) * K9; have := (hK9 k q hq).2; rw [Nat.succ_mul]; omega) hm htab B.notSynchronized B.returns (Nat.le_refl 0) (Nat.le_refl 0) (fun _ h9 => h9) hkind0 (Qp := Q0) (fun _ _ _ _ h9 => h9.elim) ?_ ?_ hev s.heap [] _ (p_entry hin.1) hP hDA va_S.rf
      · show 8 + (q9.maxL + 11) + d * K9 ≤ (d + 1) * K9
        have := (hK9 k9 q9 h9).1
        rw [Nat.succ_mul]; omega
      · intro M' H locs hq0 hP' hD' hS' t ht ha
        exact ⟨rfl, ⟨M', hq0, by rw [ht]; exact hP'⟩, hS'.F ht⟩
      · intro v M' H locs hq0 hP' hD' hS' t ht hW
        exact ⟨⟨v, M', rfl, hq0, by rw [ht]; exact hP'⟩, hS'.F ht⟩
    by_cases hh : q.hh = []
    · have e1 := cw_code hh
      rw [e1] at body ⊢
      exact vx_ofW hm.1 rfl (fun p e s m args below meth c s₁ B hml hno hPc => body p e s m args below meth c s₁ B hml (by
        rw [hh]
        exact List.eq_nil_iff_forall_not_mem.mpr (fun x hx => hno x hx)) hPc)
    · have e1 := cw_with hh
      rw [e1] at body ⊢
      exact vx_ofWH hm.1 rfl (fun p e s m args below meth c s₁ B hml hPc => body p e s m args below meth c s₁ B hml (vx_table (x := q.y) B (atoms_spec (ws := _) B.pre _ List.mem_cons_self)) hPc)
end
section
/-! A method's code checked by program. -/
/-- what a call asks of the called method -/
def p_cal (cl : List vw_C) (Ts : List Cond) (MT : Nat → Option PMeth) (st : Bool) (k n : Nat) (y : MethodName) : Prop := ∃ q, MT k = some q ∧ q.y = y ∧ Cond.initialized q.y.cls ∈ Ts ∧ q.cw ∈ Ts ∧ (q.y.cls ≠ "java/lang/invoke/MethodHandle" ∧ q.y.cls ≠ "java/lang/invoke/VarHandle") ∧ (parseMethodDescriptor q.y.desc).map (fun d => d.parameters.length) = some q.np ∧
  match st with
  | true => q.rc = none ∧ n = q.np ∧ Cond.static q.y ∈ Ts
  | false => n = q.np + 1 ∧ Cond.instanceMethod q.y ∈ Ts ∧ Cond.selects q.y.cls q.y q.y ∈ Ts ∧ ∃ ci T N, q.rc = some ci ∧ cl[ci]? = some (q.y.cls, T, N)
theorem p_cal.ok {cl : List vw_C} {Ts : List Cond} {MT : Nat → Option PMeth} {st : Bool} {k n : Nat} {y : MethodName} (h : p_cal cl Ts MT st k n y) {own : String} {idx : Nat} (hl : Cond.methodLink own idx y ∈ Ts) : p_cok cl Ts MT own st idx k n := by
  obtain ⟨q, h1, rfl, h2, h3, h4, h5, h6⟩ := h
  exact ⟨q, h1, hl, h2, h3, h4, h5, h6⟩
/-- a call's entry, virtual or static -/
def p_cx (cl : List vw_C) (Ts : List Cond) (MT : Nat → Option PMeth) (own : String) (st : Bool) (i k n : Nat) : Prop := match st with
  | true => p_csx cl Ts MT own i k n
  | false => p_cok cl Ts MT own false i k n
theorem p_cal.okS {cl : List vw_C} {Ts : List Cond} {MT : Nat → Option PMeth} {k n : Nat} {y : MethodName} (h : p_cal cl Ts MT true k n y) (h0 : n ≠ 1000) (h1 : n ≠ 1001) {own : String} {idx : Nat} (hl : Cond.methodLink own idx y ∈ Ts) : p_cx cl Ts MT own true idx k n := by
  show p_csx cl Ts MT own idx k n
  unfold p_csx
  rw [if_neg h0, if_neg h1]
  exact h.ok hl
def p_ckI (F : List (Nat × Nat × Nat)) (Ml : List (Bool × Nat × Nat × Nat)) (Kc : List (Nat × Int64)) (nL pc : Nat) (ins : Instr) (len : Nat) (a0 b0 : Nat) (ts0 : List Nat) (cv : Value) : Bool := match ins with
  | .iconst n => len == 1 && decide (cv = .int (Int32.ofInt n))
  | .bipush n => len == 2 && decide (cv = .int (Int8.ofInt n).toInt32)
  | .sipush n => len == 3 && decide (cv = .int (Int16.ofInt n).toInt32)
  | .lconst n => len == 1 && decide (cv = .long (Int64.ofNat (n : Nat)))
  | .ldc _ => false
  | .ldc2_w i => len == 3 && (match cv with
    | .long v => decide ((i, v) ∈ Kc)
    | _ => false)
  | .iload_n k => len == 1 && (k : Nat) == a0
  | .lload_n k => len == 1 && (k : Nat) == a0
  | .aload_n k => len == 1 && (k : Nat) == a0
  | .iload k => len == 2 && k == a0
  | .lload k => len == 2 && k == a0
  | .aload k => len == 2 && k == a0
  | .istore_n k => len == 1 && ((k : Nat) == a0 && decide (a0 < nL))
  | .astore_n k => len == 1 && ((k : Nat) == a0 && decide (a0 < nL))
  | .lstore_n k => len == 1 && ((k : Nat) == a0 && decide (a0 + 1 < nL))
  | .istore k => len == 2 && (k == a0 && decide (a0 < nL))
  | .astore k => len == 2 && (k == a0 && decide (a0 < nL))
  | .lstore k => len == 2 && (k == a0 && decide (a0 + 1 < nL))
  | .iinc k n => len == 3 && (k == a0 && (decide (a0 < nL) && decide (cv = .int (Int32.ofInt n))))
  | .ifCond _ off => len == 3 && decide ((pc : Int) + off = (a0 : Int))
  | .if_icmp _ off => len == 3 && decide ((pc : Int) + off = (a0 : Int))
  | .goto off => len == 3 && decide ((pc : Int) + off = (a0 : Int))
  | .tableswitch d lo hi offs => decide ((pc : Int) + d = (a0 : Int)) && (decide (-2147483648 ≤ lo) && (decide (hi ≤ 2147483647) && (decide (hi = lo + ts0.length - 1) && decide (offs.toList.map (fun o => (pc : Int) + o) = ts0.map (fun t : Nat => (t : Int))))))
  | .getfield i => len == 3 && decide ((i, a0, b0) ∈ F)
  | .putfield i => len == 3 && decide ((i, a0, b0) ∈ F)
  | .invokevirtual i => len == 3 && decide ((false, i, a0, b0) ∈ Ml)
  | .invokestatic i => len == 3 && decide ((true, i, a0, b0) ∈ Ml)
  | _ => len == 1
def p_ckB (F : List (Nat × Nat × Nat)) (Ml : List (Bool × Nat × Nat × Nat)) (Kc : List (Nat × Int64)) (nL : Nat) (bytes : ByteArray) (pc : Nat) (o : Option PI) : Bool := match o with
  | none => true
  | some (ins, nx, a0, b0, ts0, cv) => decide (decode bytes pc = .ok (ins, nx - pc)) && (decide (pc ≤ nx) && p_ckI F Ml Kc nL pc ins (nx - pc) a0 b0 ts0 cv)
set_option maxHeartbeats 4000000 in
theorem p_ckI_ok {cl : List vw_C} {Ts : List Cond} {MT : Nat → Option PMeth} {own : String} {F : List (Nat × Nat × Nat)} {Ml : List (Bool × Nat × Nat × Nat)} {Kc : List (Nat × Int64)} {nL pc : Nat} {ins : Instr} {len : Nat} {a0 b0 : Nat} {ts0 : List Nat} {cv : Value}
    (hF : ∀ t ∈ F, p_fok cl Ts own t.1 t.2.1 t.2.2) (hM : ∀ t ∈ Ml, p_cx cl Ts MT own t.1 t.2.1 t.2.2.1 t.2.2.2) (hC : ∀ t ∈ Kc, Cond.constantLong own t.1 t.2 ∈ Ts) (h : p_ckI F Ml Kc nL pc ins len a0 b0 ts0 cv = true) :
    p_chk cl Ts own nL pc ins len a0 b0 ts0 cv ∧ (∀ i, ins = .invokevirtual i → p_cok cl Ts MT own false i (a0) (b0)) ∧ (∀ i, ins = .invokestatic i → p_csx cl Ts MT own i (a0) (b0)) := by
  cases ins
  case ldc => exact Bool.noConfusion h
  case ldc2_w i =>
    simp only [p_ckI, Bool.and_eq_true, beq_iff_eq] at h
    obtain ⟨h1, h2⟩ := h
    cases cv <;> first | exact Bool.noConfusion h2 | skip
    exact ⟨⟨h1, _, rfl, hC _ (of_decide_eq_true h2)⟩, fun _ h9 => Instr.noConfusion h9, fun _ h9 => Instr.noConfusion h9⟩
  case getfield i =>
    simp only [p_ckI, Bool.and_eq_true, beq_iff_eq, decide_eq_true_eq] at h
    exact ⟨⟨h.1, hF _ h.2⟩, fun _ h9 => Instr.noConfusion h9, fun _ h9 => Instr.noConfusion h9⟩
  case putfield i =>
    simp only [p_ckI, Bool.and_eq_true, beq_iff_eq, decide_eq_true_eq] at h
    exact ⟨⟨h.1, hF _ h.2⟩, fun _ h9 => Instr.noConfusion h9, fun _ h9 => Instr.noConfusion h9⟩
  case invokevirtual i =>
    simp only [p_ckI, Bool.and_eq_true, beq_iff_eq, decide_eq_true_eq] at h
    exact ⟨h.1, fun _ h9 => by cases h9; exact hM _ h.2, fun _ h9 => Instr.noConfusion h9⟩
  case invokestatic i =>
    simp only [p_ckI, Bool.and_eq_true, beq_iff_eq, decide_eq_true_eq] at h
    exact ⟨h.1, fun _ h9 => Instr.noConfusion h9, fun _ h9 => by cases h9; exact hM _ h.2⟩
  all_goals (simp only [p_ckI, Bool.and_eq_true, beq_iff_eq, decide_eq_true_eq] at h; exact ⟨h, fun _ h9 => Instr.noConfusion h9, fun _ h9 => Instr.noConfusion h9⟩)
/-- a code's table: nothing from N on, below it all is checked -/
theorem p_ck_ok {cl : List vw_C} {Ts : List Cond} {MT : Nat → Option PMeth} {XN : String} {F : List (Nat × Nat × Nat)} {Ml : List (Bool × Nat × Nat × Nat)} {Kc : List (Nat × Int64)} {q : PMeth} (N : Nat) (hpl : plainName q.y.cls = true) (hh : p_hok Ts q.y.cls XN q.bytes q.maxL q.hh q.hn)
    (hF : ∀ t ∈ F, p_fok cl Ts q.y.cls t.1 t.2.1 t.2.2) (hM : ∀ t ∈ Ml, p_cx cl Ts MT q.y.cls t.1 t.2.1 t.2.2.1 t.2.2.2) (hC : ∀ t ∈ Kc, Cond.constantLong q.y.cls t.1 t.2 ∈ Ts)
    (hN : ∀ pc, ¬ pc < N → q.code pc = none) (h : ∀ pc, pc < N → p_ckB F Ml Kc q.maxL q.bytes pc (q.code pc) = true) : p_mok cl Ts MT XN q := by
  refine ⟨hpl, hh, fun pc ins nx a0 b0 ts0 cv hc => ?_⟩
  have hlt : pc < N := Decidable.byContradiction fun h9 => by rw [hN pc h9] at hc; cases hc
  have h1 := h pc hlt
  rw [hc] at h1
  simp only [p_ckB, Bool.and_eq_true, decide_eq_true_eq] at h1
  obtain ⟨h2, h3, h4⟩ := h1
  obtain ⟨k1, k2, k3⟩ := p_ckI_ok hF hM hC h4
  exact ⟨nx - pc, h2, by omega, k1, k2, k3⟩
theorem p_hok_nil {Ts : List Cond} {own XN : String} {bytes : ByteArray} {nL : Nat} : p_hok Ts own XN bytes nL [] (fun _ => none) :=
  ⟨fun _ _ x hx => (List.not_mem_nil hx).elim, fun _ _ _ h => by cases h⟩
def TS : List Cond := lw_tbl.filter goodWord
theorem TS_good : ∀ w ∈ TS, goodWord w = true := fun w h => (List.mem_filter.mp h).2
theorem mT {w : Cond} (i : Nat) (h : lw_tbl[i]? = some w) (hg : goodWord w = true) : w ∈ TS := List.mem_filter.mpr ⟨List.mem_of_getElem? h, hg⟩
end
section
/-! names and fields, as printed for this claim -/
def RX0 : String := "ConsYard$Bytes"
def TX0 : u_T := fun k => match k with
  | 0 => ("ConsYard$Bytes", "bytes", "[B", true)
  | _ => ("ConsYard$Bytes", "size", "I", false)
def tyX0 : Nat → FieldType := fun k => match k with
  | 0 => .array .byte
  | _ => .int
abbrev wsX00 : List Cond := u_ws RX0 TX0 2
theorem nmX0 : ∀ a, a < 2 → ∀ b, b < 2 → a ≠ b → (TX0 a).2.1 ≠ (TX0 b).2.1 := by decide +kernel
theorem tyX0_ok : ∀ k, k < 2 → parseFieldDescriptor (TX0 k).2.2.1 = some (tyX0 k) := by decide +kernel
abbrev cX0_init : ByteArray := prog_2_method_1_code
def yX0_init : MethodName := ⟨RX0, "<init>", "()V"⟩
abbrev cX0_size : ByteArray := prog_2_method_2_code
def yX0_size : MethodName := ⟨RX0, "size", "()I"⟩
abbrev cX0_at : ByteArray := prog_2_method_3_code
def yX0_at : MethodName := ⟨RX0, "at", "(I)I"⟩
abbrev cX0_add : ByteArray := prog_2_method_4_code
def yX0_add : MethodName := ⟨RX0, "add", "(I)V"⟩
abbrev cX0_addNumber : ByteArray := prog_2_method_5_code
def yX0_addNumber : MethodName := ⟨RX0, "addNumber", "(I)V"⟩
abbrev cX0_clear : ByteArray := prog_2_method_6_code
def yX0_clear : MethodName := ⟨RX0, "clear", "()V"⟩
def RX1 : String := "ConsYard$Cells"
def TX1 : u_T := fun k => match k with
  | 0 => ("ConsYard$Cells", "roots", "LConsYard$Roots;", true)
  | 1 => ("ConsYard$Cells", "rows", "[LConsYard$Row;", true)
  | 2 => ("ConsYard$Cells", "heads", "[J", true)
  | 3 => ("ConsYard$Cells", "tails", "[J", true)
  | 4 => ("ConsYard$Cells", "reached", "[Z", true)
  | 5 => ("ConsYard$Cells", "free", "[I", true)
  | 6 => ("ConsYard$Cells", "ahead", "[J", true)
  | 7 => ("ConsYard$Cells", "freeCount", "I", false)
  | 8 => ("ConsYard$Cells", "limit", "I", false)
  | _ => ("ConsYard$Cells", "made", "I", false)
def tyX1 : Nat → FieldType := fun k => match k with
  | 0 => .object "ConsYard$Roots"
  | 1 => .array (.object "ConsYard$Row")
  | 2 => .array .long
  | 3 => .array .long
  | 4 => .array .boolean
  | 5 => .array .int
  | 6 => .array .long
  | 7 => .int
  | 8 => .int
  | _ => .int
abbrev wsX10 : List Cond := u_ws RX1 TX1 10
theorem nmX1 : ∀ a, a < 10 → ∀ b, b < 10 → a ≠ b → (TX1 a).2.1 ≠ (TX1 b).2.1 := by decide +kernel
theorem tyX1_ok : ∀ k, k < 10 → parseFieldDescriptor (TX1 k).2.2.1 = some (tyX1 k) := by decide +kernel
abbrev cX1_init : ByteArray := prog_3_method_1_code
def yX1_init : MethodName := ⟨RX1, "<init>", "(LConsYard$Roots;)V"⟩
abbrev cX1_made : ByteArray := prog_3_method_2_code
def yX1_made : MethodName := ⟨RX1, "made", "()I"⟩
abbrev cX1_limit : ByteArray := prog_3_method_3_code
def yX1_limit : MethodName := ⟨RX1, "limit", "()I"⟩
abbrev cX1_setLimit : ByteArray := prog_3_method_4_code
def yX1_setLimit : MethodName := ⟨RX1, "setLimit", "(I)V"⟩
abbrev cX1_head : ByteArray := prog_3_method_5_code
def yX1_head : MethodName := ⟨RX1, "head", "(J)J"⟩
abbrev cX1_tail : ByteArray := prog_3_method_6_code
def yX1_tail : MethodName := ⟨RX1, "tail", "(J)J"⟩
abbrev cX1_make : ByteArray := prog_3_method_7_code
def yX1_make : MethodName := ⟨RX1, "make", "(JJ)J"⟩
abbrev cX1_reachedByFunctions : ByteArray := prog_3_method_8_code
def yX1_reachedByFunctions : MethodName := ⟨RX1, "reachedByFunctions", "()I"⟩
abbrev cX1_inUse : ByteArray := prog_3_method_9_code
def yX1_inUse : MethodName := ⟨RX1, "inUse", "()I"⟩
abbrev cX1_collect : ByteArray := prog_3_method_10_code
def yX1_collect : MethodName := ⟨RX1, "collect", "(JJ)V"⟩
abbrev cX1_reach : ByteArray := prog_3_method_11_code
def yX1_reach : MethodName := ⟨RX1, "reach", "(J)V"⟩
abbrev cX1_takeBack : ByteArray := prog_3_method_12_code
def yX1_takeBack : MethodName := ⟨RX1, "takeBack", "()V"⟩
def RX2 : String := "ConsYard$Machine"
def TX2 : u_T := fun k => match k with
  | 0 => ("ConsYard$Machine", "cells", "LConsYard$Cells;", true)
  | 1 => ("ConsYard$Machine", "roots", "LConsYard$Roots;", true)
  | 2 => ("ConsYard$Machine", "hand", "LConsYard$Row;", true)
  | 3 => ("ConsYard$Machine", "stack", "LConsYard$Row;", true)
  | 4 => ("ConsYard$Machine", "variables", "LConsYard$Row;", true)
  | 5 => ("ConsYard$Machine", "bases", "[I", true)
  | 6 => ("ConsYard$Machine", "frames", "I", false)
  | 7 => ("ConsYard$Machine", "mostFrames", "I", false)
  | 8 => ("ConsYard$Machine", "fuelLeft", "I", false)
  | 9 => ("ConsYard$Machine", "fuelTaken", "I", false)
  | 10 => ("ConsYard$Machine", "fault", "I", false)
  | 11 => ("ConsYard$Machine", "next", "I", false)
  | _ => ("ConsYard$Machine", "value", "J", false)
def tyX2 : Nat → FieldType := fun k => match k with
  | 0 => .object "ConsYard$Cells"
  | 1 => .object "ConsYard$Roots"
  | 2 => .object "ConsYard$Row"
  | 3 => .object "ConsYard$Row"
  | 4 => .object "ConsYard$Row"
  | 5 => .array .int
  | 6 => .int
  | 7 => .int
  | 8 => .int
  | 9 => .int
  | 10 => .int
  | 11 => .int
  | _ => .long
abbrev wsX20 : List Cond := u_ws RX2 TX2 13
theorem nmX2 : ∀ a, a < 13 → ∀ b, b < 13 → a ≠ b → (TX2 a).2.1 ≠ (TX2 b).2.1 := by decide +kernel
theorem tyX2_ok : ∀ k, k < 13 → parseFieldDescriptor (TX2 k).2.2.1 = some (tyX2 k) := by decide +kernel
abbrev cX2_init : ByteArray := prog_4_method_1_code
def yX2_init : MethodName := ⟨RX2, "<init>", "(LConsYard$Cells;LConsYard$Roots;)V"⟩
abbrev cX2_fault : ByteArray := prog_4_method_2_code
def yX2_fault : MethodName := ⟨RX2, "fault", "()I"⟩
abbrev cX2_answer : ByteArray := prog_4_method_3_code
def yX2_answer : MethodName := ⟨RX2, "answer", "()J"⟩
abbrev cX2_fuelTaken : ByteArray := prog_4_method_4_code
def yX2_fuelTaken : MethodName := ⟨RX2, "fuelTaken", "()I"⟩
abbrev cX2_mostFrames : ByteArray := prog_4_method_5_code
def yX2_mostFrames : MethodName := ⟨RX2, "mostFrames", "()I"⟩
abbrev cX2_forget : ByteArray := prog_4_method_6_code
def yX2_forget : MethodName := ⟨RX2, "forget", "()V"⟩
abbrev cX2_run : ByteArray := prog_4_method_7_code
def yX2_run : MethodName := ⟨RX2, "run", "(JI)V"⟩
abbrev cX2_letGo : ByteArray := prog_4_method_8_code
def yX2_letGo : MethodName := ⟨RX2, "letGo", "()V"⟩
abbrev cX2_emptyHand : ByteArray := prog_4_method_9_code
def yX2_emptyHand : MethodName := ⟨RX2, "emptyHand", "()V"⟩
abbrev cX2_fail : ByteArray := prog_4_method_10_code
def yX2_fail : MethodName := ⟨RX2, "fail", "(I)V"⟩
abbrev cX2_burn : ByteArray := prog_4_method_11_code
def yX2_burn : MethodName := ⟨RX2, "burn", "()Z"⟩
abbrev cX2_give : ByteArray := prog_4_method_12_code
def yX2_give : MethodName := ⟨RX2, "give", "(J)V"⟩
abbrev cX2_evaluateNext : ByteArray := prog_4_method_13_code
def yX2_evaluateNext : MethodName := ⟨RX2, "evaluateNext", "(J)V"⟩
abbrev cX2_askHead : ByteArray := prog_4_method_14_code
def yX2_askHead : MethodName := ⟨RX2, "askHead", "(J)J"⟩
abbrev cX2_askTail : ByteArray := prog_4_method_15_code
def yX2_askTail : MethodName := ⟨RX2, "askTail", "(J)J"⟩
abbrev cX2_askSecond : ByteArray := prog_4_method_16_code
def yX2_askSecond : MethodName := ⟨RX2, "askSecond", "(J)J"⟩
abbrev cX2_askThird : ByteArray := prog_4_method_17_code
def yX2_askThird : MethodName := ⟨RX2, "askThird", "(J)J"⟩
abbrev cX2_cons : ByteArray := prog_4_method_18_code
def yX2_cons : MethodName := ⟨RX2, "cons", "(JJ)J"⟩
abbrev cX2_lookUp : ByteArray := prog_4_method_19_code
def yX2_lookUp : MethodName := ⟨RX2, "lookUp", "(J)J"⟩
abbrev cX2_evaluate : ByteArray := prog_4_method_20_code
def yX2_evaluate : MethodName := ⟨RX2, "evaluate", "()V"⟩
abbrev cX2_evaluateAtom : ByteArray := prog_4_method_21_code
def yX2_evaluateAtom : MethodName := ⟨RX2, "evaluateAtom", "(J)V"⟩
abbrev cX2_evaluateCond : ByteArray := prog_4_method_22_code
def yX2_evaluateCond : MethodName := ⟨RX2, "evaluateCond", "(J)V"⟩
abbrev cX2_evaluateFunction : ByteArray := prog_4_method_23_code
def yX2_evaluateFunction : MethodName := ⟨RX2, "evaluateFunction", "(J)V"⟩
abbrev cX2_evaluateCall : ByteArray := prog_4_method_24_code
def yX2_evaluateCall : MethodName := ⟨RX2, "evaluateCall", "(JJ)V"⟩
abbrev cX2_pushFrame : ByteArray := prog_4_method_25_code
def yX2_pushFrame : MethodName := ⟨RX2, "pushFrame", "(JJ)V"⟩
abbrev cX2_popFrame : ByteArray := prog_4_method_26_code
def yX2_popFrame : MethodName := ⟨RX2, "popFrame", "(I)V"⟩
abbrev cX2_takeValue : ByteArray := prog_4_method_27_code
def yX2_takeValue : MethodName := ⟨RX2, "takeValue", "()V"⟩
abbrev cX2_takeChoice : ByteArray := prog_4_method_28_code
def yX2_takeChoice : MethodName := ⟨RX2, "takeChoice", "(I)V"⟩
abbrev cX2_takeArgument : ByteArray := prog_4_method_29_code
def yX2_takeArgument : MethodName := ⟨RX2, "takeArgument", "(I)V"⟩
abbrev cX2_takeInHand : ByteArray := prog_4_method_30_code
def yX2_takeInHand : MethodName := ⟨RX2, "takeInHand", "(I)V"⟩
abbrev cX2_isBuiltIn : ByteArray := prog_4_method_31_code
def yX2_isBuiltIn : MethodName := ⟨RX2, "isBuiltIn", "(J)Z"⟩
abbrev cX2_apply : ByteArray := prog_4_method_32_code
def yX2_apply : MethodName := ⟨RX2, "apply", "()V"⟩
abbrev cX2_applySymbol : ByteArray := prog_4_method_33_code
def yX2_applySymbol : MethodName := ⟨RX2, "applySymbol", "(J)V"⟩
abbrev cX2_applyLambda : ByteArray := prog_4_method_34_code
def yX2_applyLambda : MethodName := ⟨RX2, "applyLambda", "(J)V"⟩
abbrev cX2_lookAtVariables : ByteArray := prog_4_method_35_code
def yX2_lookAtVariables : MethodName := ⟨RX2, "lookAtVariables", "(J)I"⟩
abbrev cX2_askVariable : ByteArray := prog_4_method_36_code
def yX2_askVariable : MethodName := ⟨RX2, "askVariable", "(J)V"⟩
abbrev cX2_applyLabel : ByteArray := prog_4_method_37_code
def yX2_applyLabel : MethodName := ⟨RX2, "applyLabel", "(J)V"⟩
abbrev cX2_applyFunarg : ByteArray := prog_4_method_38_code
def yX2_applyFunarg : MethodName := ⟨RX2, "applyFunarg", "(J)V"⟩
abbrev cX2_applyBuiltIn : ByteArray := prog_4_method_39_code
def yX2_applyBuiltIn : MethodName := ⟨RX2, "applyBuiltIn", "()V"⟩
abbrev cX2_valuesWanted : ByteArray := prog_4_method_40_code
def yX2_valuesWanted : MethodName := ⟨RX2, "valuesWanted", "(I)I"⟩
abbrev cX2_givePart : ByteArray := prog_4_method_41_code
def yX2_givePart : MethodName := ⟨RX2, "givePart", "(JZ)V"⟩
abbrev cX2_giveList : ByteArray := prog_4_method_42_code
def yX2_giveList : MethodName := ⟨RX2, "giveList", "()V"⟩
abbrev cX2_giveReckoned : ByteArray := prog_4_method_43_code
def yX2_giveReckoned : MethodName := ⟨RX2, "giveReckoned", "(IJJ)V"⟩
def RX3 : String := "ConsYard$Printer"
def TX3 : u_T := fun k => match k with
  | 0 => ("ConsYard$Printer", "page", "LConsYard$Bytes;", true)
  | 1 => ("ConsYard$Printer", "symbols", "LConsYard$Symbols;", true)
  | 2 => ("ConsYard$Printer", "cells", "LConsYard$Cells;", true)
  | _ => ("ConsYard$Printer", "rests", "LConsYard$Row;", true)
def tyX3 : Nat → FieldType := fun k => match k with
  | 0 => .object "ConsYard$Bytes"
  | 1 => .object "ConsYard$Symbols"
  | 2 => .object "ConsYard$Cells"
  | _ => .object "ConsYard$Row"
abbrev wsX30 : List Cond := u_ws RX3 TX3 4
theorem nmX3 : ∀ a, a < 4 → ∀ b, b < 4 → a ≠ b → (TX3 a).2.1 ≠ (TX3 b).2.1 := by decide +kernel
theorem tyX3_ok : ∀ k, k < 4 → parseFieldDescriptor (TX3 k).2.2.1 = some (tyX3 k) := by decide +kernel
abbrev cX3_init : ByteArray := prog_5_method_1_code
def yX3_init : MethodName := ⟨RX3, "<init>", "(LConsYard$Bytes;LConsYard$Symbols;LConsYard$Cells;)V"⟩
abbrev cX3_print : ByteArray := prog_5_method_2_code
def yX3_print : MethodName := ⟨RX3, "print", "(J)V"⟩
abbrev cX3_nextElement : ByteArray := prog_5_method_3_code
def yX3_nextElement : MethodName := ⟨RX3, "nextElement", "()J"⟩
abbrev cX3_closeList : ByteArray := prog_5_method_4_code
def yX3_closeList : MethodName := ⟨RX3, "closeList", "(J)V"⟩
abbrev cX3_printAtom : ByteArray := prog_5_method_5_code
def yX3_printAtom : MethodName := ⟨RX3, "printAtom", "(J)V"⟩
abbrev cX3_printNumber : ByteArray := prog_5_method_6_code
def yX3_printNumber : MethodName := ⟨RX3, "printNumber", "(I)V"⟩
def RX4 : String := "ConsYard$Reader"
def TX4 : u_T := fun k => match k with
  | 0 => ("ConsYard$Reader", "text", "LConsYard$Bytes;", true)
  | 1 => ("ConsYard$Reader", "symbols", "LConsYard$Symbols;", true)
  | 2 => ("ConsYard$Reader", "cells", "LConsYard$Cells;", true)
  | 3 => ("ConsYard$Reader", "pending", "LConsYard$Row;", true)
  | 4 => ("ConsYard$Reader", "openStates", "[I", true)
  | 5 => ("ConsYard$Reader", "openStarts", "[I", true)
  | 6 => ("ConsYard$Reader", "open", "I", false)
  | 7 => ("ConsYard$Reader", "at", "I", false)
  | 8 => ("ConsYard$Reader", "end", "I", false)
  | 9 => ("ConsYard$Reader", "fault", "I", false)
  | 10 => ("ConsYard$Reader", "faultPlace", "I", false)
  | 11 => ("ConsYard$Reader", "whole", "Z", false)
  | _ => ("ConsYard$Reader", "answer", "J", false)
def tyX4 : Nat → FieldType := fun k => match k with
  | 0 => .object "ConsYard$Bytes"
  | 1 => .object "ConsYard$Symbols"
  | 2 => .object "ConsYard$Cells"
  | 3 => .object "ConsYard$Row"
  | 4 => .array .int
  | 5 => .array .int
  | 6 => .int
  | 7 => .int
  | 8 => .int
  | 9 => .int
  | 10 => .int
  | 11 => .boolean
  | _ => .long
abbrev wsX40 : List Cond := u_ws RX4 TX4 13
theorem nmX4 : ∀ a, a < 13 → ∀ b, b < 13 → a ≠ b → (TX4 a).2.1 ≠ (TX4 b).2.1 := by decide +kernel
theorem tyX4_ok : ∀ k, k < 13 → parseFieldDescriptor (TX4 k).2.2.1 = some (tyX4 k) := by decide +kernel
abbrev cX4_init : ByteArray := prog_6_method_1_code
def yX4_init : MethodName := ⟨RX4, "<init>", "(LConsYard$Bytes;LConsYard$Symbols;LConsYard$Cells;LConsYard$Row;)V"⟩
abbrev cX4_fault : ByteArray := prog_6_method_2_code
def yX4_fault : MethodName := ⟨RX4, "fault", "()I"⟩
abbrev cX4_faultPlace : ByteArray := prog_6_method_3_code
def yX4_faultPlace : MethodName := ⟨RX4, "faultPlace", "()I"⟩
abbrev cX4_begin : ByteArray := prog_6_method_4_code
def yX4_begin : MethodName := ⟨RX4, "begin", "(I)V"⟩
abbrev cX4_readName : ByteArray := prog_6_method_5_code
def yX4_readName : MethodName := ⟨RX4, "readName", "()I"⟩
abbrev cX4_readWhole : ByteArray := prog_6_method_6_code
def yX4_readWhole : MethodName := ⟨RX4, "readWhole", "()J"⟩
abbrev cX4_fail : ByteArray := prog_6_method_7_code
def yX4_fail : MethodName := ⟨RX4, "fail", "(II)V"⟩
abbrev cX4_readToken : ByteArray := prog_6_method_8_code
def yX4_readToken : MethodName := ⟨RX4, "readToken", "()V"⟩
abbrev cX4_state : ByteArray := prog_6_method_9_code
def yX4_state : MethodName := ⟨RX4, "state", "()I"⟩
abbrev cX4_setState : ByteArray := prog_6_method_10_code
def yX4_setState : MethodName := ⟨RX4, "setState", "(I)V"⟩
abbrev cX4_mayBegin : ByteArray := prog_6_method_11_code
def yX4_mayBegin : MethodName := ⟨RX4, "mayBegin", "()Z"⟩
abbrev cX4_openOne : ByteArray := prog_6_method_12_code
def yX4_openOne : MethodName := ⟨RX4, "openOne", "(I)V"⟩
abbrev cX4_readDot : ByteArray := prog_6_method_13_code
def yX4_readDot : MethodName := ⟨RX4, "readDot", "()V"⟩
abbrev cX4_closeList : ByteArray := prog_6_method_14_code
def yX4_closeList : MethodName := ⟨RX4, "closeList", "()V"⟩
abbrev cX4_readAtom : ByteArray := prog_6_method_15_code
def yX4_readAtom : MethodName := ⟨RX4, "readAtom", "(I)V"⟩
abbrev cX4_readSymbol : ByteArray := prog_6_method_16_code
def yX4_readSymbol : MethodName := ⟨RX4, "readSymbol", "()I"⟩
abbrev cX4_readNumber : ByteArray := prog_6_method_17_code
def yX4_readNumber : MethodName := ⟨RX4, "readNumber", "()J"⟩
abbrev cX4_complete : ByteArray := prog_6_method_18_code
def yX4_complete : MethodName := ⟨RX4, "complete", "(JI)V"⟩
abbrev cX4_isBlank : ByteArray := prog_6_method_19_code
def yX4_isBlank : MethodName := ⟨RX4, "isBlank", "(I)Z"⟩
abbrev cX4_isLetter : ByteArray := prog_6_method_20_code
def yX4_isLetter : MethodName := ⟨RX4, "isLetter", "(I)Z"⟩
abbrev cX4_isDigit : ByteArray := prog_6_method_21_code
def yX4_isDigit : MethodName := ⟨RX4, "isDigit", "(I)Z"⟩
def RX5 : String := "ConsYard$Roots"
def TX5 : u_T := fun k => match k with
  | 0 => ("ConsYard$Roots", "functions", "LConsYard$Row;", true)
  | 1 => ("ConsYard$Roots", "pending", "LConsYard$Row;", true)
  | 2 => ("ConsYard$Roots", "hand", "LConsYard$Row;", true)
  | 3 => ("ConsYard$Roots", "stack", "LConsYard$Row;", true)
  | 4 => ("ConsYard$Roots", "x", "J", false)
  | 5 => ("ConsYard$Roots", "env", "J", false)
  | _ => ("ConsYard$Roots", "function", "J", false)
def tyX5 : Nat → FieldType := fun k => match k with
  | 0 => .object "ConsYard$Row"
  | 1 => .object "ConsYard$Row"
  | 2 => .object "ConsYard$Row"
  | 3 => .object "ConsYard$Row"
  | 4 => .long
  | 5 => .long
  | _ => .long
abbrev wsX50 : List Cond := u_ws RX5 TX5 7
theorem nmX5 : ∀ a, a < 7 → ∀ b, b < 7 → a ≠ b → (TX5 a).2.1 ≠ (TX5 b).2.1 := by decide +kernel
theorem tyX5_ok : ∀ k, k < 7 → parseFieldDescriptor (TX5 k).2.2.1 = some (tyX5 k) := by decide +kernel
abbrev cX5_init : ByteArray := prog_7_method_1_code
def yX5_init : MethodName := ⟨RX5, "<init>", "()V"⟩
def RX6 : String := "ConsYard$Row"
def TX6 : u_T := fun k => match k with
  | 0 => ("ConsYard$Row", "values", "[J", true)
  | _ => ("ConsYard$Row", "size", "I", false)
def tyX6 : Nat → FieldType := fun k => match k with
  | 0 => .array .long
  | _ => .int
abbrev wsX60 : List Cond := u_ws RX6 TX6 2
theorem nmX6 : ∀ a, a < 2 → ∀ b, b < 2 → a ≠ b → (TX6 a).2.1 ≠ (TX6 b).2.1 := by decide +kernel
theorem tyX6_ok : ∀ k, k < 2 → parseFieldDescriptor (TX6 k).2.2.1 = some (tyX6 k) := by decide +kernel
abbrev cX6_init : ByteArray := prog_8_method_1_code
def yX6_init : MethodName := ⟨RX6, "<init>", "(I)V"⟩
abbrev cX6_size : ByteArray := prog_8_method_2_code
def yX6_size : MethodName := ⟨RX6, "size", "()I"⟩
abbrev cX6_at : ByteArray := prog_8_method_3_code
def yX6_at : MethodName := ⟨RX6, "at", "(I)J"⟩
abbrev cX6_put : ByteArray := prog_8_method_4_code
def yX6_put : MethodName := ⟨RX6, "put", "(IJ)V"⟩
abbrev cX6_add : ByteArray := prog_8_method_5_code
def yX6_add : MethodName := ⟨RX6, "add", "(J)V"⟩
abbrev cX6_cut : ByteArray := prog_8_method_6_code
def yX6_cut : MethodName := ⟨RX6, "cut", "(I)V"⟩
abbrev cX6_present : ByteArray := prog_8_method_7_code
def yX6_present : MethodName := ⟨RX6, "present", "()I"⟩
def RX7 : String := "ConsYard$Symbols"
def TX7 : u_T := fun k => match k with
  | 0 => ("ConsYard$Symbols", "signs", "[B", true)
  | 1 => ("ConsYard$Symbols", "lengths", "[I", true)
  | _ => ("ConsYard$Symbols", "size", "I", false)
def tyX7 : Nat → FieldType := fun k => match k with
  | 0 => .array .byte
  | 1 => .array .int
  | _ => .int
abbrev wsX70 : List Cond := u_ws RX7 TX7 3
theorem nmX7 : ∀ a, a < 3 → ∀ b, b < 3 → a ≠ b → (TX7 a).2.1 ≠ (TX7 b).2.1 := by decide +kernel
theorem tyX7_ok : ∀ k, k < 3 → parseFieldDescriptor (TX7 k).2.2.1 = some (tyX7 k) := by decide +kernel
abbrev cX7_init : ByteArray := prog_9_method_1_code
def yX7_init : MethodName := ⟨RX7, "<init>", "()V"⟩
abbrev cX7_size : ByteArray := prog_9_method_2_code
def yX7_size : MethodName := ⟨RX7, "size", "()I"⟩
abbrev cX7_lengthOf : ByteArray := prog_9_method_3_code
def yX7_lengthOf : MethodName := ⟨RX7, "lengthOf", "(I)I"⟩
abbrev cX7_signOf : ByteArray := prog_9_method_4_code
def yX7_signOf : MethodName := ⟨RX7, "signOf", "(II)I"⟩
abbrev cX7_named : ByteArray := prog_9_method_5_code
def yX7_named : MethodName := ⟨RX7, "named", "(LConsYard$Bytes;II)I"⟩
abbrev cX7_isNamed : ByteArray := prog_9_method_6_code
def yX7_isNamed : MethodName := ⟨RX7, "isNamed", "(ILConsYard$Bytes;I)Z"⟩
abbrev cX7_addSign : ByteArray := prog_9_method_7_code
def yX7_addSign : MethodName := ⟨RX7, "addSign", "(I)V"⟩
def RX8 : String := "ConsYard$Value"
def TX8 : u_T := fun k => match k with
  | _ => ("", "", "", false)
def tyX8 : Nat → FieldType := fun k => match k with
  | _ => .int
abbrev wsX80 : List Cond := u_ws RX8 TX8 0
theorem nmX8 : ∀ a, a < 0 → ∀ b, b < 0 → a ≠ b → (TX8 a).2.1 ≠ (TX8 b).2.1 := by decide +kernel
theorem tyX8_ok : ∀ k, k < 0 → parseFieldDescriptor (TX8 k).2.2.1 = some (tyX8 k) := by decide +kernel
abbrev cX8_isSymbol : ByteArray := prog_10_method_2_code
def yX8_isSymbol : MethodName := ⟨RX8, "isSymbol", "(J)Z"⟩
abbrev cX8_isNumber : ByteArray := prog_10_method_3_code
def yX8_isNumber : MethodName := ⟨RX8, "isNumber", "(J)Z"⟩
abbrev cX8_isCell : ByteArray := prog_10_method_4_code
def yX8_isCell : MethodName := ⟨RX8, "isCell", "(J)Z"⟩
abbrev cX8_ofNumber : ByteArray := prog_10_method_5_code
def yX8_ofNumber : MethodName := ⟨RX8, "ofNumber", "(I)J"⟩
abbrev cX8_ofCell : ByteArray := prog_10_method_6_code
def yX8_ofCell : MethodName := ⟨RX8, "ofCell", "(I)J"⟩
abbrev cX8_ofTruth : ByteArray := prog_10_method_7_code
def yX8_ofTruth : MethodName := ⟨RX8, "ofTruth", "(Z)J"⟩
abbrev cX8_number : ByteArray := prog_10_method_8_code
def yX8_number : MethodName := ⟨RX8, "number", "(J)I"⟩
def RX9 : String := "ConsYard"
def TX9 : u_T := fun k => match k with
  | 0 => ("ConsYard", "tape", "LConsYard$Bytes;", true)
  | 1 => ("ConsYard", "page", "LConsYard$Bytes;", true)
  | 2 => ("ConsYard", "symbols", "LConsYard$Symbols;", true)
  | 3 => ("ConsYard", "functions", "LConsYard$Row;", true)
  | 4 => ("ConsYard", "cells", "LConsYard$Cells;", true)
  | 5 => ("ConsYard", "reader", "LConsYard$Reader;", true)
  | 6 => ("ConsYard", "machine", "LConsYard$Machine;", true)
  | _ => ("ConsYard", "printer", "LConsYard$Printer;", true)
def tyX9 : Nat → FieldType := fun k => match k with
  | 0 => .object "ConsYard$Bytes"
  | 1 => .object "ConsYard$Bytes"
  | 2 => .object "ConsYard$Symbols"
  | 3 => .object "ConsYard$Row"
  | 4 => .object "ConsYard$Cells"
  | 5 => .object "ConsYard$Reader"
  | 6 => .object "ConsYard$Machine"
  | _ => .object "ConsYard$Printer"
abbrev wsX90 : List Cond := u_ws RX9 TX9 8
theorem nmX9 : ∀ a, a < 8 → ∀ b, b < 8 → a ≠ b → (TX9 a).2.1 ≠ (TX9 b).2.1 := by decide +kernel
theorem tyX9_ok : ∀ k, k < 8 → parseFieldDescriptor (TX9 k).2.2.1 = some (tyX9 k) := by decide +kernel
abbrev cX9_init : ByteArray := prog_1_method_1_code
def yX9_init : MethodName := ⟨RX9, "<init>", "()V"⟩
abbrev cX9_feed : ByteArray := prog_1_method_2_code
def yX9_feed : MethodName := ⟨RX9, "feed", "(IIIII)I"⟩
abbrev cX9_define : ByteArray := prog_1_method_3_code
def yX9_define : MethodName := ⟨RX9, "define", "(I)I"⟩
abbrev cX9_eval : ByteArray := prog_1_method_4_code
def yX9_eval : MethodName := ⟨RX9, "eval", "(II)I"⟩
abbrev cX9_echo : ByteArray := prog_1_method_5_code
def yX9_echo : MethodName := ⟨RX9, "echo", "(I)I"⟩
abbrev cX9_place : ByteArray := prog_1_method_6_code
def yX9_place : MethodName := ⟨RX9, "place", "()I"⟩
abbrev cX9_room : ByteArray := prog_1_method_7_code
def yX9_room : MethodName := ⟨RX9, "room", "(I)I"⟩
abbrev cX9_count : ByteArray := prog_1_method_8_code
def yX9_count : MethodName := ⟨RX9, "count", "(I)I"⟩
abbrev cX9_function : ByteArray := prog_1_method_9_code
def yX9_function : MethodName := ⟨RX9, "function", "(I)I"⟩
abbrev cX9_octet : ByteArray := prog_1_method_10_code
def yX9_octet : MethodName := ⟨RX9, "octet", "(I)I"⟩
def RX10 : String := "ConsYardModel"
def TX10 : u_T := fun k => match k with
  | 0 => ("ConsYardModel", "thrown", "I", false)
  | 1 => ("ConsYardModel", "names", "[I", true)
  | 2 => ("ConsYardModel", "nameMany", "[I", true)
  | 3 => ("ConsYardModel", "isDefined", "[Z", true)
  | 4 => ("ConsYardModel", "function", "[J", true)
  | 5 => ("ConsYardModel", "symbols", "I", false)
  | 6 => ("ConsYardModel", "functions", "I", false)
  | 7 => ("ConsYardModel", "wrong", "Ljava/lang/IllegalStateException;", true)
  | 8 => ("ConsYardModel", "fault", "I", false)
  | 9 => ("ConsYardModel", "head", "[J", true)
  | 10 => ("ConsYardModel", "tail", "[J", true)
  | 11 => ("ConsYardModel", "taken", "[Z", true)
  | 12 => ("ConsYardModel", "walk", "[I", true)
  | 13 => ("ConsYardModel", "walkMany", "I", false)
  | 14 => ("ConsYardModel", "reached", "I", false)
  | 15 => ("ConsYardModel", "could", "I", false)
  | 16 => ("ConsYardModel", "cursor", "I", false)
  | 17 => ("ConsYardModel", "room", "I", false)
  | 18 => ("ConsYardModel", "made", "I", false)
  | 19 => ("ConsYardModel", "tape", "[B", true)
  | 20 => ("ConsYardModel", "taped", "I", false)
  | 21 => ("ConsYardModel", "size", "I", false)
  | 22 => ("ConsYardModel", "at", "I", false)
  | 23 => ("ConsYardModel", "place", "I", false)
  | 24 => ("ConsYardModel", "read", "[J", true)
  | 25 => ("ConsYardModel", "readMany", "I", false)
  | 26 => ("ConsYardModel", "openAt", "[I", true)
  | 27 => ("ConsYardModel", "openState", "[I", true)
  | 28 => ("ConsYardModel", "open", "I", false)
  | 29 => ("ConsYardModel", "x", "J", false)
  | 30 => ("ConsYardModel", "env", "J", false)
  | 31 => ("ConsYardModel", "f", "J", false)
  | 32 => ("ConsYardModel", "value", "J", false)
  | 33 => ("ConsYardModel", "values", "[J", true)
  | 34 => ("ConsYardModel", "many", "I", false)
  | 35 => ("ConsYardModel", "fCond", "[Z", true)
  | 36 => ("ConsYardModel", "fList", "[J", true)
  | 37 => ("ConsYardModel", "fEnv", "[J", true)
  | 38 => ("ConsYardModel", "fFun", "[J", true)
  | 39 => ("ConsYardModel", "fValues", "[J", true)
  | 40 => ("ConsYardModel", "fMany", "[I", true)
  | 41 => ("ConsYardModel", "frames", "I", false)
  | 42 => ("ConsYardModel", "most", "I", false)
  | 43 => ("ConsYardModel", "fuel", "I", false)
  | 44 => ("ConsYardModel", "took", "I", false)
  | 45 => ("ConsYardModel", "page", "[B", true)
  | 46 => ("ConsYardModel", "paged", "I", false)
  | _ => ("ConsYardModel", "rest", "[J", true)
def tyX10 : Nat → FieldType := fun k => match k with
  | 0 => .int
  | 1 => .array .int
  | 2 => .array .int
  | 3 => .array .boolean
  | 4 => .array .long
  | 5 => .int
  | 6 => .int
  | 7 => .object "java/lang/IllegalStateException"
  | 8 => .int
  | 9 => .array .long
  | 10 => .array .long
  | 11 => .array .boolean
  | 12 => .array .int
  | 13 => .int
  | 14 => .int
  | 15 => .int
  | 16 => .int
  | 17 => .int
  | 18 => .int
  | 19 => .array .byte
  | 20 => .int
  | 21 => .int
  | 22 => .int
  | 23 => .int
  | 24 => .array .long
  | 25 => .int
  | 26 => .array .int
  | 27 => .array .int
  | 28 => .int
  | 29 => .long
  | 30 => .long
  | 31 => .long
  | 32 => .long
  | 33 => .array .long
  | 34 => .int
  | 35 => .array .boolean
  | 36 => .array .long
  | 37 => .array .long
  | 38 => .array .long
  | 39 => .array .long
  | 40 => .array .int
  | 41 => .int
  | 42 => .int
  | 43 => .int
  | 44 => .int
  | 45 => .array .byte
  | 46 => .int
  | _ => .array .long
abbrev wsX100 : List Cond := u_ws RX10 TX10 48
theorem nmX10 : ∀ a, a < 48 → ∀ b, b < 48 → a ≠ b → (TX10 a).2.1 ≠ (TX10 b).2.1 := by decide +kernel
theorem tyX10_ok : ∀ k, k < 48 → parseFieldDescriptor (TX10 k).2.2.1 = some (tyX10 k) := by decide +kernel
abbrev cX10_init : ByteArray := prog_12_method_1_code
def yX10_init : MethodName := ⟨RX10, "<init>", "()V"⟩
abbrev cX10_thrown : ByteArray := prog_12_method_2_code
def yX10_thrown : MethodName := ⟨RX10, "thrown", "()I"⟩
abbrev cX10_isSymbol : ByteArray := prog_12_method_3_code
def yX10_isSymbol : MethodName := ⟨RX10, "isSymbol", "(J)Z"⟩
abbrev cX10_isNumber : ByteArray := prog_12_method_4_code
def yX10_isNumber : MethodName := ⟨RX10, "isNumber", "(J)Z"⟩
abbrev cX10_isCell : ByteArray := prog_12_method_5_code
def yX10_isCell : MethodName := ⟨RX10, "isCell", "(J)Z"⟩
abbrev cX10_symbolOf : ByteArray := prog_12_method_6_code
def yX10_symbolOf : MethodName := ⟨RX10, "symbolOf", "(J)I"⟩
abbrev cX10_fails : ByteArray := prog_12_method_7_code
def yX10_fails : MethodName := ⟨RX10, "fails", "(I)Ljava/lang/IllegalStateException;"⟩
abbrev cX10_visit : ByteArray := prog_12_method_8_code
def yX10_visit : MethodName := ⟨RX10, "visit", "(J)V"⟩
abbrev cX10_walks : ByteArray := prog_12_method_9_code
def yX10_walks : MethodName := ⟨RX10, "walks", "()V"⟩
abbrev cX10_reachFunctions : ByteArray := prog_12_method_10_code
def yX10_reachFunctions : MethodName := ⟨RX10, "reachFunctions", "()V"⟩
abbrev cX10_reach : ByteArray := prog_12_method_11_code
def yX10_reach : MethodName := ⟨RX10, "reach", "(JJJ)V"⟩
abbrev cX10_cons : ByteArray := prog_12_method_12_code
def yX10_cons : MethodName := ⟨RX10, "cons", "(JJJ)J"⟩
abbrev cX10_headOf : ByteArray := prog_12_method_13_code
def yX10_headOf : MethodName := ⟨RX10, "headOf", "(J)J"⟩
abbrev cX10_tailOf : ByteArray := prog_12_method_14_code
def yX10_tailOf : MethodName := ⟨RX10, "tailOf", "(J)J"⟩
abbrev cX10_second : ByteArray := prog_12_method_15_code
def yX10_second : MethodName := ⟨RX10, "second", "(J)J"⟩
abbrev cX10_third : ByteArray := prog_12_method_16_code
def yX10_third : MethodName := ⟨RX10, "third", "(J)J"⟩
abbrev cX10_byteAt : ByteArray := prog_12_method_17_code
def yX10_byteAt : MethodName := ⟨RX10, "byteAt", "(I)I"⟩
abbrev cX10_failsAt : ByteArray := prog_12_method_18_code
def yX10_failsAt : MethodName := ⟨RX10, "failsAt", "(II)Ljava/lang/IllegalStateException;"⟩
abbrev cX10_isCapital : ByteArray := prog_12_method_19_code
def yX10_isCapital : MethodName := ⟨RX10, "isCapital", "(I)Z"⟩
abbrev cX10_isDigit : ByteArray := prog_12_method_20_code
def yX10_isDigit : MethodName := ⟨RX10, "isDigit", "(I)Z"⟩
abbrev cX10_blanks : ByteArray := prog_12_method_21_code
def yX10_blanks : MethodName := ⟨RX10, "blanks", "()V"⟩
abbrev cX10_symbol : ByteArray := prog_12_method_22_code
def yX10_symbol : MethodName := ⟨RX10, "symbol", "()J"⟩
abbrev cX10_number : ByteArray := prog_12_method_23_code
def yX10_number : MethodName := ⟨RX10, "number", "()J"⟩
abbrev cX10_isAtom : ByteArray := prog_12_method_24_code
def yX10_isAtom : MethodName := ⟨RX10, "isAtom", "()Z"⟩
abbrev cX10_mayBegin : ByteArray := prog_12_method_25_code
def yX10_mayBegin : MethodName := ⟨RX10, "mayBegin", "()Z"⟩
abbrev cX10_reads : ByteArray := prog_12_method_26_code
def yX10_reads : MethodName := ⟨RX10, "reads", "()J"⟩
abbrev cX10_quotes : ByteArray := prog_12_method_27_code
def yX10_quotes : MethodName := ⟨RX10, "quotes", "(JI)J"⟩
abbrev cX10_closes : ByteArray := prog_12_method_28_code
def yX10_closes : MethodName := ⟨RX10, "closes", "()J"⟩
abbrev cX10_nothing : ByteArray := prog_12_method_29_code
def yX10_nothing : MethodName := ⟨RX10, "nothing", "()V"⟩
abbrev cX10_burn : ByteArray := prog_12_method_30_code
def yX10_burn : MethodName := ⟨RX10, "burn", "()V"⟩
abbrev cX10_pairOf : ByteArray := prog_12_method_31_code
def yX10_pairOf : MethodName := ⟨RX10, "pairOf", "(J)J"⟩
abbrev cX10_frame : ByteArray := prog_12_method_32_code
def yX10_frame : MethodName := ⟨RX10, "frame", "(ZJJ)V"⟩
abbrev cX10_evaluates : ByteArray := prog_12_method_33_code
def yX10_evaluates : MethodName := ⟨RX10, "evaluates", "()I"⟩
abbrev cX10_returns : ByteArray := prog_12_method_34_code
def yX10_returns : MethodName := ⟨RX10, "returns", "()I"⟩
abbrev cX10_applies : ByteArray := prog_12_method_35_code
def yX10_applies : MethodName := ⟨RX10, "applies", "()I"⟩
abbrev cX10_variable : ByteArray := prog_12_method_36_code
def yX10_variable : MethodName := ⟨RX10, "variable", "(J)V"⟩
abbrev cX10_binds : ByteArray := prog_12_method_37_code
def yX10_binds : MethodName := ⟨RX10, "binds", "()I"⟩
abbrev cX10_gives : ByteArray := prog_12_method_38_code
def yX10_gives : MethodName := ⟨RX10, "gives", "(J)I"⟩
abbrev cX10_says : ByteArray := prog_12_method_39_code
def yX10_says : MethodName := ⟨RX10, "says", "(Z)I"⟩
abbrev cX10_built : ByteArray := prog_12_method_40_code
def yX10_built : MethodName := ⟨RX10, "built", "(I)I"⟩
abbrev cX10_counts : ByteArray := prog_12_method_41_code
def yX10_counts : MethodName := ⟨RX10, "counts", "(IJJ)I"⟩
abbrev cX10_puts : ByteArray := prog_12_method_42_code
def yX10_puts : MethodName := ⟨RX10, "puts", "(I)V"⟩
abbrev cX10_atom : ByteArray := prog_12_method_43_code
def yX10_atom : MethodName := ⟨RX10, "atom", "(J)V"⟩
abbrev cX10_prints : ByteArray := prog_12_method_44_code
def yX10_prints : MethodName := ⟨RX10, "prints", "(J)V"⟩
abbrev cX10_feed : ByteArray := prog_12_method_45_code
def yX10_feed : MethodName := ⟨RX10, "feed", "(IIIII)I"⟩
abbrev cX10_begins : ByteArray := prog_12_method_46_code
def yX10_begins : MethodName := ⟨RX10, "begins", "(IZ)Z"⟩
abbrev cX10_whole : ByteArray := prog_12_method_47_code
def yX10_whole : MethodName := ⟨RX10, "whole", "()J"⟩
abbrev cX10_failed : ByteArray := prog_12_method_48_code
def yX10_failed : MethodName := ⟨RX10, "failed", "(Z)I"⟩
abbrev cX10_define : ByteArray := prog_12_method_49_code
def yX10_define : MethodName := ⟨RX10, "define", "(I)I"⟩
abbrev cX10_echo : ByteArray := prog_12_method_50_code
def yX10_echo : MethodName := ⟨RX10, "echo", "(I)I"⟩
abbrev cX10_eval : ByteArray := prog_12_method_51_code
def yX10_eval : MethodName := ⟨RX10, "eval", "(II)I"⟩
abbrev cX10_place : ByteArray := prog_12_method_52_code
def yX10_place : MethodName := ⟨RX10, "place", "()I"⟩
abbrev cX10_ofFunctions : ByteArray := prog_12_method_53_code
def yX10_ofFunctions : MethodName := ⟨RX10, "ofFunctions", "()I"⟩
abbrev cX10_room : ByteArray := prog_12_method_54_code
def yX10_room : MethodName := ⟨RX10, "room", "(I)I"⟩
abbrev cX10_count : ByteArray := prog_12_method_55_code
def yX10_count : MethodName := ⟨RX10, "count", "(I)I"⟩
abbrev cX10_function : ByteArray := prog_12_method_56_code
def yX10_function : MethodName := ⟨RX10, "function", "(I)I"⟩
abbrev cX10_octet : ByteArray := prog_12_method_57_code
def yX10_octet : MethodName := ⟨RX10, "octet", "(I)I"⟩
def RJxb5711 : String := "java/lang/IllegalStateException"
def TJxb5711 : u_T := fun k => match k with
  | _ => ("", "", "", false)
def tyJxb5711 : Nat → FieldType := fun k => match k with
  | _ => .int
abbrev wsJxb57110 : List Cond := u_ws RJxb5711 TJxb5711 0
theorem nmJxb5711 : ∀ a, a < 0 → ∀ b, b < 0 → a ≠ b → (TJxb5711 a).2.1 ≠ (TJxb5711 b).2.1 := by decide +kernel
theorem tyJxb5711_ok : ∀ k, k < 0 → parseFieldDescriptor (TJxb5711 k).2.2.1 = some (tyJxb5711 k) := by decide +kernel
abbrev cJxb5711_init_a7421 : ByteArray := prog_15_method_2_code
def yJxb5711_init_a7421 : MethodName := ⟨RJxb5711, "<init>", "(Ljava/lang/String;)V"⟩
def RJ9 : String := "java/lang/Math"
def TJ9 : u_T := fun k => match k with
  | _ => ("", "", "", false)
def tyJ9 : Nat → FieldType := fun k => match k with
  | _ => .int
abbrev wsJ90 : List Cond := u_ws RJ9 TJ9 0
theorem nmJ9 : ∀ a, a < 0 → ∀ b, b < 0 → a ≠ b → (TJ9 a).2.1 ≠ (TJ9 b).2.1 := by decide +kernel
theorem tyJ9_ok : ∀ k, k < 0 → parseFieldDescriptor (TJ9 k).2.2.1 = some (tyJ9 k) := by decide +kernel
abbrev cJ9_abs_067f4 : ByteArray := prog_16_method_61_code
def yJ9_abs_067f4 : MethodName := ⟨RJ9, "abs", "(J)J"⟩
abbrev cJ9_max_7cf53 : ByteArray := prog_16_method_65_code
def yJ9_max_7cf53 : MethodName := ⟨RJ9, "max", "(II)I"⟩
def RJ0 : String := "java/lang/String"
def TJ0 : u_T := fun k => match k with
  | _ => ("", "", "", false)
def tyJ0 : Nat → FieldType := fun k => match k with
  | _ => .int
abbrev wsJ00 : List Cond := u_ws RJ0 TJ0 0
theorem nmJ0 : ∀ a, a < 0 → ∀ b, b < 0 → a ≠ b → (TJ0 a).2.1 ≠ (TJ0 b).2.1 := by decide +kernel
theorem tyJ0_ok : ∀ k, k < 0 → parseFieldDescriptor (TJ0 k).2.2.1 = some (tyJ0 k) := by decide +kernel
abbrev cJ0_length_8abf5 : ByteArray := prog_18_method_54_code
def yJ0_length_8abf5 : MethodName := ⟨RJ0, "length", "()I"⟩
abbrev cJ0_charAt_5068e : ByteArray := prog_18_method_56_code
def yJ0_charAt_5068e : MethodName := ⟨RJ0, "charAt", "(I)C"⟩
abbrev cJ0_coder_7d493 : ByteArray := prog_18_method_152_code
def yJ0_coder_7d493 : MethodName := ⟨RJ0, "coder", "()B"⟩
abbrev cJ0_isLatin1_aae02 : ByteArray := prog_18_method_154_code
def yJ0_isLatin1_aae02 : MethodName := ⟨RJ0, "isLatin1", "()Z"⟩
abbrev cJ0_checkIndex_df160 : ByteArray := prog_18_method_155_code
def yJ0_checkIndex_df160 : MethodName := ⟨RJ0, "checkIndex", "(II)V"⟩
def RJ1 : String := "java/lang/StringLatin1"
def TJ1 : u_T := fun k => match k with
  | _ => ("", "", "", false)
def tyJ1 : Nat → FieldType := fun k => match k with
  | _ => .int
abbrev wsJ10 : List Cond := u_ws RJ1 TJ1 0
theorem nmJ1 : ∀ a, a < 0 → ∀ b, b < 0 → a ≠ b → (TJ1 a).2.1 ≠ (TJ1 b).2.1 := by decide +kernel
theorem tyJ1_ok : ∀ k, k < 0 → parseFieldDescriptor (TJ1 k).2.2.1 = some (tyJ1 k) := by decide +kernel
abbrev cJ1_charAt_3b067 : ByteArray := prog_19_method_2_code
def yJ1_charAt_3b067 : MethodName := ⟨RJ1, "charAt", "([BI)C"⟩
def RJ2 : String := "java/lang/StringUTF16"
def TJ2 : u_T := fun k => match k with
  | _ => ("", "", "", false)
def tyJ2 : Nat → FieldType := fun k => match k with
  | _ => .int
abbrev wsJ20 : List Cond := u_ws RJ2 TJ2 0
theorem nmJ2 : ∀ a, a < 0 → ∀ b, b < 0 → a ≠ b → (TJ2 a).2.1 ≠ (TJ2 b).2.1 := by decide +kernel
theorem tyJ2_ok : ∀ k, k < 0 → parseFieldDescriptor (TJ2 k).2.2.1 = some (tyJ2 k) := by decide +kernel
abbrev cJ2_getChar_3b067 : ByteArray := prog_20_method_5_code
def yJ2_getChar_3b067 : MethodName := ⟨RJ2, "getChar", "([BI)C"⟩
abbrev cJ2_length_9d52b : ByteArray := prog_20_method_6_code
def yJ2_length_9d52b : MethodName := ⟨RJ2, "length", "([B)I"⟩
abbrev cJ2_charAt_3b067 : ByteArray := prog_20_method_83_code
def yJ2_charAt_3b067 : MethodName := ⟨RJ2, "charAt", "([BI)C"⟩
abbrev cJ2_checkIndex_2214a : ByteArray := prog_20_method_91_code
def yJ2_checkIndex_2214a : MethodName := ⟨RJ2, "checkIndex", "(I[B)V"⟩
def RJ3 : String := "jdk/internal/util/Preconditions"
def TJ3 : u_T := fun k => match k with
  | _ => ("", "", "", false)
def tyJ3 : Nat → FieldType := fun k => match k with
  | _ => .int
abbrev wsJ30 : List Cond := u_ws RJ3 TJ3 0
theorem nmJ3 : ∀ a, a < 0 → ∀ b, b < 0 → a ≠ b → (TJ3 a).2.1 ≠ (TJ3 b).2.1 := by decide +kernel
theorem tyJ3_ok : ∀ k, k < 0 → parseFieldDescriptor (TJ3 k).2.2.1 = some (tyJ3 k) := by decide +kernel
abbrev cJ3_checkIndex_8e157 : ByteArray := prog_22_method_11_code
def yJ3_checkIndex_8e157 : MethodName := ⟨RJ3, "checkIndex", "(IILjava/util/function/BiFunction;)I"⟩
def RL : String := "ConsYardLaw"
abbrev cL_define : ByteArray := method_3_code
def yL_define : MethodName := ⟨RL, "define", "(LConsYard;I[J)I"⟩
abbrev cL_eval : ByteArray := method_4_code
def yL_eval : MethodName := ⟨RL, "eval", "(LConsYard;II[J)I"⟩
abbrev cL_echo : ByteArray := method_5_code
def yL_echo : MethodName := ⟨RL, "echo", "(LConsYard;I[J)I"⟩
abbrev cL_room : ByteArray := method_6_code
def yL_room : MethodName := ⟨RL, "room", "(LConsYard;I[J)I"⟩
abbrev cL_law : ByteArray := code
def yL_law : MethodName := ⟨RL, "law", "([I)Z"⟩
end
section
/-! resolved code, part 0 -/
set_option maxRecDepth 20000 in
def cdX0_size : PCode := fun pc => if pc < 5 then (if pc < 1 then (if pc = 0 then some (.aload_n 0, 1, 0, 0, [], .null) else none) else (if pc < 4 then (if pc = 1 then some (.getfield 15, 4, 1, 1, [], .null) else none) else (if pc = 4 then some (.ireturn, 5, 0, 0, [], .null) else none))) else none
set_option maxRecDepth 20000 in
def cdX0_at : PCode := fun pc => if pc < 27 then (if pc < 13 then (if pc < 5 then (if pc < 1 then (if pc = 0 then some (.iload_n 1, 1, 1, 0, [], .null) else none) else (if pc < 4 then (if pc = 1 then some (.ifCond .lt 24, 4, 25, 0, [], .null) else none) else (if pc = 4 then some (.iload_n 1, 5, 1, 0, [], .null) else none))) else (if pc < 9 then (if pc < 6 then (if pc = 5 then some (.aload_n 0, 6, 0, 0, [], .null) else none) else (if pc = 6 then some (.getfield 15, 9, 1, 1, [], .null) else none)) else (if pc < 12 then (if pc = 9 then some (.if_icmp .ge 16, 12, 25, 0, [], .null) else none) else (if pc = 12 then some (.aload_n 0, 13, 0, 0, [], .null) else none)))) else (if pc < 21 then (if pc < 17 then (if pc < 16 then (if pc = 13 then some (.getfield 9, 16, 1, 0, [], .null) else none) else (if pc = 16 then some (.iload_n 1, 17, 1, 0, [], .null) else none)) else (if pc < 18 then (if pc = 17 then some (.baload, 18, 0, 0, [], .null) else none) else (if pc = 18 then some (.sipush 255, 21, 0, 0, [], .int 255) else none))) else (if pc < 25 then (if pc < 22 then (if pc = 21 then some (.iand, 22, 0, 0, [], .null) else none) else (if pc = 22 then some (.goto 4, 25, 26, 0, [], .null) else none)) else (if pc < 26 then (if pc = 25 then some (.iconst (-1), 26, 0, 0, [], .int (-1)) else none) else (if pc = 26 then some (.ireturn, 27, 0, 0, [], .null) else none))))) else none
set_option maxRecDepth 20000 in
def cdX0_add : PCode := fun pc => if pc < 34 then (if pc < 20 then (if pc < 9 then (if pc < 4 then (if pc < 1 then (if pc = 0 then some (.aload_n 0, 1, 0, 0, [], .null) else none) else (if pc = 1 then some (.getfield 15, 4, 1, 1, [], .null) else none)) else (if pc < 5 then (if pc = 4 then some (.aload_n 0, 5, 0, 0, [], .null) else none) else (if pc < 8 then (if pc = 5 then some (.getfield 9, 8, 1, 0, [], .null) else none) else (if pc = 8 then some (.arraylength, 9, 0, 0, [], .null) else none)))) else (if pc < 13 then (if pc < 12 then (if pc = 9 then some (.if_icmp .ge 24, 12, 33, 0, [], .null) else none) else (if pc = 12 then some (.aload_n 0, 13, 0, 0, [], .null) else none)) else (if pc < 16 then (if pc = 13 then some (.getfield 9, 16, 1, 0, [], .null) else none) else (if pc < 17 then (if pc = 16 then some (.aload_n 0, 17, 0, 0, [], .null) else none) else (if pc = 17 then some (.getfield 15, 20, 1, 1, [], .null) else none))))) else (if pc < 25 then (if pc < 22 then (if pc < 21 then (if pc = 20 then some (.iload_n 1, 21, 1, 0, [], .null) else none) else (if pc = 21 then some (.i2b, 22, 0, 0, [], .null) else none)) else (if pc < 23 then (if pc = 22 then some (.bastore, 23, 0, 0, [], .null) else none) else (if pc < 24 then (if pc = 23 then some (.aload_n 0, 24, 0, 0, [], .null) else none) else (if pc = 24 then some (.dup, 25, 0, 0, [], .null) else none)))) else (if pc < 29 then (if pc < 28 then (if pc = 25 then some (.getfield 15, 28, 1, 1, [], .null) else none) else (if pc = 28 then some (.iconst 1, 29, 0, 0, [], .int 1) else none)) else (if pc < 30 then (if pc = 29 then some (.iadd, 30, 0, 0, [], .null) else none) else (if pc < 33 then (if pc = 30 then some (.putfield 15, 33, 1, 1, [], .null) else none) else (if pc = 33 then some (.return_, 34, 0, 0, [], .null) else none)))))) else none
set_option maxRecDepth 20000 in
def cdX0_addNumber : PCode := fun pc => if pc < 21 then (if pc < 9 then (if pc < 4 then (if pc < 2 then (if pc = 0 then some (.bipush 24, 2, 0, 0, [], .int 24) else none) else (if pc < 3 then (if pc = 2 then some (.istore_n 2, 3, 2, 0, [], .null) else none) else (if pc = 3 then some (.iload_n 2, 4, 2, 0, [], .null) else none))) else (if pc < 7 then (if pc = 4 then some (.ifCond .lt 16, 7, 20, 0, [], .null) else none) else (if pc < 8 then (if pc = 7 then some (.aload_n 0, 8, 0, 0, [], .null) else none) else (if pc = 8 then some (.iload_n 1, 9, 1, 0, [], .null) else none)))) else (if pc < 14 then (if pc < 10 then (if pc = 9 then some (.iload_n 2, 10, 2, 0, [], .null) else none) else (if pc < 11 then (if pc = 10 then some (.iushr, 11, 0, 0, [], .null) else none) else (if pc = 11 then some (.invokevirtual 19, 14, 2, 2, [], .null) else none))) else (if pc < 17 then (if pc = 14 then some (.iinc 2 (-8), 17, 2, 0, [], .int (-8)) else none) else (if pc < 20 then (if pc = 17 then some (.goto (-14), 20, 3, 0, [], .null) else none) else (if pc = 20 then some (.return_, 21, 0, 0, [], .null) else none))))) else none
set_option maxRecDepth 20000 in
def cdX0_clear : PCode := fun pc => if pc < 6 then (if pc < 2 then (if pc < 1 then (if pc = 0 then some (.aload_n 0, 1, 0, 0, [], .null) else none) else (if pc = 1 then some (.iconst 0, 2, 0, 0, [], .int 0) else none)) else (if pc < 5 then (if pc = 2 then some (.putfield 15, 5, 1, 1, [], .null) else none) else (if pc = 5 then some (.return_, 6, 0, 0, [], .null) else none))) else none
set_option maxRecDepth 20000 in
def cdX1_made : PCode := fun pc => if pc < 5 then (if pc < 1 then (if pc = 0 then some (.aload_n 0, 1, 0, 0, [], .null) else none) else (if pc < 4 then (if pc = 1 then some (.getfield 61, 4, 2, 9, [], .null) else none) else (if pc = 4 then some (.ireturn, 5, 0, 0, [], .null) else none))) else none
set_option maxRecDepth 20000 in
def cdX1_limit : PCode := fun pc => if pc < 5 then (if pc < 1 then (if pc = 0 then some (.aload_n 0, 1, 0, 0, [], .null) else none) else (if pc < 4 then (if pc = 1 then some (.getfield 29, 4, 2, 8, [], .null) else none) else (if pc = 4 then some (.ireturn, 5, 0, 0, [], .null) else none))) else none
set_option maxRecDepth 20000 in
def cdX1_setLimit : PCode := fun pc => if pc < 6 then (if pc < 2 then (if pc < 1 then (if pc = 0 then some (.aload_n 0, 1, 0, 0, [], .null) else none) else (if pc = 1 then some (.iload_n 1, 2, 1, 0, [], .null) else none)) else (if pc < 5 then (if pc = 2 then some (.putfield 29, 5, 2, 8, [], .null) else none) else (if pc = 5 then some (.return_, 6, 0, 0, [], .null) else none))) else none
set_option maxRecDepth 20000 in
def cdX1_head : PCode := fun pc => if pc < 34 then (if pc < 16 then (if pc < 7 then (if pc < 4 then (if pc < 1 then (if pc = 0 then some (.lload_n 1, 1, 1, 0, [], .null) else none) else (if pc = 1 then some (.ldc2_w 66, 4, 0, 0, [], .long 8589934592) else none)) else (if pc < 5 then (if pc = 4 then some (.lsub, 5, 0, 0, [], .null) else none) else (if pc < 6 then (if pc = 5 then some (.lstore_n 3, 6, 3, 0, [], .null) else none) else (if pc = 6 then some (.lload_n 3, 7, 3, 0, [], .null) else none)))) else (if pc < 9 then (if pc < 8 then (if pc = 7 then some (.lconst 0, 8, 0, 0, [], .long 0) else none) else (if pc = 8 then some (.lcmp, 9, 0, 0, [], .null) else none)) else (if pc < 12 then (if pc = 9 then some (.ifCond .lt 21, 12, 30, 0, [], .null) else none) else (if pc < 13 then (if pc = 12 then some (.lload_n 3, 13, 3, 0, [], .null) else none) else (if pc = 13 then some (.ldc2_w 68, 16, 0, 0, [], .long 2000) else none))))) else (if pc < 25 then (if pc < 20 then (if pc < 17 then (if pc = 16 then some (.lcmp, 17, 0, 0, [], .null) else none) else (if pc = 17 then some (.ifCond .ge 13, 20, 30, 0, [], .null) else none)) else (if pc < 21 then (if pc = 20 then some (.aload_n 0, 21, 0, 0, [], .null) else none) else (if pc < 24 then (if pc = 21 then some (.getfield 9, 24, 2, 2, [], .null) else none) else (if pc = 24 then some (.lload_n 3, 25, 3, 0, [], .null) else none)))) else (if pc < 27 then (if pc < 26 then (if pc = 25 then some (.l2i, 26, 0, 0, [], .null) else none) else (if pc = 26 then some (.laload, 27, 0, 0, [], .null) else none)) else (if pc < 30 then (if pc = 27 then some (.goto 6, 30, 33, 0, [], .null) else none) else (if pc < 33 then (if pc = 30 then some (.ldc2_w 70, 33, 0, 0, [], .long (-1)) else none) else (if pc = 33 then some (.lreturn, 34, 0, 0, [], .null) else none)))))) else none
set_option maxRecDepth 20000 in
def cdX1_tail : PCode := fun pc => if pc < 34 then (if pc < 16 then (if pc < 7 then (if pc < 4 then (if pc < 1 then (if pc = 0 then some (.lload_n 1, 1, 1, 0, [], .null) else none) else (if pc = 1 then some (.ldc2_w 66, 4, 0, 0, [], .long 8589934592) else none)) else (if pc < 5 then (if pc = 4 then some (.lsub, 5, 0, 0, [], .null) else none) else (if pc < 6 then (if pc = 5 then some (.lstore_n 3, 6, 3, 0, [], .null) else none) else (if pc = 6 then some (.lload_n 3, 7, 3, 0, [], .null) else none)))) else (if pc < 9 then (if pc < 8 then (if pc = 7 then some (.lconst 0, 8, 0, 0, [], .long 0) else none) else (if pc = 8 then some (.lcmp, 9, 0, 0, [], .null) else none)) else (if pc < 12 then (if pc = 9 then some (.ifCond .lt 21, 12, 30, 0, [], .null) else none) else (if pc < 13 then (if pc = 12 then some (.lload_n 3, 13, 3, 0, [], .null) else none) else (if pc = 13 then some (.ldc2_w 68, 16, 0, 0, [], .long 2000) else none))))) else (if pc < 25 then (if pc < 20 then (if pc < 17 then (if pc = 16 then some (.lcmp, 17, 0, 0, [], .null) else none) else (if pc = 17 then some (.ifCond .ge 13, 20, 30, 0, [], .null) else none)) else (if pc < 21 then (if pc = 20 then some (.aload_n 0, 21, 0, 0, [], .null) else none) else (if pc < 24 then (if pc = 21 then some (.getfield 15, 24, 2, 3, [], .null) else none) else (if pc = 24 then some (.lload_n 3, 25, 3, 0, [], .null) else none)))) else (if pc < 27 then (if pc < 26 then (if pc = 25 then some (.l2i, 26, 0, 0, [], .null) else none) else (if pc = 26 then some (.laload, 27, 0, 0, [], .null) else none)) else (if pc < 30 then (if pc = 27 then some (.goto 6, 30, 33, 0, [], .null) else none) else (if pc < 33 then (if pc = 30 then some (.ldc2_w 70, 33, 0, 0, [], .long (-1)) else none) else (if pc = 33 then some (.lreturn, 34, 0, 0, [], .null) else none)))))) else none
set_option maxRecDepth 20000 in
def cdX1_make : PCode := fun pc => if pc < 121 then (if pc < 62 then (if pc < 31 then (if pc < 13 then (if pc < 5 then (if pc < 1 then (if pc = 0 then some (.aload_n 0, 1, 0, 0, [], .null) else none) else (if pc < 4 then (if pc = 1 then some (.invokevirtual 72, 4, 12, 1, [], .null) else none) else (if pc = 4 then some (.aload_n 0, 5, 0, 0, [], .null) else none))) else (if pc < 11 then (if pc < 8 then (if pc = 5 then some (.getfield 29, 8, 2, 8, [], .null) else none) else (if pc = 8 then some (.if_icmp .lt 9, 11, 17, 0, [], .null) else none)) else (if pc < 12 then (if pc = 11 then some (.aload_n 0, 12, 0, 0, [], .null) else none) else (if pc = 12 then some (.lload_n 1, 13, 1, 0, [], .null) else none)))) else (if pc < 21 then (if pc < 17 then (if pc < 14 then (if pc = 13 then some (.lload_n 3, 14, 3, 0, [], .null) else none) else (if pc = 14 then some (.invokevirtual 76, 17, 13, 3, [], .null) else none)) else (if pc < 18 then (if pc = 17 then some (.aload_n 0, 18, 0, 0, [], .null) else none) else (if pc = 18 then some (.getfield 80, 21, 2, 7, [], .null) else none))) else (if pc < 25 then (if pc < 24 then (if pc = 21 then some (.ifCond .le 27, 24, 48, 0, [], .null) else none) else (if pc = 24 then some (.aload_n 0, 25, 0, 0, [], .null) else none)) else (if pc < 28 then (if pc = 25 then some (.getfield 80, 28, 2, 7, [], .null) else none) else (if pc = 28 then some (.sipush 2000, 31, 0, 0, [], .int 2000) else none))))) else (if pc < 45 then (if pc < 39 then (if pc < 35 then (if pc < 34 then (if pc = 31 then some (.if_icmp .gt 17, 34, 48, 0, [], .null) else none) else (if pc = 34 then some (.aload_n 0, 35, 0, 0, [], .null) else none)) else (if pc < 38 then (if pc = 35 then some (.getfield 22, 38, 2, 5, [], .null) else none) else (if pc = 38 then some (.aload_n 0, 39, 0, 0, [], .null) else none))) else (if pc < 43 then (if pc < 42 then (if pc = 39 then some (.getfield 80, 42, 2, 7, [], .null) else none) else (if pc = 42 then some (.iconst 1, 43, 0, 0, [], .int 1) else none)) else (if pc < 44 then (if pc = 43 then some (.isub, 44, 0, 0, [], .null) else none) else (if pc = 44 then some (.iaload, 45, 0, 0, [], .null) else none)))) else (if pc < 52 then (if pc < 49 then (if pc < 48 then (if pc = 45 then some (.goto 4, 48, 49, 0, [], .null) else none) else (if pc = 48 then some (.iconst (-1), 49, 0, 0, [], .int (-1)) else none)) else (if pc < 51 then (if pc = 49 then some (.istore 5, 51, 5, 0, [], .null) else none) else (if pc = 51 then some (.aload_n 0, 52, 0, 0, [], .null) else none))) else (if pc < 56 then (if pc < 55 then (if pc = 52 then some (.invokevirtual 72, 55, 12, 1, [], .null) else none) else (if pc = 55 then some (.aload_n 0, 56, 0, 0, [], .null) else none)) else (if pc < 59 then (if pc = 56 then some (.getfield 29, 59, 2, 8, [], .null) else none) else (if pc = 59 then some (.if_icmp .ge 16, 62, 75, 0, [], .null) else none)))))) else (if pc < 95 then (if pc < 80 then (if pc < 72 then (if pc < 67 then (if pc < 64 then (if pc = 62 then some (.iload 5, 64, 5, 0, [], .null) else none) else (if pc = 64 then some (.ifCond .lt 11, 67, 75, 0, [], .null) else none)) else (if pc < 69 then (if pc = 67 then some (.iload 5, 69, 5, 0, [], .null) else none) else (if pc = 69 then some (.sipush 2000, 72, 0, 0, [], .int 2000) else none))) else (if pc < 78 then (if pc < 75 then (if pc = 72 then some (.if_icmp .lt 7, 75, 79, 0, [], .null) else none) else (if pc = 75 then some (.ldc2_w 70, 78, 0, 0, [], .long (-1)) else none)) else (if pc < 79 then (if pc = 78 then some (.lreturn, 79, 0, 0, [], .null) else none) else (if pc = 79 then some (.aload_n 0, 80, 0, 0, [], .null) else none)))) else (if pc < 86 then (if pc < 84 then (if pc < 81 then (if pc = 80 then some (.dup, 81, 0, 0, [], .null) else none) else (if pc = 81 then some (.getfield 80, 84, 2, 7, [], .null) else none)) else (if pc < 85 then (if pc = 84 then some (.iconst 1, 85, 0, 0, [], .int 1) else none) else (if pc = 85 then some (.isub, 86, 0, 0, [], .null) else none))) else (if pc < 90 then (if pc < 89 then (if pc = 86 then some (.putfield 80, 89, 2, 7, [], .null) else none) else (if pc = 89 then some (.aload_n 0, 90, 0, 0, [], .null) else none)) else (if pc < 93 then (if pc = 90 then some (.getfield 9, 93, 2, 2, [], .null) else none) else (if pc = 93 then some (.iload 5, 95, 5, 0, [], .null) else none))))) else (if pc < 106 then (if pc < 101 then (if pc < 97 then (if pc < 96 then (if pc = 95 then some (.lload_n 1, 96, 1, 0, [], .null) else none) else (if pc = 96 then some (.lastore, 97, 0, 0, [], .null) else none)) else (if pc < 98 then (if pc = 97 then some (.aload_n 0, 98, 0, 0, [], .null) else none) else (if pc = 98 then some (.getfield 15, 101, 2, 3, [], .null) else none))) else (if pc < 104 then (if pc < 103 then (if pc = 101 then some (.iload 5, 103, 5, 0, [], .null) else none) else (if pc = 103 then some (.lload_n 3, 104, 3, 0, [], .null) else none)) else (if pc < 105 then (if pc = 104 then some (.lastore, 105, 0, 0, [], .null) else none) else (if pc = 105 then some (.aload_n 0, 106, 0, 0, [], .null) else none)))) else (if pc < 112 then (if pc < 110 then (if pc < 107 then (if pc = 106 then some (.dup, 107, 0, 0, [], .null) else none) else (if pc = 107 then some (.getfield 61, 110, 2, 9, [], .null) else none)) else (if pc < 111 then (if pc = 110 then some (.iconst 1, 111, 0, 0, [], .int 1) else none) else (if pc = 111 then some (.iadd, 112, 0, 0, [], .null) else none))) else (if pc < 117 then (if pc < 115 then (if pc = 112 then some (.putfield 61, 115, 2, 9, [], .null) else none) else (if pc = 115 then some (.iload 5, 117, 5, 0, [], .null) else none)) else (if pc < 120 then (if pc = 117 then some (.invokestatic 83, 120, 99, 1, [], .null) else none) else (if pc = 120 then some (.lreturn, 121, 0, 0, [], .null) else none))))))) else none
set_option maxRecDepth 20000 in
def cdX1_reachedByFunctions : PCode := fun pc => if pc < 11 then (if pc < 3 then (if pc < 1 then (if pc = 0 then some (.aload_n 0, 1, 0, 0, [], .null) else none) else (if pc < 2 then (if pc = 1 then some (.lconst 0, 2, 0, 0, [], .long 0) else none) else (if pc = 2 then some (.lconst 0, 3, 0, 0, [], .long 0) else none))) else (if pc < 7 then (if pc < 6 then (if pc = 3 then some (.invokevirtual 76, 6, 13, 3, [], .null) else none) else (if pc = 6 then some (.aload_n 0, 7, 0, 0, [], .null) else none)) else (if pc < 10 then (if pc = 7 then some (.invokevirtual 72, 10, 12, 1, [], .null) else none) else (if pc = 10 then some (.ireturn, 11, 0, 0, [], .null) else none)))) else none
set_option maxRecDepth 20000 in
def cdX1_inUse : PCode := fun pc => if pc < 9 then (if pc < 4 then (if pc < 3 then (if pc = 0 then some (.sipush 2000, 3, 0, 0, [], .int 2000) else none) else (if pc = 3 then some (.aload_n 0, 4, 0, 0, [], .null) else none)) else (if pc < 7 then (if pc = 4 then some (.getfield 80, 7, 2, 7, [], .null) else none) else (if pc < 8 then (if pc = 7 then some (.isub, 8, 0, 0, [], .null) else none) else (if pc = 8 then some (.ireturn, 9, 0, 0, [], .null) else none)))) else none
set_option maxRecDepth 20000 in
def cdX1_collect : PCode := fun pc => if pc < 112 then (if pc < 54 then (if pc < 23 then (if pc < 10 then (if pc < 5 then (if pc < 1 then (if pc = 0 then some (.aload_n 0, 1, 0, 0, [], .null) else none) else (if pc < 2 then (if pc = 1 then some (.lload_n 1, 2, 1, 0, [], .null) else none) else (if pc = 2 then some (.invokevirtual 87, 5, 14, 2, [], .null) else none))) else (if pc < 6 then (if pc = 5 then some (.aload_n 0, 6, 0, 0, [], .null) else none) else (if pc < 7 then (if pc = 6 then some (.lload_n 3, 7, 3, 0, [], .null) else none) else (if pc = 7 then some (.invokevirtual 87, 10, 14, 2, [], .null) else none)))) else (if pc < 15 then (if pc < 11 then (if pc = 10 then some (.aload_n 0, 11, 0, 0, [], .null) else none) else (if pc < 12 then (if pc = 11 then some (.aload_n 0, 12, 0, 0, [], .null) else none) else (if pc = 12 then some (.getfield 33, 15, 2, 0, [], .null) else none))) else (if pc < 21 then (if pc < 18 then (if pc = 15 then some (.getfield 91, 18, 6, 4, [], .null) else none) else (if pc = 18 then some (.invokevirtual 87, 21, 14, 2, [], .null) else none)) else (if pc < 22 then (if pc = 21 then some (.aload_n 0, 22, 0, 0, [], .null) else none) else (if pc = 22 then some (.aload_n 0, 23, 0, 0, [], .null) else none))))) else (if pc < 40 then (if pc < 32 then (if pc < 26 then (if pc = 23 then some (.getfield 33, 26, 2, 0, [], .null) else none) else (if pc < 29 then (if pc = 26 then some (.getfield 95, 29, 6, 5, [], .null) else none) else (if pc = 29 then some (.invokevirtual 87, 32, 14, 2, [], .null) else none))) else (if pc < 34 then (if pc < 33 then (if pc = 32 then some (.aload_n 0, 33, 0, 0, [], .null) else none) else (if pc = 33 then some (.aload_n 0, 34, 0, 0, [], .null) else none)) else (if pc < 37 then (if pc = 34 then some (.getfield 33, 37, 2, 0, [], .null) else none) else (if pc = 37 then some (.getfield 98, 40, 6, 6, [], .null) else none)))) else (if pc < 47 then (if pc < 43 then (if pc = 40 then some (.invokevirtual 87, 43, 14, 2, [], .null) else none) else (if pc < 44 then (if pc = 43 then some (.aload_n 0, 44, 0, 0, [], .null) else none) else (if pc = 44 then some (.getfield 54, 47, 2, 1, [], .null) else none))) else (if pc < 51 then (if pc < 49 then (if pc = 47 then some (.astore 5, 49, 5, 0, [], .null) else none) else (if pc = 49 then some (.aload 5, 51, 5, 0, [], .null) else none)) else (if pc < 52 then (if pc = 51 then some (.arraylength, 52, 0, 0, [], .null) else none) else (if pc = 52 then some (.istore 6, 54, 6, 0, [], .null) else none)))))) else (if pc < 78 then (if pc < 66 then (if pc < 59 then (if pc < 55 then (if pc = 54 then some (.iconst 0, 55, 0, 0, [], .int 0) else none) else (if pc < 57 then (if pc = 55 then some (.istore 7, 57, 7, 0, [], .null) else none) else (if pc = 57 then some (.iload 7, 59, 7, 0, [], .null) else none))) else (if pc < 61 then (if pc = 59 then some (.iload 6, 61, 6, 0, [], .null) else none) else (if pc < 64 then (if pc = 61 then some (.if_icmp .ge 46, 64, 107, 0, [], .null) else none) else (if pc = 64 then some (.aload 5, 66, 5, 0, [], .null) else none)))) else (if pc < 71 then (if pc < 68 then (if pc = 66 then some (.iload 7, 68, 7, 0, [], .null) else none) else (if pc < 69 then (if pc = 68 then some (.aaload, 69, 0, 0, [], .null) else none) else (if pc = 69 then some (.astore 8, 71, 8, 0, [], .null) else none))) else (if pc < 74 then (if pc < 72 then (if pc = 71 then some (.iconst 0, 72, 0, 0, [], .int 0) else none) else (if pc = 72 then some (.istore 9, 74, 9, 0, [], .null) else none)) else (if pc < 76 then (if pc = 74 then some (.iload 9, 76, 9, 0, [], .null) else none) else (if pc = 76 then some (.aload 8, 78, 8, 0, [], .null) else none))))) else (if pc < 95 then (if pc < 85 then (if pc < 81 then (if pc = 78 then some (.invokevirtual 101, 81, 83, 1, [], .null) else none) else (if pc < 84 then (if pc = 81 then some (.if_icmp .ge 20, 84, 101, 0, [], .null) else none) else (if pc = 84 then some (.aload_n 0, 85, 0, 0, [], .null) else none))) else (if pc < 89 then (if pc < 87 then (if pc = 85 then some (.aload 8, 87, 8, 0, [], .null) else none) else (if pc = 87 then some (.iload 9, 89, 9, 0, [], .null) else none)) else (if pc < 92 then (if pc = 89 then some (.invokevirtual 104, 92, 84, 2, [], .null) else none) else (if pc = 92 then some (.invokevirtual 87, 95, 14, 2, [], .null) else none)))) else (if pc < 104 then (if pc < 98 then (if pc = 95 then some (.iinc 9 1, 98, 9, 0, [], .int 1) else none) else (if pc < 101 then (if pc = 98 then some (.goto (-24), 101, 74, 0, [], .null) else none) else (if pc = 101 then some (.iinc 7 1, 104, 7, 0, [], .int 1) else none))) else (if pc < 108 then (if pc < 107 then (if pc = 104 then some (.goto (-47), 107, 57, 0, [], .null) else none) else (if pc = 107 then some (.aload_n 0, 108, 0, 0, [], .null) else none)) else (if pc < 111 then (if pc = 108 then some (.invokevirtual 58, 111, 15, 1, [], .null) else none) else (if pc = 111 then some (.return_, 112, 0, 0, [], .null) else none))))))) else none
set_option maxRecDepth 20000 in
def cdX1_reach : PCode := fun pc => if pc < 136 then (if pc < 70 then (if pc < 33 then (if pc < 12 then (if pc < 6 then (if pc < 4 then (if pc < 1 then (if pc = 0 then some (.aload_n 0, 1, 0, 0, [], .null) else none) else (if pc = 1 then some (.getfield 26, 4, 2, 6, [], .null) else none)) else (if pc < 5 then (if pc = 4 then some (.iconst 0, 5, 0, 0, [], .int 0) else none) else (if pc = 5 then some (.lload_n 1, 6, 1, 0, [], .null) else none))) else (if pc < 8 then (if pc < 7 then (if pc = 6 then some (.lastore, 7, 0, 0, [], .null) else none) else (if pc = 7 then some (.iconst 1, 8, 0, 0, [], .int 1) else none)) else (if pc < 9 then (if pc = 8 then some (.istore_n 3, 9, 3, 0, [], .null) else none) else (if pc < 10 then (if pc = 9 then some (.iconst 0, 10, 0, 0, [], .int 0) else none) else (if pc = 10 then some (.istore 4, 12, 4, 0, [], .null) else none))))) else (if pc < 24 then (if pc < 17 then (if pc < 14 then (if pc = 12 then some (.iload 4, 14, 4, 0, [], .null) else none) else (if pc = 14 then some (.sipush 4000, 17, 0, 0, [], .int 4000) else none)) else (if pc < 20 then (if pc = 17 then some (.if_icmp .gt 118, 20, 135, 0, [], .null) else none) else (if pc < 21 then (if pc = 20 then some (.iload_n 3, 21, 3, 0, [], .null) else none) else (if pc = 21 then some (.ifCond .le 114, 24, 135, 0, [], .null) else none)))) else (if pc < 28 then (if pc < 27 then (if pc = 24 then some (.iinc 3 (-1), 27, 3, 0, [], .int (-1)) else none) else (if pc = 27 then some (.aload_n 0, 28, 0, 0, [], .null) else none)) else (if pc < 31 then (if pc = 28 then some (.getfield 26, 31, 2, 6, [], .null) else none) else (if pc < 32 then (if pc = 31 then some (.iload_n 3, 32, 3, 0, [], .null) else none) else (if pc = 32 then some (.laload, 33, 0, 0, [], .null) else none)))))) else (if pc < 51 then (if pc < 41 then (if pc < 37 then (if pc < 36 then (if pc = 33 then some (.ldc2_w 66, 36, 0, 0, [], .long 8589934592) else none) else (if pc = 36 then some (.lsub, 37, 0, 0, [], .null) else none)) else (if pc < 39 then (if pc = 37 then some (.lstore 5, 39, 5, 0, [], .null) else none) else (if pc = 39 then some (.lload 5, 41, 5, 0, [], .null) else none))) else (if pc < 43 then (if pc < 42 then (if pc = 41 then some (.lconst 0, 42, 0, 0, [], .long 0) else none) else (if pc = 42 then some (.lcmp, 43, 0, 0, [], .null) else none)) else (if pc < 46 then (if pc = 43 then some (.ifCond .lt 18, 46, 61, 0, [], .null) else none) else (if pc < 48 then (if pc = 46 then some (.lload 5, 48, 5, 0, [], .null) else none) else (if pc = 48 then some (.ldc2_w 68, 51, 0, 0, [], .long 2000) else none))))) else (if pc < 61 then (if pc < 55 then (if pc < 52 then (if pc = 51 then some (.lcmp, 52, 0, 0, [], .null) else none) else (if pc = 52 then some (.ifCond .ge 9, 55, 61, 0, [], .null) else none)) else (if pc < 57 then (if pc = 55 then some (.lload 5, 57, 5, 0, [], .null) else none) else (if pc < 58 then (if pc = 57 then some (.l2i, 58, 0, 0, [], .null) else none) else (if pc = 58 then some (.goto 4, 61, 62, 0, [], .null) else none)))) else (if pc < 64 then (if pc < 62 then (if pc = 61 then some (.iconst (-1), 62, 0, 0, [], .int (-1)) else none) else (if pc = 62 then some (.istore 7, 64, 7, 0, [], .null) else none)) else (if pc < 66 then (if pc = 64 then some (.iload 7, 66, 7, 0, [], .null) else none) else (if pc < 69 then (if pc = 66 then some (.ifCond .lt 63, 69, 129, 0, [], .null) else none) else (if pc = 69 then some (.aload_n 0, 70, 0, 0, [], .null) else none))))))) else (if pc < 103 then (if pc < 86 then (if pc < 79 then (if pc < 75 then (if pc < 73 then (if pc = 70 then some (.getfield 18, 73, 2, 4, [], .null) else none) else (if pc = 73 then some (.iload 7, 75, 7, 0, [], .null) else none)) else (if pc < 76 then (if pc = 75 then some (.baload, 76, 0, 0, [], .null) else none) else (if pc = 76 then some (.ifCond .ne 53, 79, 129, 0, [], .null) else none))) else (if pc < 81 then (if pc < 80 then (if pc = 79 then some (.iload_n 3, 80, 3, 0, [], .null) else none) else (if pc = 80 then some (.iconst 2, 81, 0, 0, [], .int 2) else none)) else (if pc < 82 then (if pc = 81 then some (.iadd, 82, 0, 0, [], .null) else none) else (if pc < 83 then (if pc = 82 then some (.aload_n 0, 83, 0, 0, [], .null) else none) else (if pc = 83 then some (.getfield 26, 86, 2, 6, [], .null) else none))))) else (if pc < 96 then (if pc < 90 then (if pc < 87 then (if pc = 86 then some (.arraylength, 87, 0, 0, [], .null) else none) else (if pc = 87 then some (.if_icmp .gt 42, 90, 129, 0, [], .null) else none)) else (if pc < 91 then (if pc = 90 then some (.aload_n 0, 91, 0, 0, [], .null) else none) else (if pc < 94 then (if pc = 91 then some (.getfield 18, 94, 2, 4, [], .null) else none) else (if pc = 94 then some (.iload 7, 96, 7, 0, [], .null) else none)))) else (if pc < 98 then (if pc < 97 then (if pc = 96 then some (.iconst 1, 97, 0, 0, [], .int 1) else none) else (if pc = 97 then some (.bastore, 98, 0, 0, [], .null) else none)) else (if pc < 99 then (if pc = 98 then some (.aload_n 0, 99, 0, 0, [], .null) else none) else (if pc < 102 then (if pc = 99 then some (.getfield 26, 102, 2, 6, [], .null) else none) else (if pc = 102 then some (.iload_n 3, 103, 3, 0, [], .null) else none)))))) else (if pc < 117 then (if pc < 110 then (if pc < 107 then (if pc < 104 then (if pc = 103 then some (.aload_n 0, 104, 0, 0, [], .null) else none) else (if pc = 104 then some (.getfield 15, 107, 2, 3, [], .null) else none)) else (if pc < 109 then (if pc = 107 then some (.iload 7, 109, 7, 0, [], .null) else none) else (if pc = 109 then some (.laload, 110, 0, 0, [], .null) else none))) else (if pc < 112 then (if pc < 111 then (if pc = 110 then some (.lastore, 111, 0, 0, [], .null) else none) else (if pc = 111 then some (.aload_n 0, 112, 0, 0, [], .null) else none)) else (if pc < 115 then (if pc = 112 then some (.getfield 26, 115, 2, 6, [], .null) else none) else (if pc < 116 then (if pc = 115 then some (.iload_n 3, 116, 3, 0, [], .null) else none) else (if pc = 116 then some (.iconst 1, 117, 0, 0, [], .int 1) else none))))) else (if pc < 125 then (if pc < 119 then (if pc < 118 then (if pc = 117 then some (.iadd, 118, 0, 0, [], .null) else none) else (if pc = 118 then some (.aload_n 0, 119, 0, 0, [], .null) else none)) else (if pc < 122 then (if pc = 119 then some (.getfield 9, 122, 2, 2, [], .null) else none) else (if pc < 124 then (if pc = 122 then some (.iload 7, 124, 7, 0, [], .null) else none) else (if pc = 124 then some (.laload, 125, 0, 0, [], .null) else none)))) else (if pc < 129 then (if pc < 126 then (if pc = 125 then some (.lastore, 126, 0, 0, [], .null) else none) else (if pc = 126 then some (.iinc 3 2, 129, 3, 0, [], .int 2) else none)) else (if pc < 132 then (if pc = 129 then some (.iinc 4 1, 132, 4, 0, [], .int 1) else none) else (if pc < 135 then (if pc = 132 then some (.goto (-120), 135, 12, 0, [], .null) else none) else (if pc = 135 then some (.return_, 136, 0, 0, [], .null) else none)))))))) else none
set_option maxRecDepth 20000 in
def cdX1_takeBack : PCode := fun pc => if pc < 56 then (if pc < 30 then (if pc < 14 then (if pc < 8 then (if pc < 2 then (if pc < 1 then (if pc = 0 then some (.aload_n 0, 1, 0, 0, [], .null) else none) else (if pc = 1 then some (.iconst 0, 2, 0, 0, [], .int 0) else none)) else (if pc < 5 then (if pc = 2 then some (.putfield 80, 5, 2, 7, [], .null) else none) else (if pc = 5 then some (.sipush 1999, 8, 0, 0, [], .int 1999) else none))) else (if pc < 10 then (if pc < 9 then (if pc = 8 then some (.istore_n 1, 9, 1, 0, [], .null) else none) else (if pc = 9 then some (.iload_n 1, 10, 1, 0, [], .null) else none)) else (if pc < 13 then (if pc = 10 then some (.ifCond .lt 45, 13, 55, 0, [], .null) else none) else (if pc = 13 then some (.aload_n 0, 14, 0, 0, [], .null) else none)))) else (if pc < 22 then (if pc < 18 then (if pc < 17 then (if pc = 14 then some (.getfield 18, 17, 2, 4, [], .null) else none) else (if pc = 17 then some (.iload_n 1, 18, 1, 0, [], .null) else none)) else (if pc < 19 then (if pc = 18 then some (.baload, 19, 0, 0, [], .null) else none) else (if pc = 19 then some (.ifCond .ne 23, 22, 42, 0, [], .null) else none))) else (if pc < 26 then (if pc < 23 then (if pc = 22 then some (.aload_n 0, 23, 0, 0, [], .null) else none) else (if pc = 23 then some (.getfield 22, 26, 2, 5, [], .null) else none)) else (if pc < 27 then (if pc = 26 then some (.aload_n 0, 27, 0, 0, [], .null) else none) else (if pc = 27 then some (.getfield 80, 30, 2, 7, [], .null) else none))))) else (if pc < 42 then (if pc < 34 then (if pc < 32 then (if pc < 31 then (if pc = 30 then some (.iload_n 1, 31, 1, 0, [], .null) else none) else (if pc = 31 then some (.iastore, 32, 0, 0, [], .null) else none)) else (if pc < 33 then (if pc = 32 then some (.aload_n 0, 33, 0, 0, [], .null) else none) else (if pc = 33 then some (.dup, 34, 0, 0, [], .null) else none))) else (if pc < 38 then (if pc < 37 then (if pc = 34 then some (.getfield 80, 37, 2, 7, [], .null) else none) else (if pc = 37 then some (.iconst 1, 38, 0, 0, [], .int 1) else none)) else (if pc < 39 then (if pc = 38 then some (.iadd, 39, 0, 0, [], .null) else none) else (if pc = 39 then some (.putfield 80, 42, 2, 7, [], .null) else none)))) else (if pc < 48 then (if pc < 46 then (if pc < 43 then (if pc = 42 then some (.aload_n 0, 43, 0, 0, [], .null) else none) else (if pc = 43 then some (.getfield 18, 46, 2, 4, [], .null) else none)) else (if pc < 47 then (if pc = 46 then some (.iload_n 1, 47, 1, 0, [], .null) else none) else (if pc = 47 then some (.iconst 0, 48, 0, 0, [], .int 0) else none))) else (if pc < 52 then (if pc < 49 then (if pc = 48 then some (.bastore, 49, 0, 0, [], .null) else none) else (if pc = 49 then some (.iinc 1 (-1), 52, 1, 0, [], .int (-1)) else none)) else (if pc < 55 then (if pc = 52 then some (.goto (-43), 55, 9, 0, [], .null) else none) else (if pc = 55 then some (.return_, 56, 0, 0, [], .null) else none)))))) else none
set_option maxRecDepth 20000 in
def cdX2_fault : PCode := fun pc => if pc < 5 then (if pc < 1 then (if pc = 0 then some (.aload_n 0, 1, 0, 0, [], .null) else none) else (if pc < 4 then (if pc = 1 then some (.getfield 42, 4, 3, 10, [], .null) else none) else (if pc = 4 then some (.ireturn, 5, 0, 0, [], .null) else none))) else none
set_option maxRecDepth 20000 in
def cdX2_answer : PCode := fun pc => if pc < 5 then (if pc < 1 then (if pc = 0 then some (.aload_n 0, 1, 0, 0, [], .null) else none) else (if pc < 4 then (if pc = 1 then some (.getfield 46, 4, 3, 12, [], .null) else none) else (if pc = 4 then some (.lreturn, 5, 0, 0, [], .null) else none))) else none
set_option maxRecDepth 20000 in
def cdX2_fuelTaken : PCode := fun pc => if pc < 5 then (if pc < 1 then (if pc = 0 then some (.aload_n 0, 1, 0, 0, [], .null) else none) else (if pc < 4 then (if pc = 1 then some (.getfield 50, 4, 3, 9, [], .null) else none) else (if pc = 4 then some (.ireturn, 5, 0, 0, [], .null) else none))) else none
set_option maxRecDepth 20000 in
def cdX2_mostFrames : PCode := fun pc => if pc < 5 then (if pc < 1 then (if pc = 0 then some (.aload_n 0, 1, 0, 0, [], .null) else none) else (if pc < 4 then (if pc = 1 then some (.getfield 53, 4, 3, 7, [], .null) else none) else (if pc = 4 then some (.ireturn, 5, 0, 0, [], .null) else none))) else none
set_option maxRecDepth 20000 in
def cdX2_forget : PCode := fun pc => if pc < 16 then (if pc < 7 then (if pc < 2 then (if pc < 1 then (if pc = 0 then some (.aload_n 0, 1, 0, 0, [], .null) else none) else (if pc = 1 then some (.iconst 0, 2, 0, 0, [], .int 0) else none)) else (if pc < 5 then (if pc = 2 then some (.putfield 42, 5, 3, 10, [], .null) else none) else (if pc < 6 then (if pc = 5 then some (.aload_n 0, 6, 0, 0, [], .null) else none) else (if pc = 6 then some (.iconst 0, 7, 0, 0, [], .int 0) else none)))) else (if pc < 11 then (if pc < 10 then (if pc = 7 then some (.putfield 50, 10, 3, 9, [], .null) else none) else (if pc = 10 then some (.aload_n 0, 11, 0, 0, [], .null) else none)) else (if pc < 12 then (if pc = 11 then some (.iconst 0, 12, 0, 0, [], .int 0) else none) else (if pc < 15 then (if pc = 12 then some (.putfield 53, 15, 3, 7, [], .null) else none) else (if pc = 15 then some (.return_, 16, 0, 0, [], .null) else none))))) else none
set_option maxRecDepth 20000 in
def cdX2_run : PCode := fun pc => if pc < 119 then (if pc < 58 then (if pc < 26 then (if pc < 13 then (if pc < 5 then (if pc < 1 then (if pc = 0 then some (.aload_n 0, 1, 0, 0, [], .null) else none) else (if pc < 4 then (if pc = 1 then some (.getfield 28, 4, 3, 1, [], .null) else none) else (if pc = 4 then some (.lload_n 1, 5, 1, 0, [], .null) else none))) else (if pc < 9 then (if pc < 8 then (if pc = 5 then some (.putfield 56, 8, 6, 4, [], .null) else none) else (if pc = 8 then some (.aload_n 0, 9, 0, 0, [], .null) else none)) else (if pc < 10 then (if pc = 9 then some (.iload_n 3, 10, 3, 0, [], .null) else none) else (if pc = 10 then some (.putfield 59, 13, 3, 8, [], .null) else none)))) else (if pc < 18 then (if pc < 14 then (if pc = 13 then some (.aload_n 0, 14, 0, 0, [], .null) else none) else (if pc < 15 then (if pc = 14 then some (.iconst 1, 15, 0, 0, [], .int 1) else none) else (if pc = 15 then some (.putfield 62, 18, 3, 11, [], .null) else none))) else (if pc < 21 then (if pc < 19 then (if pc = 18 then some (.iconst 0, 19, 0, 0, [], .int 0) else none) else (if pc = 19 then some (.istore 4, 21, 4, 0, [], .null) else none)) else (if pc < 23 then (if pc = 21 then some (.iload 4, 23, 4, 0, [], .null) else none) else (if pc = 23 then some (.sipush 20000, 26, 0, 0, [], .int 20000) else none))))) else (if pc < 43 then (if pc < 33 then (if pc < 29 then (if pc = 26 then some (.if_icmp .gt 78, 29, 104, 0, [], .null) else none) else (if pc < 30 then (if pc = 29 then some (.aload_n 0, 30, 0, 0, [], .null) else none) else (if pc = 30 then some (.getfield 62, 33, 3, 11, [], .null) else none))) else (if pc < 37 then (if pc < 36 then (if pc = 33 then some (.ifCond .eq 71, 36, 104, 0, [], .null) else none) else (if pc = 36 then some (.aload_n 0, 37, 0, 0, [], .null) else none)) else (if pc < 40 then (if pc = 37 then some (.invokevirtual 65, 40, 25, 1, [], .null) else none) else (if pc = 40 then some (.ifCond .eq 64, 43, 104, 0, [], .null) else none)))) else (if pc < 48 then (if pc < 44 then (if pc = 43 then some (.aload_n 0, 44, 0, 0, [], .null) else none) else (if pc < 47 then (if pc = 44 then some (.getfield 62, 47, 3, 11, [], .null) else none) else (if pc = 47 then some (.iconst 1, 48, 0, 0, [], .int 1) else none))) else (if pc < 52 then (if pc < 51 then (if pc = 48 then some (.if_icmp .ne 10, 51, 58, 0, [], .null) else none) else (if pc = 51 then some (.aload_n 0, 52, 0, 0, [], .null) else none)) else (if pc < 55 then (if pc = 52 then some (.invokevirtual 69, 55, 34, 1, [], .null) else none) else (if pc = 55 then some (.goto 43, 58, 98, 0, [], .null) else none)))))) else (if pc < 88 then (if pc < 73 then (if pc < 63 then (if pc < 59 then (if pc = 58 then some (.aload_n 0, 59, 0, 0, [], .null) else none) else (if pc < 62 then (if pc = 59 then some (.getfield 62, 62, 3, 11, [], .null) else none) else (if pc = 62 then some (.iconst 2, 63, 0, 0, [], .int 2) else none))) else (if pc < 67 then (if pc < 66 then (if pc = 63 then some (.if_icmp .ne 10, 66, 73, 0, [], .null) else none) else (if pc = 66 then some (.aload_n 0, 67, 0, 0, [], .null) else none)) else (if pc < 70 then (if pc = 67 then some (.invokevirtual 72, 70, 41, 1, [], .null) else none) else (if pc = 70 then some (.goto 28, 73, 98, 0, [], .null) else none)))) else (if pc < 78 then (if pc < 74 then (if pc = 73 then some (.aload_n 0, 74, 0, 0, [], .null) else none) else (if pc < 75 then (if pc = 74 then some (.aload_n 0, 75, 0, 0, [], .null) else none) else (if pc = 75 then some (.getfield 28, 78, 3, 1, [], .null) else none))) else (if pc < 84 then (if pc < 81 then (if pc = 78 then some (.getfield 75, 81, 6, 6, [], .null) else none) else (if pc = 81 then some (.invokevirtual 78, 84, 45, 2, [], .null) else none)) else (if pc < 87 then (if pc = 84 then some (.ifCond .eq 10, 87, 94, 0, [], .null) else none) else (if pc = 87 then some (.aload_n 0, 88, 0, 0, [], .null) else none))))) else (if pc < 105 then (if pc < 95 then (if pc < 91 then (if pc = 88 then some (.invokevirtual 82, 91, 53, 1, [], .null) else none) else (if pc < 94 then (if pc = 91 then some (.goto 7, 94, 98, 0, [], .null) else none) else (if pc = 94 then some (.aload_n 0, 95, 0, 0, [], .null) else none))) else (if pc < 101 then (if pc < 98 then (if pc = 95 then some (.invokevirtual 85, 98, 46, 1, [], .null) else none) else (if pc = 98 then some (.iinc 4 1, 101, 4, 0, [], .int 1) else none)) else (if pc < 104 then (if pc = 101 then some (.goto (-80), 104, 21, 0, [], .null) else none) else (if pc = 104 then some (.aload_n 0, 105, 0, 0, [], .null) else none)))) else (if pc < 111 then (if pc < 107 then (if pc < 106 then (if pc = 105 then some (.iload_n 3, 106, 3, 0, [], .null) else none) else (if pc = 106 then some (.aload_n 0, 107, 0, 0, [], .null) else none)) else (if pc < 110 then (if pc = 107 then some (.getfield 59, 110, 3, 8, [], .null) else none) else (if pc = 110 then some (.isub, 111, 0, 0, [], .null) else none))) else (if pc < 115 then (if pc < 114 then (if pc = 111 then some (.putfield 50, 114, 3, 9, [], .null) else none) else (if pc = 114 then some (.aload_n 0, 115, 0, 0, [], .null) else none)) else (if pc < 118 then (if pc = 115 then some (.invokevirtual 88, 118, 22, 1, [], .null) else none) else (if pc = 118 then some (.return_, 119, 0, 0, [], .null) else none))))))) else none
set_option maxRecDepth 20000 in
def cdX2_letGo : PCode := fun pc => if pc < 34 then (if pc < 17 then (if pc < 8 then (if pc < 4 then (if pc < 1 then (if pc = 0 then some (.aload_n 0, 1, 0, 0, [], .null) else none) else (if pc = 1 then some (.getfield 28, 4, 3, 1, [], .null) else none)) else (if pc < 5 then (if pc = 4 then some (.lconst 0, 5, 0, 0, [], .long 0) else none) else (if pc = 5 then some (.putfield 56, 8, 6, 4, [], .null) else none))) else (if pc < 12 then (if pc < 9 then (if pc = 8 then some (.aload_n 0, 9, 0, 0, [], .null) else none) else (if pc = 9 then some (.getfield 28, 12, 3, 1, [], .null) else none)) else (if pc < 13 then (if pc = 12 then some (.lconst 0, 13, 0, 0, [], .long 0) else none) else (if pc < 16 then (if pc = 13 then some (.putfield 91, 16, 6, 5, [], .null) else none) else (if pc = 16 then some (.aload_n 0, 17, 0, 0, [], .null) else none))))) else (if pc < 25 then (if pc < 21 then (if pc < 20 then (if pc = 17 then some (.getfield 41, 20, 3, 3, [], .null) else none) else (if pc = 20 then some (.iconst 0, 21, 0, 0, [], .int 0) else none)) else (if pc < 24 then (if pc = 21 then some (.invokevirtual 94, 24, 87, 2, [], .null) else none) else (if pc = 24 then some (.aload_n 0, 25, 0, 0, [], .null) else none))) else (if pc < 29 then (if pc < 26 then (if pc = 25 then some (.iconst 0, 26, 0, 0, [], .int 0) else none) else (if pc = 26 then some (.putfield 97, 29, 3, 6, [], .null) else none)) else (if pc < 30 then (if pc = 29 then some (.aload_n 0, 30, 0, 0, [], .null) else none) else (if pc < 33 then (if pc = 30 then some (.invokevirtual 100, 33, 23, 1, [], .null) else none) else (if pc = 33 then some (.return_, 34, 0, 0, [], .null) else none)))))) else none
set_option maxRecDepth 20000 in
def cdX2_emptyHand : PCode := fun pc => if pc < 17 then (if pc < 8 then (if pc < 4 then (if pc < 1 then (if pc = 0 then some (.aload_n 0, 1, 0, 0, [], .null) else none) else (if pc = 1 then some (.getfield 28, 4, 3, 1, [], .null) else none)) else (if pc < 5 then (if pc = 4 then some (.lconst 0, 5, 0, 0, [], .long 0) else none) else (if pc = 5 then some (.putfield 75, 8, 6, 6, [], .null) else none))) else (if pc < 12 then (if pc < 9 then (if pc = 8 then some (.aload_n 0, 9, 0, 0, [], .null) else none) else (if pc = 9 then some (.getfield 37, 12, 3, 2, [], .null) else none)) else (if pc < 13 then (if pc = 12 then some (.iconst 0, 13, 0, 0, [], .int 0) else none) else (if pc < 16 then (if pc = 13 then some (.invokevirtual 94, 16, 87, 2, [], .null) else none) else (if pc = 16 then some (.return_, 17, 0, 0, [], .null) else none))))) else none
set_option maxRecDepth 20000 in
def cdX2_fail : PCode := fun pc => if pc < 18 then (if pc < 9 then (if pc < 4 then (if pc < 1 then (if pc = 0 then some (.aload_n 0, 1, 0, 0, [], .null) else none) else (if pc = 1 then some (.getfield 42, 4, 3, 10, [], .null) else none)) else (if pc < 7 then (if pc = 4 then some (.ifCond .ne 8, 7, 12, 0, [], .null) else none) else (if pc < 8 then (if pc = 7 then some (.aload_n 0, 8, 0, 0, [], .null) else none) else (if pc = 8 then some (.iload_n 1, 9, 1, 0, [], .null) else none)))) else (if pc < 13 then (if pc < 12 then (if pc = 9 then some (.putfield 42, 12, 3, 10, [], .null) else none) else (if pc = 12 then some (.aload_n 0, 13, 0, 0, [], .null) else none)) else (if pc < 14 then (if pc = 13 then some (.iconst 0, 14, 0, 0, [], .int 0) else none) else (if pc < 17 then (if pc = 14 then some (.putfield 62, 17, 3, 11, [], .null) else none) else (if pc = 17 then some (.return_, 18, 0, 0, [], .null) else none))))) else none
set_option maxRecDepth 20000 in
def cdX2_burn : PCode := fun pc => if pc < 27 then (if pc < 15 then (if pc < 8 then (if pc < 4 then (if pc < 1 then (if pc = 0 then some (.aload_n 0, 1, 0, 0, [], .null) else none) else (if pc = 1 then some (.getfield 59, 4, 3, 8, [], .null) else none)) else (if pc < 7 then (if pc = 4 then some (.ifCond .gt 11, 7, 15, 0, [], .null) else none) else (if pc = 7 then some (.aload_n 0, 8, 0, 0, [], .null) else none))) else (if pc < 13 then (if pc < 10 then (if pc = 8 then some (.bipush 7, 10, 0, 0, [], .int 7) else none) else (if pc = 10 then some (.invokevirtual 103, 13, 24, 2, [], .null) else none)) else (if pc < 14 then (if pc = 13 then some (.iconst 0, 14, 0, 0, [], .int 0) else none) else (if pc = 14 then some (.ireturn, 15, 0, 0, [], .null) else none)))) else (if pc < 21 then (if pc < 17 then (if pc < 16 then (if pc = 15 then some (.aload_n 0, 16, 0, 0, [], .null) else none) else (if pc = 16 then some (.dup, 17, 0, 0, [], .null) else none)) else (if pc < 20 then (if pc = 17 then some (.getfield 59, 20, 3, 8, [], .null) else none) else (if pc = 20 then some (.iconst 1, 21, 0, 0, [], .int 1) else none))) else (if pc < 25 then (if pc < 22 then (if pc = 21 then some (.isub, 22, 0, 0, [], .null) else none) else (if pc = 22 then some (.putfield 59, 25, 3, 8, [], .null) else none)) else (if pc < 26 then (if pc = 25 then some (.iconst 1, 26, 0, 0, [], .int 1) else none) else (if pc = 26 then some (.ireturn, 27, 0, 0, [], .null) else none))))) else none
set_option maxRecDepth 20000 in
def cdX2_give : PCode := fun pc => if pc < 22 then (if pc < 12 then (if pc < 7 then (if pc < 1 then (if pc = 0 then some (.aload_n 0, 1, 0, 0, [], .null) else none) else (if pc < 4 then (if pc = 1 then some (.getfield 42, 4, 3, 10, [], .null) else none) else (if pc = 4 then some (.ifCond .ne 17, 7, 21, 0, [], .null) else none))) else (if pc < 8 then (if pc = 7 then some (.aload_n 0, 8, 0, 0, [], .null) else none) else (if pc < 11 then (if pc = 8 then some (.invokevirtual 100, 11, 23, 1, [], .null) else none) else (if pc = 11 then some (.aload_n 0, 12, 0, 0, [], .null) else none)))) else (if pc < 17 then (if pc < 13 then (if pc = 12 then some (.lload_n 1, 13, 1, 0, [], .null) else none) else (if pc < 16 then (if pc = 13 then some (.putfield 46, 16, 3, 12, [], .null) else none) else (if pc = 16 then some (.aload_n 0, 17, 0, 0, [], .null) else none))) else (if pc < 18 then (if pc = 17 then some (.iconst 2, 18, 0, 0, [], .int 2) else none) else (if pc < 21 then (if pc = 18 then some (.putfield 62, 21, 3, 11, [], .null) else none) else (if pc = 21 then some (.return_, 22, 0, 0, [], .null) else none))))) else none
set_option maxRecDepth 20000 in
def cdX2_evaluateNext : PCode := fun pc => if pc < 25 then (if pc < 12 then (if pc < 7 then (if pc < 1 then (if pc = 0 then some (.aload_n 0, 1, 0, 0, [], .null) else none) else (if pc < 4 then (if pc = 1 then some (.getfield 42, 4, 3, 10, [], .null) else none) else (if pc = 4 then some (.ifCond .ne 20, 7, 24, 0, [], .null) else none))) else (if pc < 8 then (if pc = 7 then some (.aload_n 0, 8, 0, 0, [], .null) else none) else (if pc < 11 then (if pc = 8 then some (.invokevirtual 100, 11, 23, 1, [], .null) else none) else (if pc = 11 then some (.aload_n 0, 12, 0, 0, [], .null) else none)))) else (if pc < 19 then (if pc < 15 then (if pc = 12 then some (.getfield 28, 15, 3, 1, [], .null) else none) else (if pc < 16 then (if pc = 15 then some (.lload_n 1, 16, 1, 0, [], .null) else none) else (if pc = 16 then some (.putfield 56, 19, 6, 4, [], .null) else none))) else (if pc < 21 then (if pc < 20 then (if pc = 19 then some (.aload_n 0, 20, 0, 0, [], .null) else none) else (if pc = 20 then some (.iconst 1, 21, 0, 0, [], .int 1) else none)) else (if pc < 24 then (if pc = 21 then some (.putfield 62, 24, 3, 11, [], .null) else none) else (if pc = 24 then some (.return_, 25, 0, 0, [], .null) else none))))) else none
set_option maxRecDepth 20000 in
def cdX2_askHead : PCode := fun pc => if pc < 23 then (if pc < 12 then (if pc < 7 then (if pc < 1 then (if pc = 0 then some (.lload_n 1, 1, 1, 0, [], .null) else none) else (if pc < 4 then (if pc = 1 then some (.invokestatic 106, 4, 97, 1, [], .null) else none) else (if pc = 4 then some (.ifCond .ne 10, 7, 14, 0, [], .null) else none))) else (if pc < 8 then (if pc = 7 then some (.aload_n 0, 8, 0, 0, [], .null) else none) else (if pc < 9 then (if pc = 8 then some (.iconst 5, 9, 0, 0, [], .int 5) else none) else (if pc = 9 then some (.invokevirtual 103, 12, 24, 2, [], .null) else none)))) else (if pc < 15 then (if pc < 13 then (if pc = 12 then some (.lconst 0, 13, 0, 0, [], .long 0) else none) else (if pc < 14 then (if pc = 13 then some (.lreturn, 14, 0, 0, [], .null) else none) else (if pc = 14 then some (.aload_n 0, 15, 0, 0, [], .null) else none))) else (if pc < 19 then (if pc < 18 then (if pc = 15 then some (.getfield 24, 18, 3, 0, [], .null) else none) else (if pc = 18 then some (.lload_n 1, 19, 1, 0, [], .null) else none)) else (if pc < 22 then (if pc = 19 then some (.invokevirtual 111, 22, 8, 2, [], .null) else none) else (if pc = 22 then some (.lreturn, 23, 0, 0, [], .null) else none))))) else none
set_option maxRecDepth 20000 in
def cdX2_askTail : PCode := fun pc => if pc < 23 then (if pc < 12 then (if pc < 7 then (if pc < 1 then (if pc = 0 then some (.lload_n 1, 1, 1, 0, [], .null) else none) else (if pc < 4 then (if pc = 1 then some (.invokestatic 106, 4, 97, 1, [], .null) else none) else (if pc = 4 then some (.ifCond .ne 10, 7, 14, 0, [], .null) else none))) else (if pc < 8 then (if pc = 7 then some (.aload_n 0, 8, 0, 0, [], .null) else none) else (if pc < 9 then (if pc = 8 then some (.iconst 5, 9, 0, 0, [], .int 5) else none) else (if pc = 9 then some (.invokevirtual 103, 12, 24, 2, [], .null) else none)))) else (if pc < 15 then (if pc < 13 then (if pc = 12 then some (.lconst 0, 13, 0, 0, [], .long 0) else none) else (if pc < 14 then (if pc = 13 then some (.lreturn, 14, 0, 0, [], .null) else none) else (if pc = 14 then some (.aload_n 0, 15, 0, 0, [], .null) else none))) else (if pc < 19 then (if pc < 18 then (if pc = 15 then some (.getfield 24, 18, 3, 0, [], .null) else none) else (if pc = 18 then some (.lload_n 1, 19, 1, 0, [], .null) else none)) else (if pc < 22 then (if pc = 19 then some (.invokevirtual 117, 22, 9, 2, [], .null) else none) else (if pc = 22 then some (.lreturn, 23, 0, 0, [], .null) else none))))) else none
set_option maxRecDepth 20000 in
def cdX2_askSecond : PCode := fun pc => if pc < 10 then (if pc < 3 then (if pc < 1 then (if pc = 0 then some (.aload_n 0, 1, 0, 0, [], .null) else none) else (if pc < 2 then (if pc = 1 then some (.aload_n 0, 2, 0, 0, [], .null) else none) else (if pc = 2 then some (.lload_n 1, 3, 1, 0, [], .null) else none))) else (if pc < 6 then (if pc = 3 then some (.invokevirtual 120, 6, 29, 2, [], .null) else none) else (if pc < 9 then (if pc = 6 then some (.invokevirtual 123, 9, 28, 2, [], .null) else none) else (if pc = 9 then some (.lreturn, 10, 0, 0, [], .null) else none)))) else none
set_option maxRecDepth 20000 in
def cdX2_askThird : PCode := fun pc => if pc < 14 then (if pc < 4 then (if pc < 2 then (if pc < 1 then (if pc = 0 then some (.aload_n 0, 1, 0, 0, [], .null) else none) else (if pc = 1 then some (.aload_n 0, 2, 0, 0, [], .null) else none)) else (if pc < 3 then (if pc = 2 then some (.aload_n 0, 3, 0, 0, [], .null) else none) else (if pc = 3 then some (.lload_n 1, 4, 1, 0, [], .null) else none))) else (if pc < 10 then (if pc < 7 then (if pc = 4 then some (.invokevirtual 120, 7, 29, 2, [], .null) else none) else (if pc = 7 then some (.invokevirtual 120, 10, 29, 2, [], .null) else none)) else (if pc < 13 then (if pc = 10 then some (.invokevirtual 123, 13, 28, 2, [], .null) else none) else (if pc = 13 then some (.lreturn, 14, 0, 0, [], .null) else none)))) else none
set_option maxRecDepth 20000 in
def cdX2_cons : PCode := fun pc => if pc < 38 then (if pc < 18 then (if pc < 9 then (if pc < 4 then (if pc < 1 then (if pc = 0 then some (.aload_n 0, 1, 0, 0, [], .null) else none) else (if pc = 1 then some (.getfield 42, 4, 3, 10, [], .null) else none)) else (if pc < 7 then (if pc = 4 then some (.ifCond .eq 5, 7, 9, 0, [], .null) else none) else (if pc < 8 then (if pc = 7 then some (.lconst 0, 8, 0, 0, [], .long 0) else none) else (if pc = 8 then some (.lreturn, 9, 0, 0, [], .null) else none)))) else (if pc < 13 then (if pc < 10 then (if pc = 9 then some (.aload_n 0, 10, 0, 0, [], .null) else none) else (if pc = 10 then some (.getfield 24, 13, 3, 0, [], .null) else none)) else (if pc < 14 then (if pc = 13 then some (.lload_n 1, 14, 1, 0, [], .null) else none) else (if pc < 15 then (if pc = 14 then some (.lload_n 3, 15, 3, 0, [], .null) else none) else (if pc = 15 then some (.invokevirtual 126, 18, 10, 3, [], .null) else none))))) else (if pc < 29 then (if pc < 22 then (if pc < 20 then (if pc = 18 then some (.lstore 5, 20, 5, 0, [], .null) else none) else (if pc = 20 then some (.lload 5, 22, 5, 0, [], .null) else none)) else (if pc < 25 then (if pc = 22 then some (.ldc2_w 130, 25, 0, 0, [], .long (-1)) else none) else (if pc < 26 then (if pc = 25 then some (.lcmp, 26, 0, 0, [], .null) else none) else (if pc = 26 then some (.ifCond .ne 9, 29, 35, 0, [], .null) else none)))) else (if pc < 32 then (if pc < 30 then (if pc = 29 then some (.aload_n 0, 30, 0, 0, [], .null) else none) else (if pc = 30 then some (.bipush 8, 32, 0, 0, [], .int 8) else none)) else (if pc < 35 then (if pc = 32 then some (.invokevirtual 103, 35, 24, 2, [], .null) else none) else (if pc < 37 then (if pc = 35 then some (.lload 5, 37, 5, 0, [], .null) else none) else (if pc = 37 then some (.lreturn, 38, 0, 0, [], .null) else none)))))) else none
set_option maxRecDepth 20000 in
def cdX2_lookUp : PCode := fun pc => if pc < 109 then (if pc < 58 then (if pc < 27 then (if pc < 11 then (if pc < 7 then (if pc < 1 then (if pc = 0 then some (.aload_n 0, 1, 0, 0, [], .null) else none) else (if pc < 4 then (if pc = 1 then some (.getfield 28, 4, 3, 1, [], .null) else none) else (if pc = 4 then some (.getfield 91, 7, 6, 5, [], .null) else none))) else (if pc < 8 then (if pc = 7 then some (.lstore_n 3, 8, 3, 0, [], .null) else none) else (if pc < 9 then (if pc = 8 then some (.iconst 0, 9, 0, 0, [], .int 0) else none) else (if pc = 9 then some (.istore 5, 11, 5, 0, [], .null) else none)))) else (if pc < 19 then (if pc < 13 then (if pc = 11 then some (.iload 5, 13, 5, 0, [], .null) else none) else (if pc < 16 then (if pc = 13 then some (.sipush 20000, 16, 0, 0, [], .int 20000) else none) else (if pc = 16 then some (.if_icmp .gt 78, 19, 94, 0, [], .null) else none))) else (if pc < 23 then (if pc < 20 then (if pc = 19 then some (.lload_n 3, 20, 3, 0, [], .null) else none) else (if pc = 20 then some (.invokestatic 106, 23, 97, 1, [], .null) else none)) else (if pc < 26 then (if pc = 23 then some (.ifCond .eq 71, 26, 94, 0, [], .null) else none) else (if pc = 26 then some (.aload_n 0, 27, 0, 0, [], .null) else none))))) else (if pc < 43 then (if pc < 34 then (if pc < 30 then (if pc = 27 then some (.invokevirtual 65, 30, 25, 1, [], .null) else none) else (if pc < 33 then (if pc = 30 then some (.ifCond .eq 64, 33, 94, 0, [], .null) else none) else (if pc = 33 then some (.aload_n 0, 34, 0, 0, [], .null) else none))) else (if pc < 38 then (if pc < 37 then (if pc = 34 then some (.getfield 24, 37, 3, 0, [], .null) else none) else (if pc = 37 then some (.lload_n 3, 38, 3, 0, [], .null) else none)) else (if pc < 41 then (if pc = 38 then some (.invokevirtual 111, 41, 8, 2, [], .null) else none) else (if pc = 41 then some (.lstore 6, 43, 6, 0, [], .null) else none)))) else (if pc < 49 then (if pc < 44 then (if pc = 43 then some (.aload_n 0, 44, 0, 0, [], .null) else none) else (if pc < 46 then (if pc = 44 then some (.lload 6, 46, 6, 0, [], .null) else none) else (if pc = 46 then some (.invokevirtual 123, 49, 28, 2, [], .null) else none))) else (if pc < 52 then (if pc < 51 then (if pc = 49 then some (.lstore 8, 51, 8, 0, [], .null) else none) else (if pc = 51 then some (.aload_n 0, 52, 0, 0, [], .null) else none)) else (if pc < 55 then (if pc = 52 then some (.getfield 42, 55, 3, 10, [], .null) else none) else (if pc = 55 then some (.ifCond .eq 7, 58, 62, 0, [], .null) else none)))))) else (if pc < 83 then (if pc < 69 then (if pc < 64 then (if pc < 61 then (if pc = 58 then some (.ldc2_w 130, 61, 0, 0, [], .long (-1)) else none) else (if pc < 62 then (if pc = 61 then some (.lreturn, 62, 0, 0, [], .null) else none) else (if pc = 62 then some (.lload 8, 64, 8, 0, [], .null) else none))) else (if pc < 65 then (if pc = 64 then some (.lload_n 1, 65, 1, 0, [], .null) else none) else (if pc < 66 then (if pc = 65 then some (.lcmp, 66, 0, 0, [], .null) else none) else (if pc = 66 then some (.ifCond .ne 13, 69, 79, 0, [], .null) else none)))) else (if pc < 75 then (if pc < 70 then (if pc = 69 then some (.aload_n 0, 70, 0, 0, [], .null) else none) else (if pc < 73 then (if pc = 70 then some (.getfield 24, 73, 3, 0, [], .null) else none) else (if pc = 73 then some (.lload 6, 75, 6, 0, [], .null) else none))) else (if pc < 79 then (if pc < 78 then (if pc = 75 then some (.invokevirtual 117, 78, 9, 2, [], .null) else none) else (if pc = 78 then some (.lreturn, 79, 0, 0, [], .null) else none)) else (if pc < 80 then (if pc = 79 then some (.aload_n 0, 80, 0, 0, [], .null) else none) else (if pc = 80 then some (.getfield 24, 83, 3, 0, [], .null) else none))))) else (if pc < 96 then (if pc < 88 then (if pc < 84 then (if pc = 83 then some (.lload_n 3, 84, 3, 0, [], .null) else none) else (if pc < 87 then (if pc = 84 then some (.invokevirtual 117, 87, 9, 2, [], .null) else none) else (if pc = 87 then some (.lstore_n 3, 88, 3, 0, [], .null) else none))) else (if pc < 94 then (if pc < 91 then (if pc = 88 then some (.iinc 5 1, 91, 5, 0, [], .int 1) else none) else (if pc = 91 then some (.goto (-80), 94, 11, 0, [], .null) else none)) else (if pc < 95 then (if pc = 94 then some (.lload_n 3, 95, 3, 0, [], .null) else none) else (if pc = 95 then some (.lconst 0, 96, 0, 0, [], .long 0) else none)))) else (if pc < 101 then (if pc < 97 then (if pc = 96 then some (.lcmp, 97, 0, 0, [], .null) else none) else (if pc < 100 then (if pc = 97 then some (.ifCond .eq 8, 100, 105, 0, [], .null) else none) else (if pc = 100 then some (.aload_n 0, 101, 0, 0, [], .null) else none))) else (if pc < 105 then (if pc < 102 then (if pc = 101 then some (.iconst 5, 102, 0, 0, [], .int 5) else none) else (if pc = 102 then some (.invokevirtual 103, 105, 24, 2, [], .null) else none)) else (if pc < 108 then (if pc = 105 then some (.ldc2_w 130, 108, 0, 0, [], .long (-1)) else none) else (if pc = 108 then some (.lreturn, 109, 0, 0, [], .null) else none))))))) else none
set_option maxRecDepth 20000 in
def cdX2_evaluate : PCode := fun pc => if pc < 107 then (if pc < 51 then (if pc < 25 then (if pc < 12 then (if pc < 7 then (if pc < 1 then (if pc = 0 then some (.aload_n 0, 1, 0, 0, [], .null) else none) else (if pc < 4 then (if pc = 1 then some (.getfield 28, 4, 3, 1, [], .null) else none) else (if pc = 4 then some (.getfield 56, 7, 6, 4, [], .null) else none))) else (if pc < 8 then (if pc = 7 then some (.lstore_n 1, 8, 1, 0, [], .null) else none) else (if pc < 9 then (if pc = 8 then some (.lload_n 1, 9, 1, 0, [], .null) else none) else (if pc = 9 then some (.invokestatic 106, 12, 97, 1, [], .null) else none)))) else (if pc < 17 then (if pc < 15 then (if pc = 12 then some (.ifCond .ne 9, 15, 21, 0, [], .null) else none) else (if pc < 16 then (if pc = 15 then some (.aload_n 0, 16, 0, 0, [], .null) else none) else (if pc = 16 then some (.lload_n 1, 17, 1, 0, [], .null) else none))) else (if pc < 21 then (if pc < 20 then (if pc = 17 then some (.invokevirtual 132, 20, 35, 2, [], .null) else none) else (if pc = 20 then some (.return_, 21, 0, 0, [], .null) else none)) else (if pc < 22 then (if pc = 21 then some (.aload_n 0, 22, 0, 0, [], .null) else none) else (if pc = 22 then some (.getfield 24, 25, 3, 0, [], .null) else none))))) else (if pc < 38 then (if pc < 30 then (if pc < 26 then (if pc = 25 then some (.lload_n 1, 26, 1, 0, [], .null) else none) else (if pc < 29 then (if pc = 26 then some (.invokevirtual 111, 29, 8, 2, [], .null) else none) else (if pc = 29 then some (.lstore_n 3, 30, 3, 0, [], .null) else none))) else (if pc < 34 then (if pc < 31 then (if pc = 30 then some (.lload_n 3, 31, 3, 0, [], .null) else none) else (if pc = 31 then some (.ldc2_w 136, 34, 0, 0, [], .long 2) else none)) else (if pc < 35 then (if pc = 34 then some (.lcmp, 35, 0, 0, [], .null) else none) else (if pc = 35 then some (.ifCond .ne 15, 38, 50, 0, [], .null) else none)))) else (if pc < 41 then (if pc < 39 then (if pc = 38 then some (.aload_n 0, 39, 0, 0, [], .null) else none) else (if pc < 40 then (if pc = 39 then some (.aload_n 0, 40, 0, 0, [], .null) else none) else (if pc = 40 then some (.lload_n 1, 41, 1, 0, [], .null) else none))) else (if pc < 47 then (if pc < 44 then (if pc = 41 then some (.invokevirtual 138, 44, 30, 2, [], .null) else none) else (if pc = 44 then some (.invokevirtual 141, 47, 26, 2, [], .null) else none)) else (if pc < 50 then (if pc = 47 then some (.goto 59, 50, 106, 0, [], .null) else none) else (if pc = 50 then some (.lload_n 3, 51, 3, 0, [], .null) else none)))))) else (if pc < 81 then (if pc < 64 then (if pc < 58 then (if pc < 54 then (if pc = 51 then some (.ldc2_w 144, 54, 0, 0, [], .long 3) else none) else (if pc < 55 then (if pc = 54 then some (.lcmp, 55, 0, 0, [], .null) else none) else (if pc = 55 then some (.ifCond .ne 18, 58, 73, 0, [], .null) else none))) else (if pc < 60 then (if pc < 59 then (if pc = 58 then some (.aload_n 0, 59, 0, 0, [], .null) else none) else (if pc = 59 then some (.aload_n 0, 60, 0, 0, [], .null) else none)) else (if pc < 63 then (if pc = 60 then some (.getfield 24, 63, 3, 0, [], .null) else none) else (if pc = 63 then some (.lload_n 1, 64, 1, 0, [], .null) else none)))) else (if pc < 73 then (if pc < 67 then (if pc = 64 then some (.invokevirtual 117, 67, 9, 2, [], .null) else none) else (if pc < 70 then (if pc = 67 then some (.invokevirtual 146, 70, 36, 2, [], .null) else none) else (if pc = 70 then some (.goto 36, 73, 106, 0, [], .null) else none))) else (if pc < 77 then (if pc < 74 then (if pc = 73 then some (.lload_n 3, 74, 3, 0, [], .null) else none) else (if pc = 74 then some (.ldc2_w 149, 77, 0, 0, [], .long 4) else none)) else (if pc < 78 then (if pc = 77 then some (.lcmp, 78, 0, 0, [], .null) else none) else (if pc = 78 then some (.ifCond .ne 15, 81, 93, 0, [], .null) else none))))) else (if pc < 94 then (if pc < 84 then (if pc < 82 then (if pc = 81 then some (.aload_n 0, 82, 0, 0, [], .null) else none) else (if pc < 83 then (if pc = 82 then some (.aload_n 0, 83, 0, 0, [], .null) else none) else (if pc = 83 then some (.lload_n 1, 84, 1, 0, [], .null) else none))) else (if pc < 90 then (if pc < 87 then (if pc = 84 then some (.invokevirtual 138, 87, 30, 2, [], .null) else none) else (if pc = 87 then some (.invokevirtual 151, 90, 37, 2, [], .null) else none)) else (if pc < 93 then (if pc = 90 then some (.goto 16, 93, 106, 0, [], .null) else none) else (if pc = 93 then some (.aload_n 0, 94, 0, 0, [], .null) else none)))) else (if pc < 99 then (if pc < 95 then (if pc = 94 then some (.lload_n 3, 95, 3, 0, [], .null) else none) else (if pc < 96 then (if pc = 95 then some (.aload_n 0, 96, 0, 0, [], .null) else none) else (if pc = 96 then some (.getfield 24, 99, 3, 0, [], .null) else none))) else (if pc < 103 then (if pc < 100 then (if pc = 99 then some (.lload_n 1, 100, 1, 0, [], .null) else none) else (if pc = 100 then some (.invokevirtual 117, 103, 9, 2, [], .null) else none)) else (if pc < 106 then (if pc = 103 then some (.invokevirtual 154, 106, 38, 3, [], .null) else none) else (if pc = 106 then some (.return_, 107, 0, 0, [], .null) else none))))))) else none
set_option maxRecDepth 20000 in
def cdX2_evaluateAtom : PCode := fun pc => if pc < 54 then (if pc < 25 then (if pc < 13 then (if pc < 7 then (if pc < 1 then (if pc = 0 then some (.lload_n 1, 1, 1, 0, [], .null) else none) else (if pc < 4 then (if pc = 1 then some (.invokestatic 158, 4, 95, 1, [], .null) else none) else (if pc = 4 then some (.ifCond .eq 15, 7, 19, 0, [], .null) else none))) else (if pc < 9 then (if pc < 8 then (if pc = 7 then some (.lload_n 1, 8, 1, 0, [], .null) else none) else (if pc = 8 then some (.lconst 0, 9, 0, 0, [], .long 0) else none)) else (if pc < 10 then (if pc = 9 then some (.lcmp, 10, 0, 0, [], .null) else none) else (if pc = 10 then some (.ifCond .eq 9, 13, 19, 0, [], .null) else none)))) else (if pc < 19 then (if pc < 15 then (if pc < 14 then (if pc = 13 then some (.lload_n 1, 14, 1, 0, [], .null) else none) else (if pc = 14 then some (.lconst 1, 15, 0, 0, [], .long 1) else none)) else (if pc < 16 then (if pc = 15 then some (.lcmp, 16, 0, 0, [], .null) else none) else (if pc = 16 then some (.ifCond .ne 9, 19, 25, 0, [], .null) else none))) else (if pc < 21 then (if pc < 20 then (if pc = 19 then some (.aload_n 0, 20, 0, 0, [], .null) else none) else (if pc = 20 then some (.lload_n 1, 21, 1, 0, [], .null) else none)) else (if pc < 24 then (if pc = 21 then some (.invokevirtual 141, 24, 26, 2, [], .null) else none) else (if pc = 24 then some (.return_, 25, 0, 0, [], .null) else none))))) else (if pc < 39 then (if pc < 31 then (if pc < 27 then (if pc < 26 then (if pc = 25 then some (.aload_n 0, 26, 0, 0, [], .null) else none) else (if pc = 26 then some (.lload_n 1, 27, 1, 0, [], .null) else none)) else (if pc < 30 then (if pc = 27 then some (.invokevirtual 161, 30, 33, 2, [], .null) else none) else (if pc = 30 then some (.lstore_n 3, 31, 3, 0, [], .null) else none))) else (if pc < 35 then (if pc < 32 then (if pc = 31 then some (.lload_n 3, 32, 3, 0, [], .null) else none) else (if pc = 32 then some (.ldc2_w 130, 35, 0, 0, [], .long (-1)) else none)) else (if pc < 36 then (if pc = 35 then some (.lcmp, 36, 0, 0, [], .null) else none) else (if pc = 36 then some (.ifCond .ne 12, 39, 48, 0, [], .null) else none)))) else (if pc < 48 then (if pc < 42 then (if pc < 40 then (if pc = 39 then some (.aload_n 0, 40, 0, 0, [], .null) else none) else (if pc = 40 then some (.bipush 6, 42, 0, 0, [], .int 6) else none)) else (if pc < 45 then (if pc = 42 then some (.invokevirtual 103, 45, 24, 2, [], .null) else none) else (if pc = 45 then some (.goto 8, 48, 53, 0, [], .null) else none))) else (if pc < 50 then (if pc < 49 then (if pc = 48 then some (.aload_n 0, 49, 0, 0, [], .null) else none) else (if pc = 49 then some (.lload_n 3, 50, 3, 0, [], .null) else none)) else (if pc < 53 then (if pc = 50 then some (.invokevirtual 141, 53, 26, 2, [], .null) else none) else (if pc = 53 then some (.return_, 54, 0, 0, [], .null) else none)))))) else none
set_option maxRecDepth 20000 in
def cdX2_evaluateCond : PCode := fun pc => if pc < 39 then (if pc < 19 then (if pc < 10 then (if pc < 4 then (if pc < 1 then (if pc = 0 then some (.lload_n 1, 1, 1, 0, [], .null) else none) else (if pc = 1 then some (.invokestatic 106, 4, 97, 1, [], .null) else none)) else (if pc < 7 then (if pc = 4 then some (.ifCond .ne 10, 7, 14, 0, [], .null) else none) else (if pc < 8 then (if pc = 7 then some (.aload_n 0, 8, 0, 0, [], .null) else none) else (if pc = 8 then some (.bipush 9, 10, 0, 0, [], .int 9) else none)))) else (if pc < 14 then (if pc < 13 then (if pc = 10 then some (.invokevirtual 103, 13, 24, 2, [], .null) else none) else (if pc = 13 then some (.return_, 14, 0, 0, [], .null) else none)) else (if pc < 15 then (if pc = 14 then some (.aload_n 0, 15, 0, 0, [], .null) else none) else (if pc < 18 then (if pc = 15 then some (.ldc2_w 144, 18, 0, 0, [], .long 3) else none) else (if pc = 18 then some (.lload_n 1, 19, 1, 0, [], .null) else none))))) else (if pc < 28 then (if pc < 23 then (if pc < 22 then (if pc = 19 then some (.invokevirtual 164, 22, 39, 3, [], .null) else none) else (if pc = 22 then some (.aload_n 0, 23, 0, 0, [], .null) else none)) else (if pc < 24 then (if pc = 23 then some (.aload_n 0, 24, 0, 0, [], .null) else none) else (if pc < 25 then (if pc = 24 then some (.aload_n 0, 25, 0, 0, [], .null) else none) else (if pc = 25 then some (.getfield 24, 28, 3, 0, [], .null) else none)))) else (if pc < 32 then (if pc < 29 then (if pc = 28 then some (.lload_n 1, 29, 1, 0, [], .null) else none) else (if pc = 29 then some (.invokevirtual 111, 32, 8, 2, [], .null) else none)) else (if pc < 35 then (if pc = 32 then some (.invokevirtual 123, 35, 28, 2, [], .null) else none) else (if pc < 38 then (if pc = 35 then some (.invokevirtual 167, 38, 27, 2, [], .null) else none) else (if pc = 38 then some (.return_, 39, 0, 0, [], .null) else none)))))) else none
set_option maxRecDepth 20000 in
def cdX2_evaluateFunction : PCode := fun pc => if pc < 33 then (if pc < 15 then (if pc < 8 then (if pc < 2 then (if pc < 1 then (if pc = 0 then some (.aload_n 0, 1, 0, 0, [], .null) else none) else (if pc = 1 then some (.aload_n 0, 2, 0, 0, [], .null) else none)) else (if pc < 5 then (if pc = 2 then some (.getfield 28, 5, 3, 1, [], .null) else none) else (if pc = 5 then some (.getfield 91, 8, 6, 5, [], .null) else none))) else (if pc < 12 then (if pc < 9 then (if pc = 8 then some (.lconst 0, 9, 0, 0, [], .long 0) else none) else (if pc = 9 then some (.invokevirtual 170, 12, 32, 3, [], .null) else none)) else (if pc < 13 then (if pc = 12 then some (.lstore_n 3, 13, 3, 0, [], .null) else none) else (if pc < 14 then (if pc = 13 then some (.aload_n 0, 14, 0, 0, [], .null) else none) else (if pc = 14 then some (.lload_n 1, 15, 1, 0, [], .null) else none))))) else (if pc < 22 then (if pc < 19 then (if pc < 16 then (if pc = 15 then some (.lload_n 3, 16, 3, 0, [], .null) else none) else (if pc = 16 then some (.invokevirtual 170, 19, 32, 3, [], .null) else none)) else (if pc < 20 then (if pc = 19 then some (.lstore_n 3, 20, 3, 0, [], .null) else none) else (if pc < 21 then (if pc = 20 then some (.aload_n 0, 21, 0, 0, [], .null) else none) else (if pc = 21 then some (.aload_n 0, 22, 0, 0, [], .null) else none)))) else (if pc < 26 then (if pc < 25 then (if pc = 22 then some (.ldc2_w 173, 25, 0, 0, [], .long 7) else none) else (if pc = 25 then some (.lload_n 3, 26, 3, 0, [], .null) else none)) else (if pc < 29 then (if pc = 26 then some (.invokevirtual 170, 29, 32, 3, [], .null) else none) else (if pc < 32 then (if pc = 29 then some (.invokevirtual 141, 32, 26, 2, [], .null) else none) else (if pc = 32 then some (.return_, 33, 0, 0, [], .null) else none)))))) else none
set_option maxRecDepth 20000 in
def cdX2_evaluateCall : PCode := fun pc => if pc < 56 then (if pc < 29 then (if pc < 13 then (if pc < 7 then (if pc < 1 then (if pc = 0 then some (.lload_n 3, 1, 3, 0, [], .null) else none) else (if pc < 4 then (if pc = 1 then some (.invokestatic 106, 4, 97, 1, [], .null) else none) else (if pc = 4 then some (.ifCond .eq 24, 7, 28, 0, [], .null) else none))) else (if pc < 9 then (if pc < 8 then (if pc = 7 then some (.aload_n 0, 8, 0, 0, [], .null) else none) else (if pc = 8 then some (.lload_n 1, 9, 1, 0, [], .null) else none)) else (if pc < 10 then (if pc = 9 then some (.lload_n 3, 10, 3, 0, [], .null) else none) else (if pc = 10 then some (.invokevirtual 164, 13, 39, 3, [], .null) else none)))) else (if pc < 19 then (if pc < 15 then (if pc < 14 then (if pc = 13 then some (.aload_n 0, 14, 0, 0, [], .null) else none) else (if pc = 14 then some (.aload_n 0, 15, 0, 0, [], .null) else none)) else (if pc < 18 then (if pc = 15 then some (.getfield 24, 18, 3, 0, [], .null) else none) else (if pc = 18 then some (.lload_n 3, 19, 3, 0, [], .null) else none))) else (if pc < 25 then (if pc < 22 then (if pc = 19 then some (.invokevirtual 111, 22, 8, 2, [], .null) else none) else (if pc = 22 then some (.invokevirtual 167, 25, 27, 2, [], .null) else none)) else (if pc < 28 then (if pc = 25 then some (.goto 30, 28, 55, 0, [], .null) else none) else (if pc = 28 then some (.lload_n 3, 29, 3, 0, [], .null) else none))))) else (if pc < 42 then (if pc < 34 then (if pc < 30 then (if pc = 29 then some (.lconst 0, 30, 0, 0, [], .long 0) else none) else (if pc < 31 then (if pc = 30 then some (.lcmp, 31, 0, 0, [], .null) else none) else (if pc = 31 then some (.ifCond .ne 19, 34, 50, 0, [], .null) else none))) else (if pc < 38 then (if pc < 35 then (if pc = 34 then some (.aload_n 0, 35, 0, 0, [], .null) else none) else (if pc = 35 then some (.getfield 28, 38, 3, 1, [], .null) else none)) else (if pc < 39 then (if pc = 38 then some (.lload_n 1, 39, 1, 0, [], .null) else none) else (if pc = 39 then some (.putfield 75, 42, 6, 6, [], .null) else none)))) else (if pc < 50 then (if pc < 44 then (if pc < 43 then (if pc = 42 then some (.aload_n 0, 43, 0, 0, [], .null) else none) else (if pc = 43 then some (.iconst 3, 44, 0, 0, [], .int 3) else none)) else (if pc < 47 then (if pc = 44 then some (.putfield 62, 47, 3, 11, [], .null) else none) else (if pc = 47 then some (.goto 8, 50, 55, 0, [], .null) else none))) else (if pc < 52 then (if pc < 51 then (if pc = 50 then some (.aload_n 0, 51, 0, 0, [], .null) else none) else (if pc = 51 then some (.iconst 5, 52, 0, 0, [], .int 5) else none)) else (if pc < 55 then (if pc = 52 then some (.invokevirtual 103, 55, 24, 2, [], .null) else none) else (if pc = 55 then some (.return_, 56, 0, 0, [], .null) else none)))))) else none
set_option maxRecDepth 20000 in
def cdX2_pushFrame : PCode := fun pc => if pc < 96 then (if pc < 46 then (if pc < 24 then (if pc < 11 then (if pc < 4 then (if pc < 1 then (if pc = 0 then some (.aload_n 0, 1, 0, 0, [], .null) else none) else (if pc = 1 then some (.getfield 97, 4, 3, 6, [], .null) else none)) else (if pc < 7 then (if pc = 4 then some (.ifCond .lt 13, 7, 17, 0, [], .null) else none) else (if pc < 8 then (if pc = 7 then some (.aload_n 0, 8, 0, 0, [], .null) else none) else (if pc = 8 then some (.getfield 97, 11, 3, 6, [], .null) else none)))) else (if pc < 18 then (if pc < 14 then (if pc = 11 then some (.sipush 200, 14, 0, 0, [], .int 200) else none) else (if pc < 17 then (if pc = 14 then some (.if_icmp .lt 10, 17, 24, 0, [], .null) else none) else (if pc = 17 then some (.aload_n 0, 18, 0, 0, [], .null) else none))) else (if pc < 20 then (if pc = 18 then some (.bipush 12, 20, 0, 0, [], .int 12) else none) else (if pc < 23 then (if pc = 20 then some (.invokevirtual 103, 23, 24, 2, [], .null) else none) else (if pc = 23 then some (.return_, 24, 0, 0, [], .null) else none))))) else (if pc < 36 then (if pc < 29 then (if pc < 25 then (if pc = 24 then some (.aload_n 0, 25, 0, 0, [], .null) else none) else (if pc < 28 then (if pc = 25 then some (.getfield 20, 28, 3, 5, [], .null) else none) else (if pc = 28 then some (.aload_n 0, 29, 0, 0, [], .null) else none))) else (if pc < 32 then (if pc = 29 then some (.getfield 97, 32, 3, 6, [], .null) else none) else (if pc < 33 then (if pc = 32 then some (.aload_n 0, 33, 0, 0, [], .null) else none) else (if pc = 33 then some (.getfield 41, 36, 3, 3, [], .null) else none)))) else (if pc < 41 then (if pc < 39 then (if pc = 36 then some (.invokevirtual 175, 39, 83, 1, [], .null) else none) else (if pc < 40 then (if pc = 39 then some (.iastore, 40, 0, 0, [], .null) else none) else (if pc = 40 then some (.aload_n 0, 41, 0, 0, [], .null) else none))) else (if pc < 42 then (if pc = 41 then some (.dup, 42, 0, 0, [], .null) else none) else (if pc < 45 then (if pc = 42 then some (.getfield 97, 45, 3, 6, [], .null) else none) else (if pc = 45 then some (.iconst 1, 46, 0, 0, [], .int 1) else none)))))) else (if pc < 70 then (if pc < 56 then (if pc < 51 then (if pc < 47 then (if pc = 46 then some (.iadd, 47, 0, 0, [], .null) else none) else (if pc < 50 then (if pc = 47 then some (.putfield 97, 50, 3, 6, [], .null) else none) else (if pc = 50 then some (.aload_n 0, 51, 0, 0, [], .null) else none))) else (if pc < 52 then (if pc = 51 then some (.aload_n 0, 52, 0, 0, [], .null) else none) else (if pc < 55 then (if pc = 52 then some (.getfield 53, 55, 3, 7, [], .null) else none) else (if pc = 55 then some (.aload_n 0, 56, 0, 0, [], .null) else none)))) else (if pc < 65 then (if pc < 59 then (if pc = 56 then some (.getfield 97, 59, 3, 6, [], .null) else none) else (if pc < 62 then (if pc = 59 then some (.invokestatic 179, 62, 0, 1000, [], .null) else none) else (if pc = 62 then some (.putfield 53, 65, 3, 7, [], .null) else none))) else (if pc < 66 then (if pc = 65 then some (.aload_n 0, 66, 0, 0, [], .null) else none) else (if pc < 69 then (if pc = 66 then some (.getfield 41, 69, 3, 3, [], .null) else none) else (if pc = 69 then some (.lload_n 1, 70, 1, 0, [], .null) else none))))) else (if pc < 82 then (if pc < 77 then (if pc < 73 then (if pc = 70 then some (.invokevirtual 185, 73, 86, 2, [], .null) else none) else (if pc < 74 then (if pc = 73 then some (.aload_n 0, 74, 0, 0, [], .null) else none) else (if pc = 74 then some (.getfield 41, 77, 3, 3, [], .null) else none))) else (if pc < 78 then (if pc = 77 then some (.lload_n 3, 78, 3, 0, [], .null) else none) else (if pc < 81 then (if pc = 78 then some (.invokevirtual 185, 81, 86, 2, [], .null) else none) else (if pc = 81 then some (.aload_n 0, 82, 0, 0, [], .null) else none)))) else (if pc < 89 then (if pc < 85 then (if pc = 82 then some (.getfield 41, 85, 3, 3, [], .null) else none) else (if pc < 86 then (if pc = 85 then some (.aload_n 0, 86, 0, 0, [], .null) else none) else (if pc = 86 then some (.getfield 28, 89, 3, 1, [], .null) else none))) else (if pc < 92 then (if pc = 89 then some (.getfield 91, 92, 6, 5, [], .null) else none) else (if pc < 95 then (if pc = 92 then some (.invokevirtual 185, 95, 86, 2, [], .null) else none) else (if pc = 95 then some (.return_, 96, 0, 0, [], .null) else none))))))) else none
set_option maxRecDepth 20000 in
def cdX2_popFrame : PCode := fun pc => if pc < 19 then (if pc < 9 then (if pc < 4 then (if pc < 1 then (if pc = 0 then some (.aload_n 0, 1, 0, 0, [], .null) else none) else (if pc = 1 then some (.getfield 41, 4, 3, 3, [], .null) else none)) else (if pc < 5 then (if pc = 4 then some (.iload_n 1, 5, 1, 0, [], .null) else none) else (if pc < 8 then (if pc = 5 then some (.invokevirtual 94, 8, 87, 2, [], .null) else none) else (if pc = 8 then some (.aload_n 0, 9, 0, 0, [], .null) else none)))) else (if pc < 14 then (if pc < 10 then (if pc = 9 then some (.dup, 10, 0, 0, [], .null) else none) else (if pc < 13 then (if pc = 10 then some (.getfield 97, 13, 3, 6, [], .null) else none) else (if pc = 13 then some (.iconst 1, 14, 0, 0, [], .int 1) else none))) else (if pc < 15 then (if pc = 14 then some (.isub, 15, 0, 0, [], .null) else none) else (if pc < 18 then (if pc = 15 then some (.putfield 97, 18, 3, 6, [], .null) else none) else (if pc = 18 then some (.return_, 19, 0, 0, [], .null) else none))))) else none
set_option maxRecDepth 20000 in
def cdX2_takeValue : PCode := fun pc => if pc < 81 then (if pc < 39 then (if pc < 22 then (if pc < 11 then (if pc < 4 then (if pc < 1 then (if pc = 0 then some (.aload_n 0, 1, 0, 0, [], .null) else none) else (if pc = 1 then some (.getfield 97, 4, 3, 6, [], .null) else none)) else (if pc < 7 then (if pc = 4 then some (.ifCond .le 13, 7, 17, 0, [], .null) else none) else (if pc < 8 then (if pc = 7 then some (.aload_n 0, 8, 0, 0, [], .null) else none) else (if pc = 8 then some (.getfield 97, 11, 3, 6, [], .null) else none)))) else (if pc < 17 then (if pc < 14 then (if pc = 11 then some (.sipush 200, 14, 0, 0, [], .int 200) else none) else (if pc = 14 then some (.if_icmp .le 9, 17, 23, 0, [], .null) else none)) else (if pc < 18 then (if pc = 17 then some (.aload_n 0, 18, 0, 0, [], .null) else none) else (if pc < 19 then (if pc = 18 then some (.iconst 0, 19, 0, 0, [], .int 0) else none) else (if pc = 19 then some (.putfield 62, 22, 3, 11, [], .null) else none))))) else (if pc < 31 then (if pc < 24 then (if pc < 23 then (if pc = 22 then some (.return_, 23, 0, 0, [], .null) else none) else (if pc = 23 then some (.aload_n 0, 24, 0, 0, [], .null) else none)) else (if pc < 27 then (if pc = 24 then some (.getfield 20, 27, 3, 5, [], .null) else none) else (if pc < 28 then (if pc = 27 then some (.aload_n 0, 28, 0, 0, [], .null) else none) else (if pc = 28 then some (.getfield 97, 31, 3, 6, [], .null) else none)))) else (if pc < 34 then (if pc < 32 then (if pc = 31 then some (.iconst 1, 32, 0, 0, [], .int 1) else none) else (if pc < 33 then (if pc = 32 then some (.isub, 33, 0, 0, [], .null) else none) else (if pc = 33 then some (.iaload, 34, 0, 0, [], .null) else none))) else (if pc < 35 then (if pc = 34 then some (.istore_n 1, 35, 1, 0, [], .null) else none) else (if pc < 36 then (if pc = 35 then some (.aload_n 0, 36, 0, 0, [], .null) else none) else (if pc = 36 then some (.getfield 28, 39, 3, 1, [], .null) else none)))))) else (if pc < 60 then (if pc < 46 then (if pc < 43 then (if pc < 40 then (if pc = 39 then some (.aload_n 0, 40, 0, 0, [], .null) else none) else (if pc = 40 then some (.getfield 41, 43, 3, 3, [], .null) else none)) else (if pc < 44 then (if pc = 43 then some (.iload_n 1, 44, 1, 0, [], .null) else none) else (if pc < 45 then (if pc = 44 then some (.iconst 2, 45, 0, 0, [], .int 2) else none) else (if pc = 45 then some (.iadd, 46, 0, 0, [], .null) else none)))) else (if pc < 53 then (if pc < 49 then (if pc = 46 then some (.invokevirtual 188, 49, 84, 2, [], .null) else none) else (if pc < 52 then (if pc = 49 then some (.putfield 91, 52, 6, 5, [], .null) else none) else (if pc = 52 then some (.aload_n 0, 53, 0, 0, [], .null) else none))) else (if pc < 56 then (if pc = 53 then some (.getfield 41, 56, 3, 3, [], .null) else none) else (if pc < 57 then (if pc = 56 then some (.iload_n 1, 57, 1, 0, [], .null) else none) else (if pc = 57 then some (.invokevirtual 188, 60, 84, 2, [], .null) else none))))) else (if pc < 69 then (if pc < 64 then (if pc < 63 then (if pc = 60 then some (.ldc2_w 144, 63, 0, 0, [], .long 3) else none) else (if pc = 63 then some (.lcmp, 64, 0, 0, [], .null) else none)) else (if pc < 67 then (if pc = 64 then some (.ifCond .ne 11, 67, 75, 0, [], .null) else none) else (if pc < 68 then (if pc = 67 then some (.aload_n 0, 68, 0, 0, [], .null) else none) else (if pc = 68 then some (.iload_n 1, 69, 1, 0, [], .null) else none)))) else (if pc < 76 then (if pc < 72 then (if pc = 69 then some (.invokevirtual 192, 72, 42, 2, [], .null) else none) else (if pc < 75 then (if pc = 72 then some (.goto 8, 75, 80, 0, [], .null) else none) else (if pc = 75 then some (.aload_n 0, 76, 0, 0, [], .null) else none))) else (if pc < 77 then (if pc = 76 then some (.iload_n 1, 77, 1, 0, [], .null) else none) else (if pc < 80 then (if pc = 77 then some (.invokevirtual 195, 80, 43, 2, [], .null) else none) else (if pc = 80 then some (.return_, 81, 0, 0, [], .null) else none))))))) else none
set_option maxRecDepth 20000 in
def cdX2_takeChoice : PCode := fun pc => if pc < 93 then (if pc < 41 then (if pc < 20 then (if pc < 10 then (if pc < 5 then (if pc < 1 then (if pc = 0 then some (.aload_n 0, 1, 0, 0, [], .null) else none) else (if pc < 4 then (if pc = 1 then some (.getfield 41, 4, 3, 3, [], .null) else none) else (if pc = 4 then some (.iload_n 1, 5, 1, 0, [], .null) else none))) else (if pc < 6 then (if pc = 5 then some (.iconst 1, 6, 0, 0, [], .int 1) else none) else (if pc < 7 then (if pc = 6 then some (.iadd, 7, 0, 0, [], .null) else none) else (if pc = 7 then some (.invokevirtual 188, 10, 84, 2, [], .null) else none)))) else (if pc < 15 then (if pc < 11 then (if pc = 10 then some (.lstore_n 2, 11, 2, 0, [], .null) else none) else (if pc < 12 then (if pc = 11 then some (.aload_n 0, 12, 0, 0, [], .null) else none) else (if pc = 12 then some (.getfield 46, 15, 3, 12, [], .null) else none))) else (if pc < 16 then (if pc = 15 then some (.lconst 0, 16, 0, 0, [], .long 0) else none) else (if pc < 17 then (if pc = 16 then some (.lcmp, 17, 0, 0, [], .null) else none) else (if pc = 17 then some (.ifCond .eq 22, 20, 39, 0, [], .null) else none))))) else (if pc < 28 then (if pc < 25 then (if pc < 21 then (if pc = 20 then some (.aload_n 0, 21, 0, 0, [], .null) else none) else (if pc < 22 then (if pc = 21 then some (.iload_n 1, 22, 1, 0, [], .null) else none) else (if pc = 22 then some (.invokevirtual 198, 25, 40, 2, [], .null) else none))) else (if pc < 26 then (if pc = 25 then some (.aload_n 0, 26, 0, 0, [], .null) else none) else (if pc < 27 then (if pc = 26 then some (.aload_n 0, 27, 0, 0, [], .null) else none) else (if pc = 27 then some (.aload_n 0, 28, 0, 0, [], .null) else none)))) else (if pc < 35 then (if pc < 29 then (if pc = 28 then some (.lload_n 2, 29, 2, 0, [], .null) else none) else (if pc < 32 then (if pc = 29 then some (.invokevirtual 123, 32, 28, 2, [], .null) else none) else (if pc = 32 then some (.invokevirtual 138, 35, 30, 2, [], .null) else none))) else (if pc < 39 then (if pc < 38 then (if pc = 35 then some (.invokevirtual 167, 38, 27, 2, [], .null) else none) else (if pc = 38 then some (.return_, 39, 0, 0, [], .null) else none)) else (if pc < 40 then (if pc = 39 then some (.aload_n 0, 40, 0, 0, [], .null) else none) else (if pc = 40 then some (.lload_n 2, 41, 2, 0, [], .null) else none)))))) else (if pc < 66 then (if pc < 52 then (if pc < 47 then (if pc < 44 then (if pc = 41 then some (.invokevirtual 120, 44, 29, 2, [], .null) else none) else (if pc < 46 then (if pc = 44 then some (.lstore 4, 46, 4, 0, [], .null) else none) else (if pc = 46 then some (.aload_n 0, 47, 0, 0, [], .null) else none))) else (if pc < 50 then (if pc = 47 then some (.getfield 41, 50, 3, 3, [], .null) else none) else (if pc < 51 then (if pc = 50 then some (.iload_n 1, 51, 1, 0, [], .null) else none) else (if pc = 51 then some (.iconst 1, 52, 0, 0, [], .int 1) else none)))) else (if pc < 58 then (if pc < 53 then (if pc = 52 then some (.iadd, 53, 0, 0, [], .null) else none) else (if pc < 55 then (if pc = 53 then some (.lload 4, 55, 4, 0, [], .null) else none) else (if pc = 55 then some (.invokevirtual 201, 58, 85, 3, [], .null) else none))) else (if pc < 60 then (if pc = 58 then some (.lload 4, 60, 4, 0, [], .null) else none) else (if pc < 63 then (if pc = 60 then some (.invokestatic 106, 63, 97, 1, [], .null) else none) else (if pc = 63 then some (.ifCond .eq 23, 66, 86, 0, [], .null) else none))))) else (if pc < 77 then (if pc < 69 then (if pc < 67 then (if pc = 66 then some (.aload_n 0, 67, 0, 0, [], .null) else none) else (if pc < 68 then (if pc = 67 then some (.aload_n 0, 68, 0, 0, [], .null) else none) else (if pc = 68 then some (.aload_n 0, 69, 0, 0, [], .null) else none))) else (if pc < 72 then (if pc = 69 then some (.getfield 24, 72, 3, 0, [], .null) else none) else (if pc < 74 then (if pc = 72 then some (.lload 4, 74, 4, 0, [], .null) else none) else (if pc = 74 then some (.invokevirtual 111, 77, 8, 2, [], .null) else none)))) else (if pc < 86 then (if pc < 80 then (if pc = 77 then some (.invokevirtual 123, 80, 28, 2, [], .null) else none) else (if pc < 83 then (if pc = 80 then some (.invokevirtual 167, 83, 27, 2, [], .null) else none) else (if pc = 83 then some (.goto 9, 86, 92, 0, [], .null) else none))) else (if pc < 89 then (if pc < 87 then (if pc = 86 then some (.aload_n 0, 87, 0, 0, [], .null) else none) else (if pc = 87 then some (.bipush 9, 89, 0, 0, [], .int 9) else none)) else (if pc < 92 then (if pc = 89 then some (.invokevirtual 103, 92, 24, 2, [], .null) else none) else (if pc = 92 then some (.return_, 93, 0, 0, [], .null) else none))))))) else none
set_option maxRecDepth 20000 in
def cdX2_takeArgument : PCode := fun pc => if pc < 100 then (if pc < 51 then (if pc < 25 then (if pc < 11 then (if pc < 7 then (if pc < 1 then (if pc = 0 then some (.aload_n 0, 1, 0, 0, [], .null) else none) else (if pc < 4 then (if pc = 1 then some (.getfield 41, 4, 3, 3, [], .null) else none) else (if pc = 4 then some (.invokevirtual 175, 7, 83, 1, [], .null) else none))) else (if pc < 8 then (if pc = 7 then some (.iload_n 1, 8, 1, 0, [], .null) else none) else (if pc < 9 then (if pc = 8 then some (.isub, 9, 0, 0, [], .null) else none) else (if pc = 9 then some (.bipush 13, 11, 0, 0, [], .int 13) else none)))) else (if pc < 17 then (if pc < 14 then (if pc = 11 then some (.if_icmp .lt 10, 14, 21, 0, [], .null) else none) else (if pc < 15 then (if pc = 14 then some (.aload_n 0, 15, 0, 0, [], .null) else none) else (if pc = 15 then some (.bipush 11, 17, 0, 0, [], .int 11) else none))) else (if pc < 21 then (if pc < 20 then (if pc = 17 then some (.invokevirtual 103, 20, 24, 2, [], .null) else none) else (if pc = 20 then some (.return_, 21, 0, 0, [], .null) else none)) else (if pc < 22 then (if pc = 21 then some (.aload_n 0, 22, 0, 0, [], .null) else none) else (if pc = 22 then some (.getfield 41, 25, 3, 3, [], .null) else none))))) else (if pc < 38 then (if pc < 32 then (if pc < 26 then (if pc = 25 then some (.aload_n 0, 26, 0, 0, [], .null) else none) else (if pc < 29 then (if pc = 26 then some (.getfield 46, 29, 3, 12, [], .null) else none) else (if pc = 29 then some (.invokevirtual 185, 32, 86, 2, [], .null) else none))) else (if pc < 34 then (if pc < 33 then (if pc = 32 then some (.aload_n 0, 33, 0, 0, [], .null) else none) else (if pc = 33 then some (.aload_n 0, 34, 0, 0, [], .null) else none)) else (if pc < 37 then (if pc = 34 then some (.getfield 41, 37, 3, 3, [], .null) else none) else (if pc = 37 then some (.iload_n 1, 38, 1, 0, [], .null) else none)))) else (if pc < 43 then (if pc < 39 then (if pc = 38 then some (.iconst 1, 39, 0, 0, [], .int 1) else none) else (if pc < 40 then (if pc = 39 then some (.iadd, 40, 0, 0, [], .null) else none) else (if pc = 40 then some (.invokevirtual 188, 43, 84, 2, [], .null) else none))) else (if pc < 47 then (if pc < 46 then (if pc = 43 then some (.invokevirtual 120, 46, 29, 2, [], .null) else none) else (if pc = 46 then some (.lstore_n 2, 47, 2, 0, [], .null) else none)) else (if pc < 48 then (if pc = 47 then some (.aload_n 0, 48, 0, 0, [], .null) else none) else (if pc = 48 then some (.getfield 41, 51, 3, 3, [], .null) else none)))))) else (if pc < 74 then (if pc < 59 then (if pc < 54 then (if pc < 52 then (if pc = 51 then some (.iload_n 1, 52, 1, 0, [], .null) else none) else (if pc < 53 then (if pc = 52 then some (.iconst 1, 53, 0, 0, [], .int 1) else none) else (if pc = 53 then some (.iadd, 54, 0, 0, [], .null) else none))) else (if pc < 55 then (if pc = 54 then some (.lload_n 2, 55, 2, 0, [], .null) else none) else (if pc < 58 then (if pc = 55 then some (.invokevirtual 201, 58, 85, 3, [], .null) else none) else (if pc = 58 then some (.lload_n 2, 59, 2, 0, [], .null) else none)))) else (if pc < 66 then (if pc < 62 then (if pc = 59 then some (.invokestatic 106, 62, 97, 1, [], .null) else none) else (if pc < 65 then (if pc = 62 then some (.ifCond .eq 18, 65, 80, 0, [], .null) else none) else (if pc = 65 then some (.aload_n 0, 66, 0, 0, [], .null) else none))) else (if pc < 70 then (if pc < 67 then (if pc = 66 then some (.aload_n 0, 67, 0, 0, [], .null) else none) else (if pc = 67 then some (.getfield 24, 70, 3, 0, [], .null) else none)) else (if pc < 71 then (if pc = 70 then some (.lload_n 2, 71, 2, 0, [], .null) else none) else (if pc = 71 then some (.invokevirtual 111, 74, 8, 2, [], .null) else none))))) else (if pc < 87 then (if pc < 81 then (if pc < 77 then (if pc = 74 then some (.invokevirtual 167, 77, 27, 2, [], .null) else none) else (if pc < 80 then (if pc = 77 then some (.goto 22, 80, 99, 0, [], .null) else none) else (if pc = 80 then some (.lload_n 2, 81, 2, 0, [], .null) else none))) else (if pc < 83 then (if pc < 82 then (if pc = 81 then some (.lconst 0, 82, 0, 0, [], .long 0) else none) else (if pc = 82 then some (.lcmp, 83, 0, 0, [], .null) else none)) else (if pc < 86 then (if pc = 83 then some (.ifCond .ne 11, 86, 94, 0, [], .null) else none) else (if pc = 86 then some (.aload_n 0, 87, 0, 0, [], .null) else none)))) else (if pc < 94 then (if pc < 88 then (if pc = 87 then some (.iload_n 1, 88, 1, 0, [], .null) else none) else (if pc < 91 then (if pc = 88 then some (.invokevirtual 205, 91, 44, 2, [], .null) else none) else (if pc = 91 then some (.goto 8, 94, 99, 0, [], .null) else none))) else (if pc < 96 then (if pc < 95 then (if pc = 94 then some (.aload_n 0, 95, 0, 0, [], .null) else none) else (if pc = 95 then some (.iconst 5, 96, 0, 0, [], .int 5) else none)) else (if pc < 99 then (if pc = 96 then some (.invokevirtual 103, 99, 24, 2, [], .null) else none) else (if pc = 99 then some (.return_, 100, 0, 0, [], .null) else none))))))) else none
end
section
/-! resolved code, part 1 -/
set_option maxRecDepth 20000 in
def cdX2_takeInHand : PCode := fun pc => if pc < 66 then (if pc < 31 then (if pc < 16 then (if pc < 8 then (if pc < 4 then (if pc < 1 then (if pc = 0 then some (.aload_n 0, 1, 0, 0, [], .null) else none) else (if pc = 1 then some (.invokevirtual 100, 4, 23, 1, [], .null) else none)) else (if pc < 5 then (if pc = 4 then some (.aload_n 0, 5, 0, 0, [], .null) else none) else (if pc = 5 then some (.getfield 28, 8, 3, 1, [], .null) else none))) else (if pc < 12 then (if pc < 9 then (if pc = 8 then some (.aload_n 0, 9, 0, 0, [], .null) else none) else (if pc = 9 then some (.getfield 41, 12, 3, 3, [], .null) else none)) else (if pc < 13 then (if pc = 12 then some (.iload_n 1, 13, 1, 0, [], .null) else none) else (if pc = 13 then some (.invokevirtual 188, 16, 84, 2, [], .null) else none)))) else (if pc < 22 then (if pc < 20 then (if pc < 19 then (if pc = 16 then some (.putfield 75, 19, 6, 6, [], .null) else none) else (if pc = 19 then some (.iload_n 1, 20, 1, 0, [], .null) else none)) else (if pc < 21 then (if pc = 20 then some (.iconst 3, 21, 0, 0, [], .int 3) else none) else (if pc = 21 then some (.iadd, 22, 0, 0, [], .null) else none))) else (if pc < 24 then (if pc < 23 then (if pc = 22 then some (.istore_n 2, 23, 2, 0, [], .null) else none) else (if pc = 23 then some (.iload_n 2, 24, 2, 0, [], .null) else none)) else (if pc < 25 then (if pc = 24 then some (.aload_n 0, 25, 0, 0, [], .null) else none) else (if pc < 28 then (if pc = 25 then some (.getfield 41, 28, 3, 3, [], .null) else none) else (if pc = 28 then some (.invokevirtual 175, 31, 83, 1, [], .null) else none)))))) else (if pc < 49 then (if pc < 39 then (if pc < 35 then (if pc < 34 then (if pc = 31 then some (.if_icmp .ge 24, 34, 55, 0, [], .null) else none) else (if pc = 34 then some (.aload_n 0, 35, 0, 0, [], .null) else none)) else (if pc < 38 then (if pc = 35 then some (.getfield 37, 38, 3, 2, [], .null) else none) else (if pc = 38 then some (.aload_n 0, 39, 0, 0, [], .null) else none))) else (if pc < 43 then (if pc < 42 then (if pc = 39 then some (.getfield 41, 42, 3, 3, [], .null) else none) else (if pc = 42 then some (.iload_n 2, 43, 2, 0, [], .null) else none)) else (if pc < 46 then (if pc = 43 then some (.invokevirtual 188, 46, 84, 2, [], .null) else none) else (if pc = 46 then some (.invokevirtual 185, 49, 86, 2, [], .null) else none)))) else (if pc < 57 then (if pc < 55 then (if pc < 52 then (if pc = 49 then some (.iinc 2 1, 52, 2, 0, [], .int 1) else none) else (if pc = 52 then some (.goto (-29), 55, 23, 0, [], .null) else none)) else (if pc < 56 then (if pc = 55 then some (.aload_n 0, 56, 0, 0, [], .null) else none) else (if pc = 56 then some (.iload_n 1, 57, 1, 0, [], .null) else none))) else (if pc < 61 then (if pc < 60 then (if pc = 57 then some (.invokevirtual 198, 60, 40, 2, [], .null) else none) else (if pc = 60 then some (.aload_n 0, 61, 0, 0, [], .null) else none)) else (if pc < 62 then (if pc = 61 then some (.iconst 3, 62, 0, 0, [], .int 3) else none) else (if pc < 65 then (if pc = 62 then some (.putfield 62, 65, 3, 11, [], .null) else none) else (if pc = 65 then some (.return_, 66, 0, 0, [], .null) else none))))))) else none
set_option maxRecDepth 20000 in
def cdX2_isBuiltIn : PCode := fun pc => if pc < 41 then (if pc < 20 then (if pc < 9 then (if pc < 4 then (if pc < 1 then (if pc = 0 then some (.lload_n 1, 1, 1, 0, [], .null) else none) else (if pc = 1 then some (.ldc2_w 208, 4, 0, 0, [], .long 8) else none)) else (if pc < 5 then (if pc = 4 then some (.lcmp, 5, 0, 0, [], .null) else none) else (if pc < 8 then (if pc = 5 then some (.ifCond .lt 34, 8, 39, 0, [], .null) else none) else (if pc = 8 then some (.lload_n 1, 9, 1, 0, [], .null) else none)))) else (if pc < 13 then (if pc < 12 then (if pc = 9 then some (.ldc2_w 210, 12, 0, 0, [], .long 22) else none) else (if pc = 12 then some (.lcmp, 13, 0, 0, [], .null) else none)) else (if pc < 16 then (if pc = 13 then some (.ifCond .gt 26, 16, 39, 0, [], .null) else none) else (if pc < 17 then (if pc = 16 then some (.aload_n 0, 17, 0, 0, [], .null) else none) else (if pc = 17 then some (.getfield 28, 20, 3, 1, [], .null) else none))))) else (if pc < 31 then (if pc < 24 then (if pc < 23 then (if pc = 20 then some (.getfield 212, 23, 6, 0, [], .null) else none) else (if pc = 23 then some (.lload_n 1, 24, 1, 0, [], .null) else none)) else (if pc < 25 then (if pc = 24 then some (.l2i, 25, 0, 0, [], .null) else none) else (if pc < 28 then (if pc = 25 then some (.invokevirtual 188, 28, 84, 2, [], .null) else none) else (if pc = 28 then some (.ldc2_w 130, 31, 0, 0, [], .long (-1)) else none)))) else (if pc < 36 then (if pc < 32 then (if pc = 31 then some (.lcmp, 32, 0, 0, [], .null) else none) else (if pc < 35 then (if pc = 32 then some (.ifCond .ne 7, 35, 39, 0, [], .null) else none) else (if pc = 35 then some (.iconst 1, 36, 0, 0, [], .int 1) else none))) else (if pc < 39 then (if pc = 36 then some (.goto 4, 39, 40, 0, [], .null) else none) else (if pc < 40 then (if pc = 39 then some (.iconst 0, 40, 0, 0, [], .int 0) else none) else (if pc = 40 then some (.ireturn, 41, 0, 0, [], .null) else none)))))) else none
set_option maxRecDepth 20000 in
def cdX2_apply : PCode := fun pc => if pc < 98 then (if pc < 48 then (if pc < 22 then (if pc < 12 then (if pc < 7 then (if pc < 1 then (if pc = 0 then some (.aload_n 0, 1, 0, 0, [], .null) else none) else (if pc < 4 then (if pc = 1 then some (.getfield 28, 4, 3, 1, [], .null) else none) else (if pc = 4 then some (.getfield 75, 7, 6, 6, [], .null) else none))) else (if pc < 8 then (if pc = 7 then some (.lstore_n 1, 8, 1, 0, [], .null) else none) else (if pc < 9 then (if pc = 8 then some (.lload_n 1, 9, 1, 0, [], .null) else none) else (if pc = 9 then some (.invokestatic 158, 12, 95, 1, [], .null) else none)))) else (if pc < 17 then (if pc < 15 then (if pc = 12 then some (.ifCond .eq 9, 15, 21, 0, [], .null) else none) else (if pc < 16 then (if pc = 15 then some (.aload_n 0, 16, 0, 0, [], .null) else none) else (if pc = 16 then some (.lload_n 1, 17, 1, 0, [], .null) else none))) else (if pc < 20 then (if pc = 17 then some (.invokevirtual 215, 20, 47, 2, [], .null) else none) else (if pc < 21 then (if pc = 20 then some (.return_, 21, 0, 0, [], .null) else none) else (if pc = 21 then some (.lload_n 1, 22, 1, 0, [], .null) else none))))) else (if pc < 36 then (if pc < 29 then (if pc < 25 then (if pc = 22 then some (.invokestatic 106, 25, 97, 1, [], .null) else none) else (if pc < 28 then (if pc = 25 then some (.ifCond .eq 14, 28, 39, 0, [], .null) else none) else (if pc = 28 then some (.aload_n 0, 29, 0, 0, [], .null) else none))) else (if pc < 32 then (if pc = 29 then some (.getfield 24, 32, 3, 0, [], .null) else none) else (if pc < 33 then (if pc = 32 then some (.lload_n 1, 33, 1, 0, [], .null) else none) else (if pc = 33 then some (.invokevirtual 111, 36, 8, 2, [], .null) else none)))) else (if pc < 43 then (if pc < 39 then (if pc = 36 then some (.goto 6, 39, 42, 0, [], .null) else none) else (if pc < 42 then (if pc = 39 then some (.ldc2_w 130, 42, 0, 0, [], .long (-1)) else none) else (if pc = 42 then some (.lstore_n 3, 43, 3, 0, [], .null) else none))) else (if pc < 44 then (if pc = 43 then some (.lload_n 3, 44, 3, 0, [], .null) else none) else (if pc < 47 then (if pc = 44 then some (.ldc2_w 218, 47, 0, 0, [], .long 5) else none) else (if pc = 47 then some (.lcmp, 48, 0, 0, [], .null) else none)))))) else (if pc < 72 then (if pc < 60 then (if pc < 53 then (if pc < 51 then (if pc = 48 then some (.ifCond .ne 11, 51, 59, 0, [], .null) else none) else (if pc < 52 then (if pc = 51 then some (.aload_n 0, 52, 0, 0, [], .null) else none) else (if pc = 52 then some (.lload_n 1, 53, 1, 0, [], .null) else none))) else (if pc < 56 then (if pc = 53 then some (.invokevirtual 220, 56, 48, 2, [], .null) else none) else (if pc < 59 then (if pc = 56 then some (.goto 41, 59, 97, 0, [], .null) else none) else (if pc = 59 then some (.lload_n 3, 60, 3, 0, [], .null) else none)))) else (if pc < 67 then (if pc < 63 then (if pc = 60 then some (.ldc2_w 223, 63, 0, 0, [], .long 6) else none) else (if pc < 64 then (if pc = 63 then some (.lcmp, 64, 0, 0, [], .null) else none) else (if pc = 64 then some (.ifCond .ne 11, 67, 75, 0, [], .null) else none))) else (if pc < 68 then (if pc = 67 then some (.aload_n 0, 68, 0, 0, [], .null) else none) else (if pc < 69 then (if pc = 68 then some (.lload_n 1, 69, 1, 0, [], .null) else none) else (if pc = 69 then some (.invokevirtual 225, 72, 51, 2, [], .null) else none))))) else (if pc < 84 then (if pc < 79 then (if pc < 75 then (if pc = 72 then some (.goto 25, 75, 97, 0, [], .null) else none) else (if pc < 76 then (if pc = 75 then some (.lload_n 3, 76, 3, 0, [], .null) else none) else (if pc = 76 then some (.ldc2_w 173, 79, 0, 0, [], .long 7) else none))) else (if pc < 80 then (if pc = 79 then some (.lcmp, 80, 0, 0, [], .null) else none) else (if pc < 83 then (if pc = 80 then some (.ifCond .ne 11, 83, 91, 0, [], .null) else none) else (if pc = 83 then some (.aload_n 0, 84, 0, 0, [], .null) else none)))) else (if pc < 91 then (if pc < 85 then (if pc = 84 then some (.lload_n 1, 85, 1, 0, [], .null) else none) else (if pc < 88 then (if pc = 85 then some (.invokevirtual 228, 88, 52, 2, [], .null) else none) else (if pc = 88 then some (.goto 9, 91, 97, 0, [], .null) else none))) else (if pc < 94 then (if pc < 92 then (if pc = 91 then some (.aload_n 0, 92, 0, 0, [], .null) else none) else (if pc = 92 then some (.bipush 10, 94, 0, 0, [], .int 10) else none)) else (if pc < 97 then (if pc = 94 then some (.invokevirtual 103, 97, 24, 2, [], .null) else none) else (if pc = 97 then some (.return_, 98, 0, 0, [], .null) else none))))))) else none
set_option maxRecDepth 20000 in
def cdX2_applySymbol : PCode := fun pc => if pc < 53 then (if pc < 26 then (if pc < 13 then (if pc < 7 then (if pc < 1 then (if pc = 0 then some (.aload_n 0, 1, 0, 0, [], .null) else none) else (if pc < 4 then (if pc = 1 then some (.getfield 28, 4, 3, 1, [], .null) else none) else (if pc = 4 then some (.getfield 212, 7, 6, 0, [], .null) else none))) else (if pc < 9 then (if pc < 8 then (if pc = 7 then some (.lload_n 1, 8, 1, 0, [], .null) else none) else (if pc = 8 then some (.l2i, 9, 0, 0, [], .null) else none)) else (if pc < 12 then (if pc = 9 then some (.invokevirtual 188, 12, 84, 2, [], .null) else none) else (if pc = 12 then some (.lstore_n 3, 13, 3, 0, [], .null) else none)))) else (if pc < 18 then (if pc < 14 then (if pc = 13 then some (.lload_n 3, 14, 3, 0, [], .null) else none) else (if pc < 17 then (if pc = 14 then some (.ldc2_w 130, 17, 0, 0, [], .long (-1)) else none) else (if pc = 17 then some (.lcmp, 18, 0, 0, [], .null) else none))) else (if pc < 22 then (if pc < 21 then (if pc = 18 then some (.ifCond .ne 9, 21, 27, 0, [], .null) else none) else (if pc = 21 then some (.aload_n 0, 22, 0, 0, [], .null) else none)) else (if pc < 23 then (if pc = 22 then some (.lload_n 1, 23, 1, 0, [], .null) else none) else (if pc = 23 then some (.invokevirtual 161, 26, 33, 2, [], .null) else none))))) else (if pc < 38 then (if pc < 31 then (if pc < 27 then (if pc = 26 then some (.lstore_n 3, 27, 3, 0, [], .null) else none) else (if pc < 28 then (if pc = 27 then some (.lload_n 3, 28, 3, 0, [], .null) else none) else (if pc = 28 then some (.ldc2_w 130, 31, 0, 0, [], .long (-1)) else none))) else (if pc < 35 then (if pc < 32 then (if pc = 31 then some (.lcmp, 32, 0, 0, [], .null) else none) else (if pc = 32 then some (.ifCond .ne 12, 35, 44, 0, [], .null) else none)) else (if pc < 36 then (if pc = 35 then some (.aload_n 0, 36, 0, 0, [], .null) else none) else (if pc = 36 then some (.bipush 10, 38, 0, 0, [], .int 10) else none)))) else (if pc < 45 then (if pc < 41 then (if pc = 38 then some (.invokevirtual 103, 41, 24, 2, [], .null) else none) else (if pc < 44 then (if pc = 41 then some (.goto 11, 44, 52, 0, [], .null) else none) else (if pc = 44 then some (.aload_n 0, 45, 0, 0, [], .null) else none))) else (if pc < 49 then (if pc < 48 then (if pc = 45 then some (.getfield 28, 48, 3, 1, [], .null) else none) else (if pc = 48 then some (.lload_n 3, 49, 3, 0, [], .null) else none)) else (if pc < 52 then (if pc = 49 then some (.putfield 75, 52, 6, 6, [], .null) else none) else (if pc = 52 then some (.return_, 53, 0, 0, [], .null) else none)))))) else none
set_option maxRecDepth 20000 in
def cdX2_applyLambda : PCode := fun pc => if pc < 125 then (if pc < 58 then (if pc < 28 then (if pc < 11 then (if pc < 3 then (if pc < 1 then (if pc = 0 then some (.aload_n 0, 1, 0, 0, [], .null) else none) else (if pc < 2 then (if pc = 1 then some (.aload_n 0, 2, 0, 0, [], .null) else none) else (if pc = 2 then some (.lload_n 1, 3, 1, 0, [], .null) else none))) else (if pc < 9 then (if pc < 6 then (if pc = 3 then some (.invokevirtual 138, 6, 30, 2, [], .null) else none) else (if pc = 6 then some (.invokevirtual 231, 9, 49, 2, [], .null) else none)) else (if pc < 10 then (if pc = 9 then some (.istore_n 3, 10, 3, 0, [], .null) else none) else (if pc = 10 then some (.aload_n 0, 11, 0, 0, [], .null) else none)))) else (if pc < 18 then (if pc < 15 then (if pc < 12 then (if pc = 11 then some (.lload_n 1, 12, 1, 0, [], .null) else none) else (if pc = 12 then some (.invokevirtual 235, 15, 31, 2, [], .null) else none)) else (if pc < 17 then (if pc = 15 then some (.lstore 4, 17, 4, 0, [], .null) else none) else (if pc = 17 then some (.iload_n 3, 18, 3, 0, [], .null) else none))) else (if pc < 22 then (if pc < 19 then (if pc = 18 then some (.aload_n 0, 19, 0, 0, [], .null) else none) else (if pc = 19 then some (.getfield 37, 22, 3, 2, [], .null) else none)) else (if pc < 25 then (if pc = 22 then some (.invokevirtual 175, 25, 83, 1, [], .null) else none) else (if pc = 25 then some (.if_icmp .eq 9, 28, 34, 0, [], .null) else none))))) else (if pc < 42 then (if pc < 34 then (if pc < 29 then (if pc = 28 then some (.aload_n 0, 29, 0, 0, [], .null) else none) else (if pc < 31 then (if pc = 29 then some (.bipush 11, 31, 0, 0, [], .int 11) else none) else (if pc = 31 then some (.invokevirtual 103, 34, 24, 2, [], .null) else none))) else (if pc < 38 then (if pc < 35 then (if pc = 34 then some (.aload_n 0, 35, 0, 0, [], .null) else none) else (if pc = 35 then some (.getfield 37, 38, 3, 2, [], .null) else none)) else (if pc < 41 then (if pc = 38 then some (.invokevirtual 175, 41, 83, 1, [], .null) else none) else (if pc = 41 then some (.iconst 1, 42, 0, 0, [], .int 1) else none)))) else (if pc < 50 then (if pc < 45 then (if pc < 43 then (if pc = 42 then some (.isub, 43, 0, 0, [], .null) else none) else (if pc = 43 then some (.istore 6, 45, 6, 0, [], .null) else none)) else (if pc < 47 then (if pc = 45 then some (.iload 6, 47, 6, 0, [], .null) else none) else (if pc = 47 then some (.ifCond .lt 71, 50, 118, 0, [], .null) else none))) else (if pc < 54 then (if pc < 51 then (if pc = 50 then some (.aload_n 0, 51, 0, 0, [], .null) else none) else (if pc = 51 then some (.getfield 42, 54, 3, 10, [], .null) else none)) else (if pc < 57 then (if pc = 54 then some (.ifCond .ne 64, 57, 118, 0, [], .null) else none) else (if pc = 57 then some (.aload_n 0, 58, 0, 0, [], .null) else none)))))) else (if pc < 91 then (if pc < 73 then (if pc < 64 then (if pc < 59 then (if pc = 58 then some (.aload_n 0, 59, 0, 0, [], .null) else none) else (if pc < 62 then (if pc = 59 then some (.getfield 16, 62, 3, 4, [], .null) else none) else (if pc = 62 then some (.iload 6, 64, 6, 0, [], .null) else none))) else (if pc < 68 then (if pc < 67 then (if pc = 64 then some (.invokevirtual 188, 67, 84, 2, [], .null) else none) else (if pc = 67 then some (.aload_n 0, 68, 0, 0, [], .null) else none)) else (if pc < 71 then (if pc = 68 then some (.getfield 37, 71, 3, 2, [], .null) else none) else (if pc = 71 then some (.iload 6, 73, 6, 0, [], .null) else none)))) else (if pc < 82 then (if pc < 79 then (if pc < 76 then (if pc = 73 then some (.invokevirtual 188, 76, 84, 2, [], .null) else none) else (if pc = 76 then some (.invokevirtual 170, 79, 32, 3, [], .null) else none)) else (if pc < 81 then (if pc = 79 then some (.lstore 7, 81, 7, 0, [], .null) else none) else (if pc = 81 then some (.aload_n 0, 82, 0, 0, [], .null) else none))) else (if pc < 85 then (if pc < 84 then (if pc = 82 then some (.lload 7, 84, 7, 0, [], .null) else none) else (if pc = 84 then some (.aload_n 0, 85, 0, 0, [], .null) else none)) else (if pc < 88 then (if pc = 85 then some (.getfield 28, 88, 3, 1, [], .null) else none) else (if pc = 88 then some (.getfield 91, 91, 6, 5, [], .null) else none))))) else (if pc < 107 then (if pc < 97 then (if pc < 94 then (if pc = 91 then some (.invokevirtual 170, 94, 32, 3, [], .null) else none) else (if pc < 96 then (if pc = 94 then some (.lstore 9, 96, 9, 0, [], .null) else none) else (if pc = 96 then some (.aload_n 0, 97, 0, 0, [], .null) else none))) else (if pc < 103 then (if pc < 100 then (if pc = 97 then some (.getfield 42, 100, 3, 10, [], .null) else none) else (if pc = 100 then some (.ifCond .ne 12, 103, 112, 0, [], .null) else none)) else (if pc < 104 then (if pc = 103 then some (.aload_n 0, 104, 0, 0, [], .null) else none) else (if pc = 104 then some (.getfield 28, 107, 3, 1, [], .null) else none)))) else (if pc < 118 then (if pc < 112 then (if pc < 109 then (if pc = 107 then some (.lload 9, 109, 9, 0, [], .null) else none) else (if pc = 109 then some (.putfield 91, 112, 6, 5, [], .null) else none)) else (if pc < 115 then (if pc = 112 then some (.iinc 6 (-1), 115, 6, 0, [], .int (-1)) else none) else (if pc = 115 then some (.goto (-70), 118, 45, 0, [], .null) else none))) else (if pc < 121 then (if pc < 119 then (if pc = 118 then some (.aload_n 0, 119, 0, 0, [], .null) else none) else (if pc = 119 then some (.lload 4, 121, 4, 0, [], .null) else none)) else (if pc < 124 then (if pc = 121 then some (.invokevirtual 167, 124, 27, 2, [], .null) else none) else (if pc = 124 then some (.return_, 125, 0, 0, [], .null) else none))))))) else none
set_option maxRecDepth 20000 in
def cdX2_lookAtVariables : PCode := fun pc => if pc < 85 then (if pc < 42 then (if pc < 17 then (if pc < 9 then (if pc < 4 then (if pc < 1 then (if pc = 0 then some (.aload_n 0, 1, 0, 0, [], .null) else none) else (if pc = 1 then some (.getfield 16, 4, 3, 4, [], .null) else none)) else (if pc < 5 then (if pc = 4 then some (.iconst 0, 5, 0, 0, [], .int 0) else none) else (if pc < 8 then (if pc = 5 then some (.invokevirtual 94, 8, 87, 2, [], .null) else none) else (if pc = 8 then some (.iconst 0, 9, 0, 0, [], .int 0) else none)))) else (if pc < 11 then (if pc < 10 then (if pc = 9 then some (.istore_n 3, 10, 3, 0, [], .null) else none) else (if pc = 10 then some (.lload_n 1, 11, 1, 0, [], .null) else none)) else (if pc < 13 then (if pc = 11 then some (.lstore 4, 13, 4, 0, [], .null) else none) else (if pc < 14 then (if pc = 13 then some (.iload_n 3, 14, 3, 0, [], .null) else none) else (if pc = 14 then some (.sipush 2000, 17, 0, 0, [], .int 2000) else none))))) else (if pc < 29 then (if pc < 22 then (if pc < 20 then (if pc = 17 then some (.if_icmp .ge 54, 20, 71, 0, [], .null) else none) else (if pc = 20 then some (.lload 4, 22, 4, 0, [], .null) else none)) else (if pc < 25 then (if pc = 22 then some (.invokestatic 106, 25, 97, 1, [], .null) else none) else (if pc < 28 then (if pc = 25 then some (.ifCond .eq 46, 28, 71, 0, [], .null) else none) else (if pc = 28 then some (.aload_n 0, 29, 0, 0, [], .null) else none)))) else (if pc < 37 then (if pc < 32 then (if pc = 29 then some (.getfield 24, 32, 3, 0, [], .null) else none) else (if pc < 34 then (if pc = 32 then some (.lload 4, 34, 4, 0, [], .null) else none) else (if pc = 34 then some (.invokevirtual 111, 37, 8, 2, [], .null) else none))) else (if pc < 39 then (if pc = 37 then some (.lstore 6, 39, 6, 0, [], .null) else none) else (if pc < 40 then (if pc = 39 then some (.aload_n 0, 40, 0, 0, [], .null) else none) else (if pc = 40 then some (.lload 6, 42, 6, 0, [], .null) else none)))))) else (if pc < 65 then (if pc < 54 then (if pc < 46 then (if pc < 45 then (if pc = 42 then some (.invokevirtual 238, 45, 50, 2, [], .null) else none) else (if pc = 45 then some (.aload_n 0, 46, 0, 0, [], .null) else none)) else (if pc < 49 then (if pc = 46 then some (.getfield 16, 49, 3, 4, [], .null) else none) else (if pc < 51 then (if pc = 49 then some (.lload 6, 51, 6, 0, [], .null) else none) else (if pc = 51 then some (.invokevirtual 185, 54, 86, 2, [], .null) else none)))) else (if pc < 58 then (if pc < 55 then (if pc = 54 then some (.aload_n 0, 55, 0, 0, [], .null) else none) else (if pc = 55 then some (.getfield 24, 58, 3, 0, [], .null) else none)) else (if pc < 60 then (if pc = 58 then some (.lload 4, 60, 4, 0, [], .null) else none) else (if pc < 63 then (if pc = 60 then some (.invokevirtual 117, 63, 9, 2, [], .null) else none) else (if pc = 63 then some (.lstore 4, 65, 4, 0, [], .null) else none))))) else (if pc < 75 then (if pc < 71 then (if pc < 68 then (if pc = 65 then some (.iinc 3 1, 68, 3, 0, [], .int 1) else none) else (if pc = 68 then some (.goto (-55), 71, 13, 0, [], .null) else none)) else (if pc < 73 then (if pc = 71 then some (.lload 4, 73, 4, 0, [], .null) else none) else (if pc < 74 then (if pc = 73 then some (.lconst 0, 74, 0, 0, [], .long 0) else none) else (if pc = 74 then some (.lcmp, 75, 0, 0, [], .null) else none)))) else (if pc < 80 then (if pc < 78 then (if pc = 75 then some (.ifCond .eq 8, 78, 83, 0, [], .null) else none) else (if pc < 79 then (if pc = 78 then some (.aload_n 0, 79, 0, 0, [], .null) else none) else (if pc = 79 then some (.iconst 5, 80, 0, 0, [], .int 5) else none))) else (if pc < 83 then (if pc = 80 then some (.invokevirtual 103, 83, 24, 2, [], .null) else none) else (if pc < 84 then (if pc = 83 then some (.iload_n 3, 84, 3, 0, [], .null) else none) else (if pc = 84 then some (.ireturn, 85, 0, 0, [], .null) else none))))))) else none
set_option maxRecDepth 20000 in
def cdX2_askVariable : PCode := fun pc => if pc < 25 then (if pc < 13 then (if pc < 7 then (if pc < 1 then (if pc = 0 then some (.lload_n 1, 1, 1, 0, [], .null) else none) else (if pc < 4 then (if pc = 1 then some (.invokestatic 158, 4, 95, 1, [], .null) else none) else (if pc = 4 then some (.ifCond .eq 15, 7, 19, 0, [], .null) else none))) else (if pc < 9 then (if pc < 8 then (if pc = 7 then some (.lload_n 1, 8, 1, 0, [], .null) else none) else (if pc = 8 then some (.lconst 0, 9, 0, 0, [], .long 0) else none)) else (if pc < 10 then (if pc = 9 then some (.lcmp, 10, 0, 0, [], .null) else none) else (if pc = 10 then some (.ifCond .eq 9, 13, 19, 0, [], .null) else none)))) else (if pc < 19 then (if pc < 15 then (if pc < 14 then (if pc = 13 then some (.lload_n 1, 14, 1, 0, [], .null) else none) else (if pc = 14 then some (.lconst 1, 15, 0, 0, [], .long 1) else none)) else (if pc < 16 then (if pc = 15 then some (.lcmp, 16, 0, 0, [], .null) else none) else (if pc = 16 then some (.ifCond .ne 8, 19, 24, 0, [], .null) else none))) else (if pc < 21 then (if pc < 20 then (if pc = 19 then some (.aload_n 0, 20, 0, 0, [], .null) else none) else (if pc = 20 then some (.iconst 5, 21, 0, 0, [], .int 5) else none)) else (if pc < 24 then (if pc = 21 then some (.invokevirtual 103, 24, 24, 2, [], .null) else none) else (if pc = 24 then some (.return_, 25, 0, 0, [], .null) else none))))) else none
set_option maxRecDepth 20000 in
def cdX2_applyLabel : PCode := fun pc => if pc < 68 then (if pc < 28 then (if pc < 13 then (if pc < 6 then (if pc < 2 then (if pc < 1 then (if pc = 0 then some (.aload_n 0, 1, 0, 0, [], .null) else none) else (if pc = 1 then some (.lload_n 1, 2, 1, 0, [], .null) else none)) else (if pc < 5 then (if pc = 2 then some (.invokevirtual 138, 5, 30, 2, [], .null) else none) else (if pc = 5 then some (.lstore_n 3, 6, 3, 0, [], .null) else none))) else (if pc < 8 then (if pc < 7 then (if pc = 6 then some (.aload_n 0, 7, 0, 0, [], .null) else none) else (if pc = 7 then some (.lload_n 1, 8, 1, 0, [], .null) else none)) else (if pc < 11 then (if pc = 8 then some (.invokevirtual 235, 11, 31, 2, [], .null) else none) else (if pc = 11 then some (.lstore 5, 13, 5, 0, [], .null) else none)))) else (if pc < 19 then (if pc < 15 then (if pc < 14 then (if pc = 13 then some (.aload_n 0, 14, 0, 0, [], .null) else none) else (if pc = 14 then some (.lload_n 3, 15, 3, 0, [], .null) else none)) else (if pc < 18 then (if pc = 15 then some (.invokevirtual 238, 18, 50, 2, [], .null) else none) else (if pc = 18 then some (.aload_n 0, 19, 0, 0, [], .null) else none))) else (if pc < 22 then (if pc < 20 then (if pc = 19 then some (.lload_n 3, 20, 3, 0, [], .null) else none) else (if pc = 20 then some (.lload 5, 22, 5, 0, [], .null) else none)) else (if pc < 25 then (if pc = 22 then some (.invokevirtual 170, 25, 32, 3, [], .null) else none) else (if pc < 27 then (if pc = 25 then some (.lstore 7, 27, 7, 0, [], .null) else none) else (if pc = 27 then some (.aload_n 0, 28, 0, 0, [], .null) else none)))))) else (if pc < 49 then (if pc < 37 then (if pc < 31 then (if pc < 30 then (if pc = 28 then some (.lload 7, 30, 7, 0, [], .null) else none) else (if pc = 30 then some (.aload_n 0, 31, 0, 0, [], .null) else none)) else (if pc < 34 then (if pc = 31 then some (.getfield 28, 34, 3, 1, [], .null) else none) else (if pc = 34 then some (.getfield 91, 37, 6, 5, [], .null) else none))) else (if pc < 42 then (if pc < 40 then (if pc = 37 then some (.invokevirtual 170, 40, 32, 3, [], .null) else none) else (if pc = 40 then some (.lstore 9, 42, 9, 0, [], .null) else none)) else (if pc < 43 then (if pc = 42 then some (.aload_n 0, 43, 0, 0, [], .null) else none) else (if pc < 46 then (if pc = 43 then some (.getfield 42, 46, 3, 10, [], .null) else none) else (if pc = 46 then some (.ifCond .ne 21, 49, 67, 0, [], .null) else none))))) else (if pc < 58 then (if pc < 53 then (if pc < 50 then (if pc = 49 then some (.aload_n 0, 50, 0, 0, [], .null) else none) else (if pc = 50 then some (.getfield 28, 53, 3, 1, [], .null) else none)) else (if pc < 55 then (if pc = 53 then some (.lload 9, 55, 9, 0, [], .null) else none) else (if pc = 55 then some (.putfield 91, 58, 6, 5, [], .null) else none))) else (if pc < 62 then (if pc < 59 then (if pc = 58 then some (.aload_n 0, 59, 0, 0, [], .null) else none) else (if pc = 59 then some (.getfield 28, 62, 3, 1, [], .null) else none)) else (if pc < 64 then (if pc = 62 then some (.lload 5, 64, 5, 0, [], .null) else none) else (if pc < 67 then (if pc = 64 then some (.putfield 75, 67, 6, 6, [], .null) else none) else (if pc = 67 then some (.return_, 68, 0, 0, [], .null) else none))))))) else none
set_option maxRecDepth 20000 in
def cdX2_applyFunarg : PCode := fun pc => if pc < 38 then (if pc < 17 then (if pc < 7 then (if pc < 2 then (if pc < 1 then (if pc = 0 then some (.aload_n 0, 1, 0, 0, [], .null) else none) else (if pc = 1 then some (.lload_n 1, 2, 1, 0, [], .null) else none)) else (if pc < 5 then (if pc = 2 then some (.invokevirtual 138, 5, 30, 2, [], .null) else none) else (if pc < 6 then (if pc = 5 then some (.lstore_n 3, 6, 3, 0, [], .null) else none) else (if pc = 6 then some (.aload_n 0, 7, 0, 0, [], .null) else none)))) else (if pc < 11 then (if pc < 8 then (if pc = 7 then some (.lload_n 1, 8, 1, 0, [], .null) else none) else (if pc = 8 then some (.invokevirtual 235, 11, 31, 2, [], .null) else none)) else (if pc < 13 then (if pc = 11 then some (.lstore 5, 13, 5, 0, [], .null) else none) else (if pc < 14 then (if pc = 13 then some (.aload_n 0, 14, 0, 0, [], .null) else none) else (if pc = 14 then some (.getfield 42, 17, 3, 10, [], .null) else none))))) else (if pc < 28 then (if pc < 21 then (if pc < 20 then (if pc = 17 then some (.ifCond .ne 20, 20, 37, 0, [], .null) else none) else (if pc = 20 then some (.aload_n 0, 21, 0, 0, [], .null) else none)) else (if pc < 24 then (if pc = 21 then some (.getfield 28, 24, 3, 1, [], .null) else none) else (if pc < 25 then (if pc = 24 then some (.lload_n 3, 25, 3, 0, [], .null) else none) else (if pc = 25 then some (.putfield 75, 28, 6, 6, [], .null) else none)))) else (if pc < 32 then (if pc < 29 then (if pc = 28 then some (.aload_n 0, 29, 0, 0, [], .null) else none) else (if pc = 29 then some (.getfield 28, 32, 3, 1, [], .null) else none)) else (if pc < 34 then (if pc = 32 then some (.lload 5, 34, 5, 0, [], .null) else none) else (if pc < 37 then (if pc = 34 then some (.putfield 91, 37, 6, 5, [], .null) else none) else (if pc = 37 then some (.return_, 38, 0, 0, [], .null) else none)))))) else none
set_option maxRecDepth 20000 in
def cdX2_applyBuiltIn : PCode := fun pc => if pc < 260 then (if pc < 150 then (if pc < 50 then (if pc < 26 then (if pc < 10 then (if pc < 7 then (if pc < 1 then (if pc = 0 then some (.aload_n 0, 1, 0, 0, [], .null) else none) else (if pc < 4 then (if pc = 1 then some (.getfield 28, 4, 3, 1, [], .null) else none) else (if pc = 4 then some (.getfield 75, 7, 6, 6, [], .null) else none))) else (if pc < 8 then (if pc = 7 then some (.l2i, 8, 0, 0, [], .null) else none) else (if pc < 9 then (if pc = 8 then some (.istore_n 1, 9, 1, 0, [], .null) else none) else (if pc = 9 then some (.iload_n 1, 10, 1, 0, [], .null) else none)))) else (if pc < 16 then (if pc < 12 then (if pc = 10 then some (.bipush 14, 12, 0, 0, [], .int 14) else none) else (if pc < 15 then (if pc = 12 then some (.if_icmp .eq 24, 15, 36, 0, [], .null) else none) else (if pc = 15 then some (.aload_n 0, 16, 0, 0, [], .null) else none))) else (if pc < 22 then (if pc < 19 then (if pc = 16 then some (.getfield 37, 19, 3, 2, [], .null) else none) else (if pc = 19 then some (.invokevirtual 175, 22, 83, 1, [], .null) else none)) else (if pc < 23 then (if pc = 22 then some (.iload_n 1, 23, 1, 0, [], .null) else none) else (if pc = 23 then some (.invokestatic 241, 26, 54, 1, [], .null) else none))))) else (if pc < 37 then (if pc < 32 then (if pc < 29 then (if pc = 26 then some (.if_icmp .eq 10, 29, 36, 0, [], .null) else none) else (if pc < 30 then (if pc = 29 then some (.aload_n 0, 30, 0, 0, [], .null) else none) else (if pc = 30 then some (.bipush 11, 32, 0, 0, [], .int 11) else none))) else (if pc < 35 then (if pc = 32 then some (.invokevirtual 103, 35, 24, 2, [], .null) else none) else (if pc < 36 then (if pc = 35 then some (.return_, 36, 0, 0, [], .null) else none) else (if pc = 36 then some (.aload_n 0, 37, 0, 0, [], .null) else none)))) else (if pc < 44 then (if pc < 40 then (if pc = 37 then some (.getfield 37, 40, 3, 2, [], .null) else none) else (if pc < 41 then (if pc = 40 then some (.iconst 0, 41, 0, 0, [], .int 0) else none) else (if pc = 41 then some (.invokevirtual 188, 44, 84, 2, [], .null) else none))) else (if pc < 46 then (if pc < 45 then (if pc = 44 then some (.lstore_n 2, 45, 2, 0, [], .null) else none) else (if pc = 45 then some (.aload_n 0, 46, 0, 0, [], .null) else none)) else (if pc < 49 then (if pc = 46 then some (.getfield 37, 49, 3, 2, [], .null) else none) else (if pc = 49 then some (.iconst 1, 50, 0, 0, [], .int 1) else none)))))) else (if pc < 124 then (if pc < 110 then (if pc < 56 then (if pc < 53 then (if pc = 50 then some (.invokevirtual 188, 53, 84, 2, [], .null) else none) else (if pc < 55 then (if pc = 53 then some (.lstore 4, 55, 4, 0, [], .null) else none) else (if pc = 55 then some (.iload_n 1, 56, 1, 0, [], .null) else none))) else (if pc < 108 then (if pc = 56 then some (.tableswitch 195 8 16 #[52, 52, 71, 85, 107, 136, 157, 164, 181], 108, 251, 0, [108, 108, 127, 141, 163, 192, 213, 220, 237], .null) else none) else (if pc < 109 then (if pc = 108 then some (.aload_n 0, 109, 0, 0, [], .null) else none) else (if pc = 109 then some (.lload_n 2, 110, 2, 0, [], .null) else none)))) else (if pc < 116 then (if pc < 111 then (if pc = 110 then some (.iload_n 1, 111, 1, 0, [], .null) else none) else (if pc < 113 then (if pc = 111 then some (.bipush 8, 113, 0, 0, [], .int 8) else none) else (if pc = 113 then some (.if_icmp .ne 7, 116, 120, 0, [], .null) else none))) else (if pc < 120 then (if pc < 117 then (if pc = 116 then some (.iconst 1, 117, 0, 0, [], .int 1) else none) else (if pc = 117 then some (.goto 4, 120, 121, 0, [], .null) else none)) else (if pc < 121 then (if pc = 120 then some (.iconst 0, 121, 0, 0, [], .int 0) else none) else (if pc = 121 then some (.invokevirtual 245, 124, 55, 3, [], .null) else none))))) else (if pc < 135 then (if pc < 129 then (if pc < 127 then (if pc = 124 then some (.goto 135, 127, 259, 0, [], .null) else none) else (if pc < 128 then (if pc = 127 then some (.aload_n 0, 128, 0, 0, [], .null) else none) else (if pc = 128 then some (.aload_n 0, 129, 0, 0, [], .null) else none))) else (if pc < 130 then (if pc = 129 then some (.lload_n 2, 130, 2, 0, [], .null) else none) else (if pc < 132 then (if pc = 130 then some (.lload 4, 132, 4, 0, [], .null) else none) else (if pc = 132 then some (.invokevirtual 170, 135, 32, 3, [], .null) else none)))) else (if pc < 142 then (if pc < 138 then (if pc = 135 then some (.invokevirtual 141, 138, 26, 2, [], .null) else none) else (if pc < 141 then (if pc = 138 then some (.goto 121, 141, 259, 0, [], .null) else none) else (if pc = 141 then some (.aload_n 0, 142, 0, 0, [], .null) else none))) else (if pc < 146 then (if pc < 143 then (if pc = 142 then some (.lload_n 2, 143, 2, 0, [], .null) else none) else (if pc = 143 then some (.invokestatic 106, 146, 97, 1, [], .null) else none)) else (if pc < 149 then (if pc = 146 then some (.ifCond .ne 7, 149, 153, 0, [], .null) else none) else (if pc = 149 then some (.iconst 1, 150, 0, 0, [], .int 1) else none))))))) else (if pc < 203 then (if pc < 178 then (if pc < 164 then (if pc < 157 then (if pc < 153 then (if pc = 150 then some (.goto 4, 153, 154, 0, [], .null) else none) else (if pc < 154 then (if pc = 153 then some (.iconst 0, 154, 0, 0, [], .int 0) else none) else (if pc = 154 then some (.invokestatic 249, 157, 100, 1, [], .null) else none))) else (if pc < 160 then (if pc = 157 then some (.invokevirtual 141, 160, 26, 2, [], .null) else none) else (if pc < 163 then (if pc = 160 then some (.goto 99, 163, 259, 0, [], .null) else none) else (if pc = 163 then some (.aload_n 0, 164, 0, 0, [], .null) else none)))) else (if pc < 168 then (if pc < 165 then (if pc = 164 then some (.lload_n 2, 165, 2, 0, [], .null) else none) else (if pc < 167 then (if pc = 165 then some (.lload 4, 167, 4, 0, [], .null) else none) else (if pc = 167 then some (.lcmp, 168, 0, 0, [], .null) else none))) else (if pc < 172 then (if pc < 171 then (if pc = 168 then some (.ifCond .ne 14, 171, 182, 0, [], .null) else none) else (if pc = 171 then some (.lload_n 2, 172, 2, 0, [], .null) else none)) else (if pc < 175 then (if pc = 172 then some (.invokestatic 106, 175, 97, 1, [], .null) else none) else (if pc = 175 then some (.ifCond .ne 7, 178, 182, 0, [], .null) else none))))) else (if pc < 192 then (if pc < 183 then (if pc < 179 then (if pc = 178 then some (.iconst 1, 179, 0, 0, [], .int 1) else none) else (if pc < 182 then (if pc = 179 then some (.goto 4, 182, 183, 0, [], .null) else none) else (if pc = 182 then some (.iconst 0, 183, 0, 0, [], .int 0) else none))) else (if pc < 186 then (if pc = 183 then some (.invokestatic 249, 186, 100, 1, [], .null) else none) else (if pc < 189 then (if pc = 186 then some (.invokevirtual 141, 189, 26, 2, [], .null) else none) else (if pc = 189 then some (.goto 70, 192, 259, 0, [], .null) else none)))) else (if pc < 195 then (if pc < 193 then (if pc = 192 then some (.aload_n 0, 193, 0, 0, [], .null) else none) else (if pc < 194 then (if pc = 193 then some (.lload_n 2, 194, 2, 0, [], .null) else none) else (if pc = 194 then some (.lconst 0, 195, 0, 0, [], .long 0) else none))) else (if pc < 199 then (if pc < 196 then (if pc = 195 then some (.lcmp, 196, 0, 0, [], .null) else none) else (if pc = 196 then some (.ifCond .ne 7, 199, 203, 0, [], .null) else none)) else (if pc < 200 then (if pc = 199 then some (.iconst 1, 200, 0, 0, [], .int 1) else none) else (if pc = 200 then some (.goto 4, 203, 204, 0, [], .null) else none)))))) else (if pc < 231 then (if pc < 217 then (if pc < 210 then (if pc < 204 then (if pc = 203 then some (.iconst 0, 204, 0, 0, [], .int 0) else none) else (if pc < 207 then (if pc = 204 then some (.invokestatic 249, 207, 100, 1, [], .null) else none) else (if pc = 207 then some (.invokevirtual 141, 210, 26, 2, [], .null) else none))) else (if pc < 213 then (if pc = 210 then some (.goto 49, 213, 259, 0, [], .null) else none) else (if pc < 214 then (if pc = 213 then some (.aload_n 0, 214, 0, 0, [], .null) else none) else (if pc = 214 then some (.invokevirtual 253, 217, 56, 1, [], .null) else none)))) else (if pc < 224 then (if pc < 220 then (if pc = 217 then some (.goto 42, 220, 259, 0, [], .null) else none) else (if pc < 221 then (if pc = 220 then some (.aload_n 0, 221, 0, 0, [], .null) else none) else (if pc = 221 then some (.getfield 28, 224, 3, 1, [], .null) else none))) else (if pc < 229 then (if pc < 226 then (if pc = 224 then some (.lload 4, 226, 4, 0, [], .null) else none) else (if pc = 226 then some (.putfield 91, 229, 6, 5, [], .null) else none)) else (if pc < 230 then (if pc = 229 then some (.aload_n 0, 230, 0, 0, [], .null) else none) else (if pc = 230 then some (.lload_n 2, 231, 2, 0, [], .null) else none))))) else (if pc < 248 then (if pc < 238 then (if pc < 234 then (if pc = 231 then some (.invokevirtual 167, 234, 27, 2, [], .null) else none) else (if pc < 237 then (if pc = 234 then some (.goto 25, 237, 259, 0, [], .null) else none) else (if pc = 237 then some (.aload_n 0, 238, 0, 0, [], .null) else none))) else (if pc < 242 then (if pc < 239 then (if pc = 238 then some (.lload_n 2, 239, 2, 0, [], .null) else none) else (if pc = 239 then some (.invokestatic 256, 242, 96, 1, [], .null) else none)) else (if pc < 245 then (if pc = 242 then some (.invokestatic 249, 245, 100, 1, [], .null) else none) else (if pc = 245 then some (.invokevirtual 141, 248, 26, 2, [], .null) else none)))) else (if pc < 253 then (if pc < 251 then (if pc = 248 then some (.goto 11, 251, 259, 0, [], .null) else none) else (if pc < 252 then (if pc = 251 then some (.aload_n 0, 252, 0, 0, [], .null) else none) else (if pc = 252 then some (.iload_n 1, 253, 1, 0, [], .null) else none))) else (if pc < 256 then (if pc < 254 then (if pc = 253 then some (.lload_n 2, 254, 2, 0, [], .null) else none) else (if pc = 254 then some (.lload 4, 256, 4, 0, [], .null) else none)) else (if pc < 259 then (if pc = 256 then some (.invokevirtual 259, 259, 57, 4, [], .null) else none) else (if pc = 259 then some (.return_, 260, 0, 0, [], .null) else none)))))))) else none
set_option maxRecDepth 20000 in
def cdX2_valuesWanted : PCode := fun pc => if pc < 56 then (if pc < 53 then (if pc < 1 then (if pc = 0 then some (.iload_n 0, 1, 0, 0, [], .null) else none) else (if pc < 52 then (if pc = 1 then some (.tableswitch 53 8 16 #[51, 51, 53, 51, 53, 51, 53, 53, 51], 52, 54, 0, [52, 52, 54, 52, 54, 52, 54, 54, 52], .null) else none) else (if pc = 52 then some (.iconst 1, 53, 0, 0, [], .int 1) else none))) else (if pc < 54 then (if pc = 53 then some (.ireturn, 54, 0, 0, [], .null) else none) else (if pc < 55 then (if pc = 54 then some (.iconst 2, 55, 0, 0, [], .int 2) else none) else (if pc = 55 then some (.ireturn, 56, 0, 0, [], .null) else none)))) else none
set_option maxRecDepth 20000 in
def cdX2_givePart : PCode := fun pc => if pc < 42 then (if pc < 19 then (if pc < 10 then (if pc < 4 then (if pc < 1 then (if pc = 0 then some (.lload_n 1, 1, 1, 0, [], .null) else none) else (if pc = 1 then some (.invokestatic 106, 4, 97, 1, [], .null) else none)) else (if pc < 7 then (if pc = 4 then some (.ifCond .ne 10, 7, 14, 0, [], .null) else none) else (if pc < 8 then (if pc = 7 then some (.aload_n 0, 8, 0, 0, [], .null) else none) else (if pc = 8 then some (.bipush 13, 10, 0, 0, [], .int 13) else none)))) else (if pc < 14 then (if pc < 13 then (if pc = 10 then some (.invokevirtual 103, 13, 24, 2, [], .null) else none) else (if pc = 13 then some (.return_, 14, 0, 0, [], .null) else none)) else (if pc < 15 then (if pc = 14 then some (.aload_n 0, 15, 0, 0, [], .null) else none) else (if pc < 16 then (if pc = 15 then some (.iload_n 3, 16, 3, 0, [], .null) else none) else (if pc = 16 then some (.ifCond .eq 14, 19, 30, 0, [], .null) else none))))) else (if pc < 30 then (if pc < 23 then (if pc < 20 then (if pc = 19 then some (.aload_n 0, 20, 0, 0, [], .null) else none) else (if pc = 20 then some (.getfield 24, 23, 3, 0, [], .null) else none)) else (if pc < 24 then (if pc = 23 then some (.lload_n 1, 24, 1, 0, [], .null) else none) else (if pc < 27 then (if pc = 24 then some (.invokevirtual 111, 27, 8, 2, [], .null) else none) else (if pc = 27 then some (.goto 11, 30, 38, 0, [], .null) else none)))) else (if pc < 35 then (if pc < 31 then (if pc = 30 then some (.aload_n 0, 31, 0, 0, [], .null) else none) else (if pc < 34 then (if pc = 31 then some (.getfield 24, 34, 3, 0, [], .null) else none) else (if pc = 34 then some (.lload_n 1, 35, 1, 0, [], .null) else none))) else (if pc < 38 then (if pc = 35 then some (.invokevirtual 117, 38, 9, 2, [], .null) else none) else (if pc < 41 then (if pc = 38 then some (.invokevirtual 141, 41, 26, 2, [], .null) else none) else (if pc = 41 then some (.return_, 42, 0, 0, [], .null) else none)))))) else none
set_option maxRecDepth 20000 in
def cdX2_giveList : PCode := fun pc => if pc < 42 then (if pc < 18 then (if pc < 10 then (if pc < 3 then (if pc < 1 then (if pc = 0 then some (.lconst 0, 1, 0, 0, [], .long 0) else none) else (if pc < 2 then (if pc = 1 then some (.lstore_n 1, 2, 1, 0, [], .null) else none) else (if pc = 2 then some (.aload_n 0, 3, 0, 0, [], .null) else none))) else (if pc < 6 then (if pc = 3 then some (.getfield 37, 6, 3, 2, [], .null) else none) else (if pc < 9 then (if pc = 6 then some (.invokevirtual 175, 9, 83, 1, [], .null) else none) else (if pc = 9 then some (.iconst 1, 10, 0, 0, [], .int 1) else none)))) else (if pc < 13 then (if pc < 11 then (if pc = 10 then some (.isub, 11, 0, 0, [], .null) else none) else (if pc < 12 then (if pc = 11 then some (.istore_n 3, 12, 3, 0, [], .null) else none) else (if pc = 12 then some (.iload_n 3, 13, 3, 0, [], .null) else none))) else (if pc < 16 then (if pc = 13 then some (.ifCond .lt 23, 16, 36, 0, [], .null) else none) else (if pc < 17 then (if pc = 16 then some (.aload_n 0, 17, 0, 0, [], .null) else none) else (if pc = 17 then some (.aload_n 0, 18, 0, 0, [], .null) else none))))) else (if pc < 30 then (if pc < 25 then (if pc < 21 then (if pc = 18 then some (.getfield 37, 21, 3, 2, [], .null) else none) else (if pc < 22 then (if pc = 21 then some (.iload_n 3, 22, 3, 0, [], .null) else none) else (if pc = 22 then some (.invokevirtual 188, 25, 84, 2, [], .null) else none))) else (if pc < 26 then (if pc = 25 then some (.lload_n 1, 26, 1, 0, [], .null) else none) else (if pc < 29 then (if pc = 26 then some (.invokevirtual 170, 29, 32, 3, [], .null) else none) else (if pc = 29 then some (.lstore_n 1, 30, 1, 0, [], .null) else none)))) else (if pc < 37 then (if pc < 33 then (if pc = 30 then some (.iinc 3 (-1), 33, 3, 0, [], .int (-1)) else none) else (if pc < 36 then (if pc = 33 then some (.goto (-21), 36, 12, 0, [], .null) else none) else (if pc = 36 then some (.aload_n 0, 37, 0, 0, [], .null) else none))) else (if pc < 38 then (if pc = 37 then some (.lload_n 1, 38, 1, 0, [], .null) else none) else (if pc < 41 then (if pc = 38 then some (.invokevirtual 141, 41, 26, 2, [], .null) else none) else (if pc = 41 then some (.return_, 42, 0, 0, [], .null) else none)))))) else none
set_option maxRecDepth 20000 in
def cdX2_giveReckoned : PCode := fun pc => if pc < 167 then (if pc < 84 then (if pc < 41 then (if pc < 21 then (if pc < 9 then (if pc < 4 then (if pc < 1 then (if pc = 0 then some (.lload_n 2, 1, 2, 0, [], .null) else none) else (if pc = 1 then some (.invokestatic 256, 4, 96, 1, [], .null) else none)) else (if pc < 7 then (if pc = 4 then some (.ifCond .eq 11, 7, 15, 0, [], .null) else none) else (if pc = 7 then some (.lload 4, 9, 4, 0, [], .null) else none))) else (if pc < 15 then (if pc < 12 then (if pc = 9 then some (.invokestatic 256, 12, 96, 1, [], .null) else none) else (if pc = 12 then some (.ifCond .ne 10, 15, 22, 0, [], .null) else none)) else (if pc < 16 then (if pc = 15 then some (.aload_n 0, 16, 0, 0, [], .null) else none) else (if pc < 18 then (if pc = 16 then some (.bipush 13, 18, 0, 0, [], .int 13) else none) else (if pc = 18 then some (.invokevirtual 103, 21, 24, 2, [], .null) else none))))) else (if pc < 30 then (if pc < 23 then (if pc < 22 then (if pc = 21 then some (.return_, 22, 0, 0, [], .null) else none) else (if pc = 22 then some (.lload_n 2, 23, 2, 0, [], .null) else none)) else (if pc < 26 then (if pc = 23 then some (.invokestatic 263, 26, 101, 1, [], .null) else none) else (if pc < 28 then (if pc = 26 then some (.istore 6, 28, 6, 0, [], .null) else none) else (if pc = 28 then some (.lload 4, 30, 4, 0, [], .null) else none)))) else (if pc < 35 then (if pc < 33 then (if pc = 30 then some (.invokestatic 263, 33, 101, 1, [], .null) else none) else (if pc = 33 then some (.istore 7, 35, 7, 0, [], .null) else none)) else (if pc < 36 then (if pc = 35 then some (.iload_n 1, 36, 1, 0, [], .null) else none) else (if pc < 38 then (if pc = 36 then some (.bipush 22, 38, 0, 0, [], .int 22) else none) else (if pc = 38 then some (.if_icmp .ne 25, 41, 63, 0, [], .null) else none)))))) else (if pc < 63 then (if pc < 50 then (if pc < 44 then (if pc < 42 then (if pc = 41 then some (.aload_n 0, 42, 0, 0, [], .null) else none) else (if pc = 42 then some (.iload 6, 44, 6, 0, [], .null) else none)) else (if pc < 46 then (if pc = 44 then some (.iload 7, 46, 7, 0, [], .null) else none) else (if pc < 49 then (if pc = 46 then some (.if_icmp .ge 7, 49, 53, 0, [], .null) else none) else (if pc = 49 then some (.iconst 1, 50, 0, 0, [], .int 1) else none)))) else (if pc < 54 then (if pc < 53 then (if pc = 50 then some (.goto 4, 53, 54, 0, [], .null) else none) else (if pc = 53 then some (.iconst 0, 54, 0, 0, [], .int 0) else none)) else (if pc < 57 then (if pc = 54 then some (.invokestatic 249, 57, 100, 1, [], .null) else none) else (if pc < 60 then (if pc = 57 then some (.invokevirtual 141, 60, 26, 2, [], .null) else none) else (if pc = 60 then some (.goto 106, 63, 166, 0, [], .null) else none))))) else (if pc < 72 then (if pc < 66 then (if pc < 64 then (if pc = 63 then some (.iload_n 1, 64, 1, 0, [], .null) else none) else (if pc = 64 then some (.bipush 17, 66, 0, 0, [], .int 17) else none)) else (if pc < 69 then (if pc = 66 then some (.if_icmp .ne 18, 69, 84, 0, [], .null) else none) else (if pc < 70 then (if pc = 69 then some (.aload_n 0, 70, 0, 0, [], .null) else none) else (if pc = 70 then some (.iload 6, 72, 6, 0, [], .null) else none)))) else (if pc < 75 then (if pc < 74 then (if pc = 72 then some (.iload 7, 74, 7, 0, [], .null) else none) else (if pc = 74 then some (.iadd, 75, 0, 0, [], .null) else none)) else (if pc < 78 then (if pc = 75 then some (.invokestatic 266, 78, 98, 1, [], .null) else none) else (if pc < 81 then (if pc = 78 then some (.invokevirtual 141, 81, 26, 2, [], .null) else none) else (if pc = 81 then some (.goto 85, 84, 166, 0, [], .null) else none))))))) else (if pc < 126 then (if pc < 105 then (if pc < 93 then (if pc < 87 then (if pc < 85 then (if pc = 84 then some (.iload_n 1, 85, 1, 0, [], .null) else none) else (if pc = 85 then some (.bipush 18, 87, 0, 0, [], .int 18) else none)) else (if pc < 90 then (if pc = 87 then some (.if_icmp .ne 18, 90, 105, 0, [], .null) else none) else (if pc < 91 then (if pc = 90 then some (.aload_n 0, 91, 0, 0, [], .null) else none) else (if pc = 91 then some (.iload 6, 93, 6, 0, [], .null) else none)))) else (if pc < 96 then (if pc < 95 then (if pc = 93 then some (.iload 7, 95, 7, 0, [], .null) else none) else (if pc = 95 then some (.isub, 96, 0, 0, [], .null) else none)) else (if pc < 99 then (if pc = 96 then some (.invokestatic 266, 99, 98, 1, [], .null) else none) else (if pc < 102 then (if pc = 99 then some (.invokevirtual 141, 102, 26, 2, [], .null) else none) else (if pc = 102 then some (.goto 64, 105, 166, 0, [], .null) else none))))) else (if pc < 114 then (if pc < 108 then (if pc < 106 then (if pc = 105 then some (.iload_n 1, 106, 1, 0, [], .null) else none) else (if pc = 106 then some (.bipush 19, 108, 0, 0, [], .int 19) else none)) else (if pc < 111 then (if pc = 108 then some (.if_icmp .ne 18, 111, 126, 0, [], .null) else none) else (if pc < 112 then (if pc = 111 then some (.aload_n 0, 112, 0, 0, [], .null) else none) else (if pc = 112 then some (.iload 6, 114, 6, 0, [], .null) else none)))) else (if pc < 117 then (if pc < 116 then (if pc = 114 then some (.iload 7, 116, 7, 0, [], .null) else none) else (if pc = 116 then some (.imul, 117, 0, 0, [], .null) else none)) else (if pc < 120 then (if pc = 117 then some (.invokestatic 266, 120, 98, 1, [], .null) else none) else (if pc < 123 then (if pc = 120 then some (.invokevirtual 141, 123, 26, 2, [], .null) else none) else (if pc = 123 then some (.goto 43, 126, 166, 0, [], .null) else none)))))) else (if pc < 147 then (if pc < 137 then (if pc < 131 then (if pc < 128 then (if pc = 126 then some (.iload 7, 128, 7, 0, [], .null) else none) else (if pc = 128 then some (.ifCond .ne 12, 131, 140, 0, [], .null) else none)) else (if pc < 132 then (if pc = 131 then some (.aload_n 0, 132, 0, 0, [], .null) else none) else (if pc < 134 then (if pc = 132 then some (.bipush 13, 134, 0, 0, [], .int 13) else none) else (if pc = 134 then some (.invokevirtual 103, 137, 24, 2, [], .null) else none)))) else (if pc < 141 then (if pc < 140 then (if pc = 137 then some (.goto 29, 140, 166, 0, [], .null) else none) else (if pc = 140 then some (.aload_n 0, 141, 0, 0, [], .null) else none)) else (if pc < 142 then (if pc = 141 then some (.iload_n 1, 142, 1, 0, [], .null) else none) else (if pc < 144 then (if pc = 142 then some (.bipush 20, 144, 0, 0, [], .int 20) else none) else (if pc = 144 then some (.if_icmp .ne 11, 147, 155, 0, [], .null) else none))))) else (if pc < 157 then (if pc < 151 then (if pc < 149 then (if pc = 147 then some (.iload 6, 149, 6, 0, [], .null) else none) else (if pc = 149 then some (.iload 7, 151, 7, 0, [], .null) else none)) else (if pc < 152 then (if pc = 151 then some (.idiv, 152, 0, 0, [], .null) else none) else (if pc < 155 then (if pc = 152 then some (.goto 8, 155, 160, 0, [], .null) else none) else (if pc = 155 then some (.iload 6, 157, 6, 0, [], .null) else none)))) else (if pc < 160 then (if pc < 159 then (if pc = 157 then some (.iload 7, 159, 7, 0, [], .null) else none) else (if pc = 159 then some (.irem, 160, 0, 0, [], .null) else none)) else (if pc < 163 then (if pc = 160 then some (.invokestatic 266, 163, 98, 1, [], .null) else none) else (if pc < 166 then (if pc = 163 then some (.invokevirtual 141, 166, 26, 2, [], .null) else none) else (if pc = 166 then some (.return_, 167, 0, 0, [], .null) else none)))))))) else none
set_option maxRecDepth 20000 in
def cdX3_print : PCode := fun pc => if pc < 96 then (if pc < 47 then (if pc < 20 then (if pc < 11 then (if pc < 4 then (if pc < 1 then (if pc = 0 then some (.aload_n 0, 1, 0, 0, [], .null) else none) else (if pc = 1 then some (.getfield 20, 4, 4, 0, [], .null) else none)) else (if pc < 7 then (if pc = 4 then some (.invokevirtual 32, 7, 4, 1, [], .null) else none) else (if pc < 8 then (if pc = 7 then some (.aload_n 0, 8, 0, 0, [], .null) else none) else (if pc = 8 then some (.getfield 14, 11, 4, 3, [], .null) else none)))) else (if pc < 16 then (if pc < 12 then (if pc = 11 then some (.iconst 0, 12, 0, 0, [], .int 0) else none) else (if pc < 15 then (if pc = 12 then some (.invokevirtual 37, 15, 87, 2, [], .null) else none) else (if pc = 15 then some (.lload_n 1, 16, 1, 0, [], .null) else none))) else (if pc < 17 then (if pc = 16 then some (.lstore_n 3, 17, 3, 0, [], .null) else none) else (if pc < 18 then (if pc = 17 then some (.iconst 0, 18, 0, 0, [], .int 0) else none) else (if pc = 18 then some (.istore 5, 20, 5, 0, [], .null) else none))))) else (if pc < 33 then (if pc < 28 then (if pc < 22 then (if pc = 20 then some (.iload 5, 22, 5, 0, [], .null) else none) else (if pc < 25 then (if pc = 22 then some (.sipush 2000, 25, 0, 0, [], .int 2000) else none) else (if pc = 25 then some (.if_icmp .ge 70, 28, 95, 0, [], .null) else none))) else (if pc < 29 then (if pc = 28 then some (.lload_n 3, 29, 3, 0, [], .null) else none) else (if pc < 32 then (if pc = 29 then some (.ldc2_w 42, 32, 0, 0, [], .long (-1)) else none) else (if pc = 32 then some (.lcmp, 33, 0, 0, [], .null) else none)))) else (if pc < 40 then (if pc < 36 then (if pc = 33 then some (.ifCond .eq 62, 36, 95, 0, [], .null) else none) else (if pc < 37 then (if pc = 36 then some (.lload_n 3, 37, 3, 0, [], .null) else none) else (if pc = 37 then some (.invokestatic 44, 40, 97, 1, [], .null) else none))) else (if pc < 43 then (if pc = 40 then some (.ifCond .eq 39, 43, 79, 0, [], .null) else none) else (if pc < 44 then (if pc = 43 then some (.aload_n 0, 44, 0, 0, [], .null) else none) else (if pc = 44 then some (.getfield 20, 47, 4, 0, [], .null) else none)))))) else (if pc < 72 then (if pc < 60 then (if pc < 53 then (if pc < 49 then (if pc = 47 then some (.bipush 40, 49, 0, 0, [], .int 40) else none) else (if pc < 52 then (if pc = 49 then some (.invokevirtual 48, 52, 2, 2, [], .null) else none) else (if pc = 52 then some (.aload_n 0, 53, 0, 0, [], .null) else none))) else (if pc < 56 then (if pc = 53 then some (.getfield 14, 56, 4, 3, [], .null) else none) else (if pc < 57 then (if pc = 56 then some (.aload_n 0, 57, 0, 0, [], .null) else none) else (if pc = 57 then some (.getfield 28, 60, 4, 2, [], .null) else none)))) else (if pc < 67 then (if pc < 61 then (if pc = 60 then some (.lload_n 3, 61, 3, 0, [], .null) else none) else (if pc < 64 then (if pc = 61 then some (.invokevirtual 51, 64, 9, 2, [], .null) else none) else (if pc = 64 then some (.invokevirtual 57, 67, 86, 2, [], .null) else none))) else (if pc < 68 then (if pc = 67 then some (.aload_n 0, 68, 0, 0, [], .null) else none) else (if pc < 71 then (if pc = 68 then some (.getfield 28, 71, 4, 2, [], .null) else none) else (if pc = 71 then some (.lload_n 3, 72, 3, 0, [], .null) else none))))) else (if pc < 84 then (if pc < 79 then (if pc < 75 then (if pc = 72 then some (.invokevirtual 60, 75, 8, 2, [], .null) else none) else (if pc < 76 then (if pc = 75 then some (.lstore_n 3, 76, 3, 0, [], .null) else none) else (if pc = 76 then some (.goto 13, 79, 89, 0, [], .null) else none))) else (if pc < 80 then (if pc = 79 then some (.aload_n 0, 80, 0, 0, [], .null) else none) else (if pc < 81 then (if pc = 80 then some (.lload_n 3, 81, 3, 0, [], .null) else none) else (if pc = 81 then some (.invokevirtual 63, 84, 61, 2, [], .null) else none)))) else (if pc < 89 then (if pc < 85 then (if pc = 84 then some (.aload_n 0, 85, 0, 0, [], .null) else none) else (if pc < 88 then (if pc = 85 then some (.invokevirtual 66, 88, 59, 1, [], .null) else none) else (if pc = 88 then some (.lstore_n 3, 89, 3, 0, [], .null) else none))) else (if pc < 92 then (if pc = 89 then some (.iinc 5 1, 92, 5, 0, [], .int 1) else none) else (if pc < 95 then (if pc = 92 then some (.goto (-72), 95, 20, 0, [], .null) else none) else (if pc = 95 then some (.return_, 96, 0, 0, [], .null) else none))))))) else none
set_option maxRecDepth 20000 in
def cdX3_nextElement : PCode := fun pc => if pc < 87 then (if pc < 43 then (if pc < 19 then (if pc < 9 then (if pc < 4 then (if pc < 1 then (if pc = 0 then some (.aload_n 0, 1, 0, 0, [], .null) else none) else (if pc = 1 then some (.getfield 14, 4, 4, 3, [], .null) else none)) else (if pc < 7 then (if pc = 4 then some (.invokevirtual 70, 7, 83, 1, [], .null) else none) else (if pc < 8 then (if pc = 7 then some (.iconst 1, 8, 0, 0, [], .int 1) else none) else (if pc = 8 then some (.isub, 9, 0, 0, [], .null) else none)))) else (if pc < 14 then (if pc < 10 then (if pc = 9 then some (.istore_n 1, 10, 1, 0, [], .null) else none) else (if pc < 11 then (if pc = 10 then some (.iload_n 1, 11, 1, 0, [], .null) else none) else (if pc = 11 then some (.ifCond .lt 72, 14, 83, 0, [], .null) else none))) else (if pc < 15 then (if pc = 14 then some (.aload_n 0, 15, 0, 0, [], .null) else none) else (if pc < 18 then (if pc = 15 then some (.getfield 14, 18, 4, 3, [], .null) else none) else (if pc = 18 then some (.iload_n 1, 19, 1, 0, [], .null) else none))))) else (if pc < 30 then (if pc < 23 then (if pc < 22 then (if pc = 19 then some (.invokevirtual 74, 22, 84, 2, [], .null) else none) else (if pc = 22 then some (.lstore_n 2, 23, 2, 0, [], .null) else none)) else (if pc < 24 then (if pc = 23 then some (.lload_n 2, 24, 2, 0, [], .null) else none) else (if pc < 27 then (if pc = 24 then some (.invokestatic 44, 27, 97, 1, [], .null) else none) else (if pc = 27 then some (.ifCond .eq 37, 30, 64, 0, [], .null) else none)))) else (if pc < 36 then (if pc < 31 then (if pc = 30 then some (.aload_n 0, 31, 0, 0, [], .null) else none) else (if pc < 34 then (if pc = 31 then some (.getfield 20, 34, 4, 0, [], .null) else none) else (if pc = 34 then some (.bipush 32, 36, 0, 0, [], .int 32) else none))) else (if pc < 39 then (if pc = 36 then some (.invokevirtual 48, 39, 2, 2, [], .null) else none) else (if pc < 40 then (if pc = 39 then some (.aload_n 0, 40, 0, 0, [], .null) else none) else (if pc = 40 then some (.getfield 14, 43, 4, 3, [], .null) else none)))))) else (if pc < 64 then (if pc < 52 then (if pc < 45 then (if pc < 44 then (if pc = 43 then some (.iload_n 1, 44, 1, 0, [], .null) else none) else (if pc = 44 then some (.aload_n 0, 45, 0, 0, [], .null) else none)) else (if pc < 48 then (if pc = 45 then some (.getfield 28, 48, 4, 2, [], .null) else none) else (if pc < 49 then (if pc = 48 then some (.lload_n 2, 49, 2, 0, [], .null) else none) else (if pc = 49 then some (.invokevirtual 51, 52, 9, 2, [], .null) else none)))) else (if pc < 59 then (if pc < 55 then (if pc = 52 then some (.invokevirtual 78, 55, 85, 3, [], .null) else none) else (if pc < 56 then (if pc = 55 then some (.aload_n 0, 56, 0, 0, [], .null) else none) else (if pc = 56 then some (.getfield 28, 59, 4, 2, [], .null) else none))) else (if pc < 60 then (if pc = 59 then some (.lload_n 2, 60, 2, 0, [], .null) else none) else (if pc < 63 then (if pc = 60 then some (.invokevirtual 60, 63, 8, 2, [], .null) else none) else (if pc = 63 then some (.lreturn, 64, 0, 0, [], .null) else none))))) else (if pc < 73 then (if pc < 66 then (if pc < 65 then (if pc = 64 then some (.aload_n 0, 65, 0, 0, [], .null) else none) else (if pc = 65 then some (.lload_n 2, 66, 2, 0, [], .null) else none)) else (if pc < 69 then (if pc = 66 then some (.invokevirtual 82, 69, 60, 2, [], .null) else none) else (if pc < 70 then (if pc = 69 then some (.aload_n 0, 70, 0, 0, [], .null) else none) else (if pc = 70 then some (.getfield 14, 73, 4, 3, [], .null) else none)))) else (if pc < 80 then (if pc < 74 then (if pc = 73 then some (.iload_n 1, 74, 1, 0, [], .null) else none) else (if pc < 77 then (if pc = 74 then some (.invokevirtual 37, 77, 87, 2, [], .null) else none) else (if pc = 77 then some (.iinc 1 (-1), 80, 1, 0, [], .int (-1)) else none))) else (if pc < 83 then (if pc = 80 then some (.goto (-70), 83, 10, 0, [], .null) else none) else (if pc < 86 then (if pc = 83 then some (.ldc2_w 42, 86, 0, 0, [], .long (-1)) else none) else (if pc = 86 then some (.lreturn, 87, 0, 0, [], .null) else none))))))) else none
set_option maxRecDepth 20000 in
def cdX3_closeList : PCode := fun pc => if pc < 48 then (if pc < 24 then (if pc < 10 then (if pc < 3 then (if pc < 1 then (if pc = 0 then some (.lload_n 1, 1, 1, 0, [], .null) else none) else (if pc < 2 then (if pc = 1 then some (.lconst 0, 2, 0, 0, [], .long 0) else none) else (if pc = 2 then some (.lcmp, 3, 0, 0, [], .null) else none))) else (if pc < 6 then (if pc = 3 then some (.ifCond .eq 35, 6, 38, 0, [], .null) else none) else (if pc < 7 then (if pc = 6 then some (.aload_n 0, 7, 0, 0, [], .null) else none) else (if pc = 7 then some (.getfield 20, 10, 4, 0, [], .null) else none)))) else (if pc < 16 then (if pc < 12 then (if pc = 10 then some (.bipush 32, 12, 0, 0, [], .int 32) else none) else (if pc < 15 then (if pc = 12 then some (.invokevirtual 48, 15, 2, 2, [], .null) else none) else (if pc = 15 then some (.aload_n 0, 16, 0, 0, [], .null) else none))) else (if pc < 19 then (if pc = 16 then some (.getfield 20, 19, 4, 0, [], .null) else none) else (if pc < 21 then (if pc = 19 then some (.bipush 46, 21, 0, 0, [], .int 46) else none) else (if pc = 21 then some (.invokevirtual 48, 24, 2, 2, [], .null) else none))))) else (if pc < 35 then (if pc < 30 then (if pc < 25 then (if pc = 24 then some (.aload_n 0, 25, 0, 0, [], .null) else none) else (if pc < 28 then (if pc = 25 then some (.getfield 20, 28, 4, 0, [], .null) else none) else (if pc = 28 then some (.bipush 32, 30, 0, 0, [], .int 32) else none))) else (if pc < 33 then (if pc = 30 then some (.invokevirtual 48, 33, 2, 2, [], .null) else none) else (if pc < 34 then (if pc = 33 then some (.aload_n 0, 34, 0, 0, [], .null) else none) else (if pc = 34 then some (.lload_n 1, 35, 1, 0, [], .null) else none)))) else (if pc < 42 then (if pc < 38 then (if pc = 35 then some (.invokevirtual 63, 38, 61, 2, [], .null) else none) else (if pc < 39 then (if pc = 38 then some (.aload_n 0, 39, 0, 0, [], .null) else none) else (if pc = 39 then some (.getfield 20, 42, 4, 0, [], .null) else none))) else (if pc < 44 then (if pc = 42 then some (.bipush 41, 44, 0, 0, [], .int 41) else none) else (if pc < 47 then (if pc = 44 then some (.invokevirtual 48, 47, 2, 2, [], .null) else none) else (if pc = 47 then some (.return_, 48, 0, 0, [], .null) else none)))))) else none
set_option maxRecDepth 20000 in
def cdX3_printAtom : PCode := fun pc => if pc < 59 then (if pc < 25 then (if pc < 15 then (if pc < 7 then (if pc < 1 then (if pc = 0 then some (.lload_n 1, 1, 1, 0, [], .null) else none) else (if pc < 4 then (if pc = 1 then some (.invokestatic 85, 4, 96, 1, [], .null) else none) else (if pc = 4 then some (.ifCond .eq 12, 7, 16, 0, [], .null) else none))) else (if pc < 9 then (if pc < 8 then (if pc = 7 then some (.aload_n 0, 8, 0, 0, [], .null) else none) else (if pc = 8 then some (.lload_n 1, 9, 1, 0, [], .null) else none)) else (if pc < 12 then (if pc = 9 then some (.invokestatic 88, 12, 101, 1, [], .null) else none) else (if pc = 12 then some (.invokevirtual 92, 15, 62, 2, [], .null) else none)))) else (if pc < 19 then (if pc < 17 then (if pc < 16 then (if pc = 15 then some (.return_, 16, 0, 0, [], .null) else none) else (if pc = 16 then some (.lload_n 1, 17, 1, 0, [], .null) else none)) else (if pc < 18 then (if pc = 17 then some (.l2i, 18, 0, 0, [], .null) else none) else (if pc = 18 then some (.istore_n 3, 19, 3, 0, [], .null) else none))) else (if pc < 22 then (if pc < 20 then (if pc = 19 then some (.iconst 0, 20, 0, 0, [], .int 0) else none) else (if pc = 20 then some (.istore 4, 22, 4, 0, [], .null) else none)) else (if pc < 24 then (if pc = 22 then some (.iload 4, 24, 4, 0, [], .null) else none) else (if pc = 24 then some (.aload_n 0, 25, 0, 0, [], .null) else none))))) else (if pc < 40 then (if pc < 32 then (if pc < 28 then (if pc = 25 then some (.getfield 24, 28, 4, 1, [], .null) else none) else (if pc < 29 then (if pc = 28 then some (.iload_n 3, 29, 3, 0, [], .null) else none) else (if pc = 29 then some (.invokevirtual 95, 32, 90, 2, [], .null) else none))) else (if pc < 36 then (if pc < 35 then (if pc = 32 then some (.if_icmp .ge 26, 35, 58, 0, [], .null) else none) else (if pc = 35 then some (.aload_n 0, 36, 0, 0, [], .null) else none)) else (if pc < 39 then (if pc = 36 then some (.getfield 20, 39, 4, 0, [], .null) else none) else (if pc = 39 then some (.aload_n 0, 40, 0, 0, [], .null) else none)))) else (if pc < 49 then (if pc < 44 then (if pc < 43 then (if pc = 40 then some (.getfield 24, 43, 4, 1, [], .null) else none) else (if pc = 43 then some (.iload_n 3, 44, 3, 0, [], .null) else none)) else (if pc < 46 then (if pc = 44 then some (.iload 4, 46, 4, 0, [], .null) else none) else (if pc = 46 then some (.invokevirtual 101, 49, 91, 3, [], .null) else none))) else (if pc < 55 then (if pc < 52 then (if pc = 49 then some (.invokevirtual 48, 52, 2, 2, [], .null) else none) else (if pc = 52 then some (.iinc 4 1, 55, 4, 0, [], .int 1) else none)) else (if pc < 58 then (if pc = 55 then some (.goto (-33), 58, 22, 0, [], .null) else none) else (if pc = 58 then some (.return_, 59, 0, 0, [], .null) else none)))))) else none
set_option maxRecDepth 20000 in
def cdX3_printNumber : PCode := fun pc => if pc < 76 then (if pc < 38 then (if pc < 19 then (if pc < 10 then (if pc < 4 then (if pc < 1 then (if pc = 0 then some (.iload_n 1, 1, 1, 0, [], .null) else none) else (if pc = 1 then some (.ifCond .ge 12, 4, 13, 0, [], .null) else none)) else (if pc < 5 then (if pc = 4 then some (.aload_n 0, 5, 0, 0, [], .null) else none) else (if pc < 8 then (if pc = 5 then some (.getfield 20, 8, 4, 0, [], .null) else none) else (if pc = 8 then some (.bipush 45, 10, 0, 0, [], .int 45) else none)))) else (if pc < 14 then (if pc < 13 then (if pc = 10 then some (.invokevirtual 48, 13, 2, 2, [], .null) else none) else (if pc = 13 then some (.iload_n 1, 14, 1, 0, [], .null) else none)) else (if pc < 15 then (if pc = 14 then some (.i2l, 15, 0, 0, [], .null) else none) else (if pc < 18 then (if pc = 15 then some (.invokestatic 105, 18, 0, 1001, [], .null) else none) else (if pc = 18 then some (.lstore_n 2, 19, 2, 0, [], .null) else none))))) else (if pc < 28 then (if pc < 24 then (if pc < 22 then (if pc = 19 then some (.ldc2_w 110, 22, 0, 0, [], .long 1000000000) else none) else (if pc = 22 then some (.lstore 4, 24, 4, 0, [], .null) else none)) else (if pc < 26 then (if pc = 24 then some (.lload 4, 26, 4, 0, [], .null) else none) else (if pc < 27 then (if pc = 26 then some (.lconst 0, 27, 0, 0, [], .long 0) else none) else (if pc = 27 then some (.lcmp, 28, 0, 0, [], .null) else none)))) else (if pc < 32 then (if pc < 31 then (if pc = 28 then some (.ifCond .le 47, 31, 75, 0, [], .null) else none) else (if pc = 31 then some (.lload_n 2, 32, 2, 0, [], .null) else none)) else (if pc < 34 then (if pc = 32 then some (.lload 4, 34, 4, 0, [], .null) else none) else (if pc < 35 then (if pc = 34 then some (.lcmp, 35, 0, 0, [], .null) else none) else (if pc = 35 then some (.ifCond .ge 10, 38, 45, 0, [], .null) else none)))))) else (if pc < 55 then (if pc < 46 then (if pc < 41 then (if pc < 40 then (if pc = 38 then some (.lload 4, 40, 4, 0, [], .null) else none) else (if pc = 40 then some (.lconst 1, 41, 0, 0, [], .long 1) else none)) else (if pc < 42 then (if pc = 41 then some (.lcmp, 42, 0, 0, [], .null) else none) else (if pc < 45 then (if pc = 42 then some (.ifCond .ne 22, 45, 64, 0, [], .null) else none) else (if pc = 45 then some (.aload_n 0, 46, 0, 0, [], .null) else none)))) else (if pc < 51 then (if pc < 49 then (if pc = 46 then some (.getfield 20, 49, 4, 0, [], .null) else none) else (if pc = 49 then some (.bipush 48, 51, 0, 0, [], .int 48) else none)) else (if pc < 52 then (if pc = 51 then some (.lload_n 2, 52, 2, 0, [], .null) else none) else (if pc < 54 then (if pc = 52 then some (.lload 4, 54, 4, 0, [], .null) else none) else (if pc = 54 then some (.ldiv, 55, 0, 0, [], .null) else none))))) else (if pc < 64 then (if pc < 59 then (if pc < 58 then (if pc = 55 then some (.ldc2_w 112, 58, 0, 0, [], .long 10) else none) else (if pc = 58 then some (.lrem, 59, 0, 0, [], .null) else none)) else (if pc < 60 then (if pc = 59 then some (.l2i, 60, 0, 0, [], .null) else none) else (if pc < 61 then (if pc = 60 then some (.iadd, 61, 0, 0, [], .null) else none) else (if pc = 61 then some (.invokevirtual 48, 64, 2, 2, [], .null) else none)))) else (if pc < 70 then (if pc < 66 then (if pc = 64 then some (.lload 4, 66, 4, 0, [], .null) else none) else (if pc < 69 then (if pc = 66 then some (.ldc2_w 112, 69, 0, 0, [], .long 10) else none) else (if pc = 69 then some (.ldiv, 70, 0, 0, [], .null) else none))) else (if pc < 72 then (if pc = 70 then some (.lstore 4, 72, 4, 0, [], .null) else none) else (if pc < 75 then (if pc = 72 then some (.goto (-48), 75, 24, 0, [], .null) else none) else (if pc = 75 then some (.return_, 76, 0, 0, [], .null) else none))))))) else none
set_option maxRecDepth 20000 in
def cdX4_fault : PCode := fun pc => if pc < 5 then (if pc < 1 then (if pc = 0 then some (.aload_n 0, 1, 0, 0, [], .null) else none) else (if pc < 4 then (if pc = 1 then some (.getfield 38, 4, 5, 9, [], .null) else none) else (if pc = 4 then some (.ireturn, 5, 0, 0, [], .null) else none))) else none
set_option maxRecDepth 20000 in
def cdX4_faultPlace : PCode := fun pc => if pc < 5 then (if pc < 1 then (if pc = 0 then some (.aload_n 0, 1, 0, 0, [], .null) else none) else (if pc < 4 then (if pc = 1 then some (.getfield 18, 4, 5, 10, [], .null) else none) else (if pc = 4 then some (.ireturn, 5, 0, 0, [], .null) else none))) else none
set_option maxRecDepth 20000 in
def cdX4_begin : PCode := fun pc => if pc < 36 then (if pc < 17 then (if pc < 7 then (if pc < 2 then (if pc < 1 then (if pc = 0 then some (.aload_n 0, 1, 0, 0, [], .null) else none) else (if pc = 1 then some (.iconst 0, 2, 0, 0, [], .int 0) else none)) else (if pc < 5 then (if pc = 2 then some (.putfield 41, 5, 5, 6, [], .null) else none) else (if pc < 6 then (if pc = 5 then some (.aload_n 0, 6, 0, 0, [], .null) else none) else (if pc = 6 then some (.iconst 0, 7, 0, 0, [], .int 0) else none)))) else (if pc < 12 then (if pc < 10 then (if pc = 7 then some (.putfield 44, 10, 5, 7, [], .null) else none) else (if pc < 11 then (if pc = 10 then some (.aload_n 0, 11, 0, 0, [], .null) else none) else (if pc = 11 then some (.iload_n 1, 12, 1, 0, [], .null) else none))) else (if pc < 15 then (if pc = 12 then some (.putfield 47, 15, 5, 8, [], .null) else none) else (if pc < 16 then (if pc = 15 then some (.aload_n 0, 16, 0, 0, [], .null) else none) else (if pc = 16 then some (.iconst 0, 17, 0, 0, [], .int 0) else none))))) else (if pc < 26 then (if pc < 21 then (if pc < 20 then (if pc = 17 then some (.putfield 38, 20, 5, 9, [], .null) else none) else (if pc = 20 then some (.aload_n 0, 21, 0, 0, [], .null) else none)) else (if pc < 22 then (if pc = 21 then some (.iconst (-1), 22, 0, 0, [], .int (-1)) else none) else (if pc < 25 then (if pc = 22 then some (.putfield 18, 25, 5, 10, [], .null) else none) else (if pc = 25 then some (.aload_n 0, 26, 0, 0, [], .null) else none)))) else (if pc < 31 then (if pc < 27 then (if pc = 26 then some (.iconst 0, 27, 0, 0, [], .int 0) else none) else (if pc < 30 then (if pc = 27 then some (.putfield 50, 30, 5, 11, [], .null) else none) else (if pc = 30 then some (.aload_n 0, 31, 0, 0, [], .null) else none))) else (if pc < 32 then (if pc = 31 then some (.lconst 0, 32, 0, 0, [], .long 0) else none) else (if pc < 35 then (if pc = 32 then some (.putfield 54, 35, 5, 12, [], .null) else none) else (if pc = 35 then some (.return_, 36, 0, 0, [], .null) else none)))))) else none
set_option maxRecDepth 20000 in
def cdX4_readName : PCode := fun pc => if pc < 105 then (if pc < 57 then (if pc < 29 then (if pc < 12 then (if pc < 5 then (if pc < 1 then (if pc = 0 then some (.aload_n 0, 1, 0, 0, [], .null) else none) else (if pc < 4 then (if pc = 1 then some (.getfield 44, 4, 5, 7, [], .null) else none) else (if pc = 4 then some (.aload_n 0, 5, 0, 0, [], .null) else none))) else (if pc < 8 then (if pc = 5 then some (.getfield 47, 8, 5, 8, [], .null) else none) else (if pc < 11 then (if pc = 8 then some (.if_icmp .ge 33, 11, 41, 0, [], .null) else none) else (if pc = 11 then some (.aload_n 0, 12, 0, 0, [], .null) else none)))) else (if pc < 19 then (if pc < 15 then (if pc = 12 then some (.getfield 22, 15, 5, 0, [], .null) else none) else (if pc < 16 then (if pc = 15 then some (.aload_n 0, 16, 0, 0, [], .null) else none) else (if pc = 16 then some (.getfield 44, 19, 5, 7, [], .null) else none))) else (if pc < 25 then (if pc < 22 then (if pc = 19 then some (.invokevirtual 58, 22, 1, 2, [], .null) else none) else (if pc = 22 then some (.invokestatic 63, 25, 80, 1, [], .null) else none)) else (if pc < 28 then (if pc = 25 then some (.ifCond .eq 16, 28, 41, 0, [], .null) else none) else (if pc = 28 then some (.aload_n 0, 29, 0, 0, [], .null) else none))))) else (if pc < 42 then (if pc < 34 then (if pc < 30 then (if pc = 29 then some (.dup, 30, 0, 0, [], .null) else none) else (if pc < 33 then (if pc = 30 then some (.getfield 44, 33, 5, 7, [], .null) else none) else (if pc = 33 then some (.iconst 1, 34, 0, 0, [], .int 1) else none))) else (if pc < 38 then (if pc < 35 then (if pc = 34 then some (.iadd, 35, 0, 0, [], .null) else none) else (if pc = 35 then some (.putfield 44, 38, 5, 7, [], .null) else none)) else (if pc < 41 then (if pc = 38 then some (.goto (-38), 41, 0, 0, [], .null) else none) else (if pc = 41 then some (.aload_n 0, 42, 0, 0, [], .null) else none)))) else (if pc < 47 then (if pc < 45 then (if pc = 42 then some (.getfield 44, 45, 5, 7, [], .null) else none) else (if pc < 46 then (if pc = 45 then some (.istore_n 1, 46, 1, 0, [], .null) else none) else (if pc = 46 then some (.aload_n 0, 47, 0, 0, [], .null) else none))) else (if pc < 51 then (if pc < 50 then (if pc = 47 then some (.getfield 44, 50, 5, 7, [], .null) else none) else (if pc = 50 then some (.aload_n 0, 51, 0, 0, [], .null) else none)) else (if pc < 54 then (if pc = 51 then some (.getfield 47, 54, 5, 8, [], .null) else none) else (if pc = 54 then some (.if_icmp .ge 20, 57, 74, 0, [], .null) else none)))))) else (if pc < 82 then (if pc < 71 then (if pc < 62 then (if pc < 58 then (if pc = 57 then some (.aload_n 0, 58, 0, 0, [], .null) else none) else (if pc < 61 then (if pc = 58 then some (.getfield 22, 61, 5, 0, [], .null) else none) else (if pc = 61 then some (.aload_n 0, 62, 0, 0, [], .null) else none))) else (if pc < 65 then (if pc = 62 then some (.getfield 44, 65, 5, 7, [], .null) else none) else (if pc < 68 then (if pc = 65 then some (.invokevirtual 58, 68, 1, 2, [], .null) else none) else (if pc = 68 then some (.invokestatic 67, 71, 81, 1, [], .null) else none)))) else (if pc < 76 then (if pc < 74 then (if pc = 71 then some (.ifCond .ne 11, 74, 82, 0, [], .null) else none) else (if pc < 75 then (if pc = 74 then some (.aload_n 0, 75, 0, 0, [], .null) else none) else (if pc = 75 then some (.iconst 1, 76, 0, 0, [], .int 1) else none))) else (if pc < 80 then (if pc < 77 then (if pc = 76 then some (.iload_n 1, 77, 1, 0, [], .null) else none) else (if pc = 77 then some (.invokevirtual 70, 80, 68, 3, [], .null) else none)) else (if pc < 81 then (if pc = 80 then some (.iconst (-1), 81, 0, 0, [], .int (-1)) else none) else (if pc = 81 then some (.ireturn, 82, 0, 0, [], .null) else none))))) else (if pc < 94 then (if pc < 87 then (if pc < 83 then (if pc = 82 then some (.aload_n 0, 83, 0, 0, [], .null) else none) else (if pc < 86 then (if pc = 83 then some (.invokevirtual 74, 86, 77, 1, [], .null) else none) else (if pc = 86 then some (.istore_n 2, 87, 2, 0, [], .null) else none))) else (if pc < 91 then (if pc < 88 then (if pc = 87 then some (.iload_n 2, 88, 2, 0, [], .null) else none) else (if pc = 88 then some (.ifCond .lt 15, 91, 103, 0, [], .null) else none)) else (if pc < 92 then (if pc = 91 then some (.iload_n 2, 92, 2, 0, [], .null) else none) else (if pc = 92 then some (.bipush 7, 94, 0, 0, [], .int 7) else none)))) else (if pc < 99 then (if pc < 97 then (if pc = 94 then some (.if_icmp .gt 9, 97, 103, 0, [], .null) else none) else (if pc < 98 then (if pc = 97 then some (.aload_n 0, 98, 0, 0, [], .null) else none) else (if pc = 98 then some (.iconst 1, 99, 0, 0, [], .int 1) else none))) else (if pc < 103 then (if pc < 100 then (if pc = 99 then some (.iload_n 1, 100, 1, 0, [], .null) else none) else (if pc = 100 then some (.invokevirtual 70, 103, 68, 3, [], .null) else none)) else (if pc < 104 then (if pc = 103 then some (.iload_n 2, 104, 2, 0, [], .null) else none) else (if pc = 104 then some (.ireturn, 105, 0, 0, [], .null) else none))))))) else none
set_option maxRecDepth 20000 in
def cdX4_readWhole : PCode := fun pc => if pc < 66 then (if pc < 34 then (if pc < 14 then (if pc < 6 then (if pc < 2 then (if pc < 1 then (if pc = 0 then some (.iconst 0, 1, 0, 0, [], .int 0) else none) else (if pc = 1 then some (.istore_n 1, 2, 1, 0, [], .null) else none)) else (if pc < 3 then (if pc = 2 then some (.iload_n 1, 3, 1, 0, [], .null) else none) else (if pc = 3 then some (.sipush 2000, 6, 0, 0, [], .int 2000) else none))) else (if pc < 10 then (if pc < 9 then (if pc = 6 then some (.if_icmp .ge 31, 9, 37, 0, [], .null) else none) else (if pc = 9 then some (.aload_n 0, 10, 0, 0, [], .null) else none)) else (if pc < 13 then (if pc = 10 then some (.getfield 44, 13, 5, 7, [], .null) else none) else (if pc = 13 then some (.aload_n 0, 14, 0, 0, [], .null) else none)))) else (if pc < 24 then (if pc < 20 then (if pc < 17 then (if pc = 14 then some (.getfield 47, 17, 5, 8, [], .null) else none) else (if pc = 17 then some (.if_icmp .ge 20, 20, 37, 0, [], .null) else none)) else (if pc < 21 then (if pc = 20 then some (.aload_n 0, 21, 0, 0, [], .null) else none) else (if pc = 21 then some (.getfield 38, 24, 5, 9, [], .null) else none))) else (if pc < 28 then (if pc < 27 then (if pc = 24 then some (.ifCond .ne 13, 27, 37, 0, [], .null) else none) else (if pc = 27 then some (.aload_n 0, 28, 0, 0, [], .null) else none)) else (if pc < 31 then (if pc = 28 then some (.invokevirtual 78, 31, 69, 1, [], .null) else none) else (if pc = 31 then some (.iinc 1 1, 34, 1, 0, [], .int 1) else none))))) else (if pc < 50 then (if pc < 44 then (if pc < 38 then (if pc < 37 then (if pc = 34 then some (.goto (-32), 37, 2, 0, [], .null) else none) else (if pc = 37 then some (.aload_n 0, 38, 0, 0, [], .null) else none)) else (if pc < 41 then (if pc = 38 then some (.getfield 50, 41, 5, 11, [], .null) else none) else (if pc = 41 then some (.ifCond .ne 12, 44, 53, 0, [], .null) else none))) else (if pc < 46 then (if pc < 45 then (if pc = 44 then some (.aload_n 0, 45, 0, 0, [], .null) else none) else (if pc = 45 then some (.iconst 1, 46, 0, 0, [], .int 1) else none)) else (if pc < 47 then (if pc = 46 then some (.aload_n 0, 47, 0, 0, [], .null) else none) else (if pc = 47 then some (.getfield 47, 50, 5, 8, [], .null) else none)))) else (if pc < 58 then (if pc < 54 then (if pc < 53 then (if pc = 50 then some (.invokevirtual 70, 53, 68, 3, [], .null) else none) else (if pc = 53 then some (.aload_n 0, 54, 0, 0, [], .null) else none)) else (if pc < 57 then (if pc = 54 then some (.getfield 34, 57, 5, 3, [], .null) else none) else (if pc = 57 then some (.iconst 0, 58, 0, 0, [], .int 0) else none))) else (if pc < 62 then (if pc < 61 then (if pc = 58 then some (.invokevirtual 81, 61, 87, 2, [], .null) else none) else (if pc = 61 then some (.aload_n 0, 62, 0, 0, [], .null) else none)) else (if pc < 65 then (if pc = 62 then some (.getfield 54, 65, 5, 12, [], .null) else none) else (if pc = 65 then some (.lreturn, 66, 0, 0, [], .null) else none)))))) else none
set_option maxRecDepth 20000 in
def cdX4_fail : PCode := fun pc => if pc < 18 then (if pc < 9 then (if pc < 4 then (if pc < 1 then (if pc = 0 then some (.aload_n 0, 1, 0, 0, [], .null) else none) else (if pc = 1 then some (.getfield 38, 4, 5, 9, [], .null) else none)) else (if pc < 7 then (if pc = 4 then some (.ifCond .ne 13, 7, 17, 0, [], .null) else none) else (if pc < 8 then (if pc = 7 then some (.aload_n 0, 8, 0, 0, [], .null) else none) else (if pc = 8 then some (.iload_n 1, 9, 1, 0, [], .null) else none)))) else (if pc < 13 then (if pc < 12 then (if pc = 9 then some (.putfield 38, 12, 5, 9, [], .null) else none) else (if pc = 12 then some (.aload_n 0, 13, 0, 0, [], .null) else none)) else (if pc < 14 then (if pc = 13 then some (.iload_n 2, 14, 2, 0, [], .null) else none) else (if pc < 17 then (if pc = 14 then some (.putfield 18, 17, 5, 10, [], .null) else none) else (if pc = 17 then some (.return_, 18, 0, 0, [], .null) else none))))) else none
set_option maxRecDepth 20000 in
def cdX4_readToken : PCode := fun pc => if pc < 92 then (if pc < 46 then (if pc < 21 then (if pc < 11 then (if pc < 4 then (if pc < 1 then (if pc = 0 then some (.aload_n 0, 1, 0, 0, [], .null) else none) else (if pc = 1 then some (.getfield 22, 4, 5, 0, [], .null) else none)) else (if pc < 5 then (if pc = 4 then some (.aload_n 0, 5, 0, 0, [], .null) else none) else (if pc < 8 then (if pc = 5 then some (.getfield 44, 8, 5, 7, [], .null) else none) else (if pc = 8 then some (.invokevirtual 58, 11, 1, 2, [], .null) else none)))) else (if pc < 16 then (if pc < 12 then (if pc = 11 then some (.istore_n 1, 12, 1, 0, [], .null) else none) else (if pc < 13 then (if pc = 12 then some (.iload_n 1, 13, 1, 0, [], .null) else none) else (if pc = 13 then some (.invokestatic 63, 16, 80, 1, [], .null) else none))) else (if pc < 19 then (if pc = 16 then some (.ifCond .eq 16, 19, 32, 0, [], .null) else none) else (if pc < 20 then (if pc = 19 then some (.aload_n 0, 20, 0, 0, [], .null) else none) else (if pc = 20 then some (.dup, 21, 0, 0, [], .null) else none))))) else (if pc < 33 then (if pc < 26 then (if pc < 24 then (if pc = 21 then some (.getfield 44, 24, 5, 7, [], .null) else none) else (if pc < 25 then (if pc = 24 then some (.iconst 1, 25, 0, 0, [], .int 1) else none) else (if pc = 25 then some (.iadd, 26, 0, 0, [], .null) else none))) else (if pc < 29 then (if pc = 26 then some (.putfield 44, 29, 5, 7, [], .null) else none) else (if pc < 32 then (if pc = 29 then some (.goto 62, 32, 91, 0, [], .null) else none) else (if pc = 32 then some (.iload_n 1, 33, 1, 0, [], .null) else none)))) else (if pc < 39 then (if pc < 35 then (if pc = 33 then some (.bipush 40, 35, 0, 0, [], .int 40) else none) else (if pc < 38 then (if pc = 35 then some (.if_icmp .ne 11, 38, 46, 0, [], .null) else none) else (if pc = 38 then some (.aload_n 0, 39, 0, 0, [], .null) else none))) else (if pc < 40 then (if pc = 39 then some (.iconst 3, 40, 0, 0, [], .int 3) else none) else (if pc < 43 then (if pc = 40 then some (.invokevirtual 87, 43, 73, 2, [], .null) else none) else (if pc = 43 then some (.goto 48, 46, 91, 0, [], .null) else none)))))) else (if pc < 67 then (if pc < 54 then (if pc < 49 then (if pc < 47 then (if pc = 46 then some (.iload_n 1, 47, 1, 0, [], .null) else none) else (if pc = 47 then some (.bipush 39, 49, 0, 0, [], .int 39) else none)) else (if pc < 52 then (if pc = 49 then some (.if_icmp .ne 11, 52, 60, 0, [], .null) else none) else (if pc < 53 then (if pc = 52 then some (.aload_n 0, 53, 0, 0, [], .null) else none) else (if pc = 53 then some (.iconst 2, 54, 0, 0, [], .int 2) else none)))) else (if pc < 61 then (if pc < 57 then (if pc = 54 then some (.invokevirtual 87, 57, 73, 2, [], .null) else none) else (if pc < 60 then (if pc = 57 then some (.goto 34, 60, 91, 0, [], .null) else none) else (if pc = 60 then some (.iload_n 1, 61, 1, 0, [], .null) else none))) else (if pc < 63 then (if pc = 61 then some (.bipush 41, 63, 0, 0, [], .int 41) else none) else (if pc < 66 then (if pc = 63 then some (.if_icmp .ne 10, 66, 73, 0, [], .null) else none) else (if pc = 66 then some (.aload_n 0, 67, 0, 0, [], .null) else none))))) else (if pc < 80 then (if pc < 74 then (if pc < 70 then (if pc = 67 then some (.invokevirtual 90, 70, 75, 1, [], .null) else none) else (if pc < 73 then (if pc = 70 then some (.goto 21, 73, 91, 0, [], .null) else none) else (if pc = 73 then some (.iload_n 1, 74, 1, 0, [], .null) else none))) else (if pc < 76 then (if pc = 74 then some (.bipush 46, 76, 0, 0, [], .int 46) else none) else (if pc < 79 then (if pc = 76 then some (.if_icmp .ne 10, 79, 86, 0, [], .null) else none) else (if pc = 79 then some (.aload_n 0, 80, 0, 0, [], .null) else none)))) else (if pc < 87 then (if pc < 83 then (if pc = 80 then some (.invokevirtual 93, 83, 74, 1, [], .null) else none) else (if pc < 86 then (if pc = 83 then some (.goto 8, 86, 91, 0, [], .null) else none) else (if pc = 86 then some (.aload_n 0, 87, 0, 0, [], .null) else none))) else (if pc < 88 then (if pc = 87 then some (.iload_n 1, 88, 1, 0, [], .null) else none) else (if pc < 91 then (if pc = 88 then some (.invokevirtual 96, 91, 76, 2, [], .null) else none) else (if pc = 91 then some (.return_, 92, 0, 0, [], .null) else none))))))) else none
set_option maxRecDepth 20000 in
def cdX4_state : PCode := fun pc => if pc < 41 then (if pc < 24 then (if pc < 11 then (if pc < 4 then (if pc < 1 then (if pc = 0 then some (.aload_n 0, 1, 0, 0, [], .null) else none) else (if pc = 1 then some (.getfield 41, 4, 5, 6, [], .null) else none)) else (if pc < 7 then (if pc = 4 then some (.ifCond .le 24, 7, 28, 0, [], .null) else none) else (if pc < 8 then (if pc = 7 then some (.aload_n 0, 8, 0, 0, [], .null) else none) else (if pc = 8 then some (.getfield 41, 11, 5, 6, [], .null) else none)))) else (if pc < 17 then (if pc < 13 then (if pc = 11 then some (.bipush 60, 13, 0, 0, [], .int 60) else none) else (if pc < 16 then (if pc = 13 then some (.if_icmp .gt 15, 16, 28, 0, [], .null) else none) else (if pc = 16 then some (.aload_n 0, 17, 0, 0, [], .null) else none))) else (if pc < 20 then (if pc = 17 then some (.getfield 9, 20, 5, 4, [], .null) else none) else (if pc < 21 then (if pc = 20 then some (.aload_n 0, 21, 0, 0, [], .null) else none) else (if pc = 21 then some (.getfield 41, 24, 5, 6, [], .null) else none))))) else (if pc < 29 then (if pc < 26 then (if pc < 25 then (if pc = 24 then some (.iconst 1, 25, 0, 0, [], .int 1) else none) else (if pc = 25 then some (.isub, 26, 0, 0, [], .null) else none)) else (if pc < 27 then (if pc = 26 then some (.iaload, 27, 0, 0, [], .null) else none) else (if pc < 28 then (if pc = 27 then some (.ireturn, 28, 0, 0, [], .null) else none) else (if pc = 28 then some (.aload_n 0, 29, 0, 0, [], .null) else none)))) else (if pc < 36 then (if pc < 32 then (if pc = 29 then some (.getfield 50, 32, 5, 11, [], .null) else none) else (if pc < 35 then (if pc = 32 then some (.ifCond .eq 7, 35, 39, 0, [], .null) else none) else (if pc = 35 then some (.iconst 1, 36, 0, 0, [], .int 1) else none))) else (if pc < 39 then (if pc = 36 then some (.goto 4, 39, 40, 0, [], .null) else none) else (if pc < 40 then (if pc = 39 then some (.iconst 0, 40, 0, 0, [], .int 0) else none) else (if pc = 40 then some (.ireturn, 41, 0, 0, [], .null) else none)))))) else none
set_option maxRecDepth 20000 in
def cdX4_setState : PCode := fun pc => if pc < 29 then (if pc < 17 then (if pc < 8 then (if pc < 4 then (if pc < 1 then (if pc = 0 then some (.aload_n 0, 1, 0, 0, [], .null) else none) else (if pc = 1 then some (.getfield 41, 4, 5, 6, [], .null) else none)) else (if pc < 7 then (if pc = 4 then some (.ifCond .le 24, 7, 28, 0, [], .null) else none) else (if pc = 7 then some (.aload_n 0, 8, 0, 0, [], .null) else none))) else (if pc < 13 then (if pc < 11 then (if pc = 8 then some (.getfield 41, 11, 5, 6, [], .null) else none) else (if pc = 11 then some (.bipush 60, 13, 0, 0, [], .int 60) else none)) else (if pc < 16 then (if pc = 13 then some (.if_icmp .gt 15, 16, 28, 0, [], .null) else none) else (if pc = 16 then some (.aload_n 0, 17, 0, 0, [], .null) else none)))) else (if pc < 25 then (if pc < 21 then (if pc < 20 then (if pc = 17 then some (.getfield 9, 20, 5, 4, [], .null) else none) else (if pc = 20 then some (.aload_n 0, 21, 0, 0, [], .null) else none)) else (if pc < 24 then (if pc = 21 then some (.getfield 41, 24, 5, 6, [], .null) else none) else (if pc = 24 then some (.iconst 1, 25, 0, 0, [], .int 1) else none))) else (if pc < 27 then (if pc < 26 then (if pc = 25 then some (.isub, 26, 0, 0, [], .null) else none) else (if pc = 26 then some (.iload_n 1, 27, 1, 0, [], .null) else none)) else (if pc < 28 then (if pc = 27 then some (.iastore, 28, 0, 0, [], .null) else none) else (if pc = 28 then some (.return_, 29, 0, 0, [], .null) else none))))) else none
set_option maxRecDepth 20000 in
def cdX4_mayBegin : PCode := fun pc => if pc < 22 then (if pc < 10 then (if pc < 5 then (if pc < 1 then (if pc = 0 then some (.aload_n 0, 1, 0, 0, [], .null) else none) else (if pc < 4 then (if pc = 1 then some (.invokevirtual 99, 4, 70, 1, [], .null) else none) else (if pc = 4 then some (.istore_n 1, 5, 1, 0, [], .null) else none))) else (if pc < 6 then (if pc = 5 then some (.iload_n 1, 6, 1, 0, [], .null) else none) else (if pc < 7 then (if pc = 6 then some (.iconst 1, 7, 0, 0, [], .int 1) else none) else (if pc = 7 then some (.if_icmp .eq 13, 10, 20, 0, [], .null) else none)))) else (if pc < 16 then (if pc < 11 then (if pc = 10 then some (.iload_n 1, 11, 1, 0, [], .null) else none) else (if pc < 13 then (if pc = 11 then some (.bipush 6, 13, 0, 0, [], .int 6) else none) else (if pc = 13 then some (.if_icmp .eq 7, 16, 20, 0, [], .null) else none))) else (if pc < 20 then (if pc < 17 then (if pc = 16 then some (.iconst 1, 17, 0, 0, [], .int 1) else none) else (if pc = 17 then some (.goto 4, 20, 21, 0, [], .null) else none)) else (if pc < 21 then (if pc = 20 then some (.iconst 0, 21, 0, 0, [], .int 0) else none) else (if pc = 21 then some (.ireturn, 22, 0, 0, [], .null) else none))))) else none
set_option maxRecDepth 20000 in
def cdX4_openOne : PCode := fun pc => if pc < 87 then (if pc < 48 then (if pc < 23 then (if pc < 9 then (if pc < 4 then (if pc < 1 then (if pc = 0 then some (.aload_n 0, 1, 0, 0, [], .null) else none) else (if pc = 1 then some (.invokevirtual 102, 4, 72, 1, [], .null) else none)) else (if pc < 7 then (if pc = 4 then some (.ifCond .ne 15, 7, 19, 0, [], .null) else none) else (if pc < 8 then (if pc = 7 then some (.aload_n 0, 8, 0, 0, [], .null) else none) else (if pc = 8 then some (.iconst 1, 9, 0, 0, [], .int 1) else none)))) else (if pc < 16 then (if pc < 10 then (if pc = 9 then some (.aload_n 0, 10, 0, 0, [], .null) else none) else (if pc < 13 then (if pc = 10 then some (.getfield 44, 13, 5, 7, [], .null) else none) else (if pc = 13 then some (.invokevirtual 70, 16, 68, 3, [], .null) else none))) else (if pc < 19 then (if pc = 16 then some (.goto 70, 19, 86, 0, [], .null) else none) else (if pc < 20 then (if pc = 19 then some (.aload_n 0, 20, 0, 0, [], .null) else none) else (if pc = 20 then some (.getfield 41, 23, 5, 6, [], .null) else none))))) else (if pc < 34 then (if pc < 29 then (if pc < 25 then (if pc = 23 then some (.bipush 60, 25, 0, 0, [], .int 60) else none) else (if pc < 28 then (if pc = 25 then some (.if_icmp .lt 15, 28, 40, 0, [], .null) else none) else (if pc = 28 then some (.aload_n 0, 29, 0, 0, [], .null) else none))) else (if pc < 30 then (if pc = 29 then some (.iconst 4, 30, 0, 0, [], .int 4) else none) else (if pc < 31 then (if pc = 30 then some (.aload_n 0, 31, 0, 0, [], .null) else none) else (if pc = 31 then some (.getfield 44, 34, 5, 7, [], .null) else none)))) else (if pc < 41 then (if pc < 37 then (if pc = 34 then some (.invokevirtual 70, 37, 68, 3, [], .null) else none) else (if pc < 40 then (if pc = 37 then some (.goto 49, 40, 86, 0, [], .null) else none) else (if pc = 40 then some (.aload_n 0, 41, 0, 0, [], .null) else none))) else (if pc < 44 then (if pc = 41 then some (.getfield 9, 44, 5, 4, [], .null) else none) else (if pc < 45 then (if pc = 44 then some (.aload_n 0, 45, 0, 0, [], .null) else none) else (if pc = 45 then some (.getfield 41, 48, 5, 6, [], .null) else none)))))) else (if pc < 67 then (if pc < 55 then (if pc < 50 then (if pc < 49 then (if pc = 48 then some (.iload_n 1, 49, 1, 0, [], .null) else none) else (if pc = 49 then some (.iastore, 50, 0, 0, [], .null) else none)) else (if pc < 51 then (if pc = 50 then some (.aload_n 0, 51, 0, 0, [], .null) else none) else (if pc < 54 then (if pc = 51 then some (.getfield 15, 54, 5, 5, [], .null) else none) else (if pc = 54 then some (.aload_n 0, 55, 0, 0, [], .null) else none)))) else (if pc < 62 then (if pc < 58 then (if pc = 55 then some (.getfield 41, 58, 5, 6, [], .null) else none) else (if pc < 59 then (if pc = 58 then some (.aload_n 0, 59, 0, 0, [], .null) else none) else (if pc = 59 then some (.getfield 34, 62, 5, 3, [], .null) else none))) else (if pc < 65 then (if pc = 62 then some (.invokevirtual 106, 65, 83, 1, [], .null) else none) else (if pc < 66 then (if pc = 65 then some (.iastore, 66, 0, 0, [], .null) else none) else (if pc = 66 then some (.aload_n 0, 67, 0, 0, [], .null) else none))))) else (if pc < 77 then (if pc < 72 then (if pc < 68 then (if pc = 67 then some (.dup, 68, 0, 0, [], .null) else none) else (if pc < 71 then (if pc = 68 then some (.getfield 41, 71, 5, 6, [], .null) else none) else (if pc = 71 then some (.iconst 1, 72, 0, 0, [], .int 1) else none))) else (if pc < 73 then (if pc = 72 then some (.iadd, 73, 0, 0, [], .null) else none) else (if pc < 76 then (if pc = 73 then some (.putfield 41, 76, 5, 6, [], .null) else none) else (if pc = 76 then some (.aload_n 0, 77, 0, 0, [], .null) else none)))) else (if pc < 82 then (if pc < 78 then (if pc = 77 then some (.dup, 78, 0, 0, [], .null) else none) else (if pc < 81 then (if pc = 78 then some (.getfield 44, 81, 5, 7, [], .null) else none) else (if pc = 81 then some (.iconst 1, 82, 0, 0, [], .int 1) else none))) else (if pc < 83 then (if pc = 82 then some (.iadd, 83, 0, 0, [], .null) else none) else (if pc < 86 then (if pc = 83 then some (.putfield 44, 86, 5, 7, [], .null) else none) else (if pc = 86 then some (.return_, 87, 0, 0, [], .null) else none))))))) else none
end
section
/-! resolved code, part 2 -/
set_option maxRecDepth 20000 in
def cdX4_readDot : PCode := fun pc => if pc < 34 then (if pc < 18 then (if pc < 9 then (if pc < 4 then (if pc < 1 then (if pc = 0 then some (.aload_n 0, 1, 0, 0, [], .null) else none) else (if pc = 1 then some (.invokevirtual 99, 4, 70, 1, [], .null) else none)) else (if pc < 5 then (if pc = 4 then some (.iconst 4, 5, 0, 0, [], .int 4) else none) else (if pc < 8 then (if pc = 5 then some (.if_icmp .eq 13, 8, 18, 0, [], .null) else none) else (if pc = 8 then some (.aload_n 0, 9, 0, 0, [], .null) else none)))) else (if pc < 11 then (if pc < 10 then (if pc = 9 then some (.iconst 1, 10, 0, 0, [], .int 1) else none) else (if pc = 10 then some (.aload_n 0, 11, 0, 0, [], .null) else none)) else (if pc < 14 then (if pc = 11 then some (.getfield 44, 14, 5, 7, [], .null) else none) else (if pc < 17 then (if pc = 14 then some (.invokevirtual 70, 17, 68, 3, [], .null) else none) else (if pc = 17 then some (.return_, 18, 0, 0, [], .null) else none))))) else (if pc < 25 then (if pc < 20 then (if pc < 19 then (if pc = 18 then some (.aload_n 0, 19, 0, 0, [], .null) else none) else (if pc = 19 then some (.iconst 5, 20, 0, 0, [], .int 5) else none)) else (if pc < 23 then (if pc = 20 then some (.invokevirtual 109, 23, 71, 2, [], .null) else none) else (if pc < 24 then (if pc = 23 then some (.aload_n 0, 24, 0, 0, [], .null) else none) else (if pc = 24 then some (.dup, 25, 0, 0, [], .null) else none)))) else (if pc < 29 then (if pc < 28 then (if pc = 25 then some (.getfield 44, 28, 5, 7, [], .null) else none) else (if pc = 28 then some (.iconst 1, 29, 0, 0, [], .int 1) else none)) else (if pc < 30 then (if pc = 29 then some (.iadd, 30, 0, 0, [], .null) else none) else (if pc < 33 then (if pc = 30 then some (.putfield 44, 33, 5, 7, [], .null) else none) else (if pc = 33 then some (.return_, 34, 0, 0, [], .null) else none)))))) else none
set_option maxRecDepth 20000 in
def cdX4_closeList : PCode := fun pc => if pc < 200 then (if pc < 96 then (if pc < 48 then (if pc < 22 then (if pc < 10 then (if pc < 5 then (if pc < 1 then (if pc = 0 then some (.aload_n 0, 1, 0, 0, [], .null) else none) else (if pc < 4 then (if pc = 1 then some (.invokevirtual 99, 4, 70, 1, [], .null) else none) else (if pc = 4 then some (.istore_n 1, 5, 1, 0, [], .null) else none))) else (if pc < 6 then (if pc = 5 then some (.iload_n 1, 6, 1, 0, [], .null) else none) else (if pc < 7 then (if pc = 6 then some (.iconst 3, 7, 0, 0, [], .int 3) else none) else (if pc = 7 then some (.if_icmp .eq 24, 10, 31, 0, [], .null) else none)))) else (if pc < 15 then (if pc < 11 then (if pc = 10 then some (.iload_n 1, 11, 1, 0, [], .null) else none) else (if pc < 12 then (if pc = 11 then some (.iconst 4, 12, 0, 0, [], .int 4) else none) else (if pc = 12 then some (.if_icmp .eq 19, 15, 31, 0, [], .null) else none))) else (if pc < 18 then (if pc < 16 then (if pc = 15 then some (.iload_n 1, 16, 1, 0, [], .null) else none) else (if pc = 16 then some (.bipush 6, 18, 0, 0, [], .int 6) else none)) else (if pc < 21 then (if pc = 18 then some (.if_icmp .eq 13, 21, 31, 0, [], .null) else none) else (if pc = 21 then some (.aload_n 0, 22, 0, 0, [], .null) else none))))) else (if pc < 32 then (if pc < 27 then (if pc < 23 then (if pc = 22 then some (.iconst 1, 23, 0, 0, [], .int 1) else none) else (if pc < 24 then (if pc = 23 then some (.aload_n 0, 24, 0, 0, [], .null) else none) else (if pc = 24 then some (.getfield 44, 27, 5, 7, [], .null) else none))) else (if pc < 30 then (if pc = 27 then some (.invokevirtual 70, 30, 68, 3, [], .null) else none) else (if pc < 31 then (if pc = 30 then some (.return_, 31, 0, 0, [], .null) else none) else (if pc = 31 then some (.aload_n 0, 32, 0, 0, [], .null) else none)))) else (if pc < 39 then (if pc < 35 then (if pc = 32 then some (.getfield 41, 35, 5, 6, [], .null) else none) else (if pc < 38 then (if pc = 35 then some (.ifCond .le 26, 38, 61, 0, [], .null) else none) else (if pc = 38 then some (.aload_n 0, 39, 0, 0, [], .null) else none))) else (if pc < 44 then (if pc < 42 then (if pc = 39 then some (.getfield 41, 42, 5, 6, [], .null) else none) else (if pc = 42 then some (.bipush 60, 44, 0, 0, [], .int 60) else none)) else (if pc < 47 then (if pc = 44 then some (.if_icmp .gt 17, 47, 61, 0, [], .null) else none) else (if pc = 47 then some (.aload_n 0, 48, 0, 0, [], .null) else none)))))) else (if pc < 71 then (if pc < 58 then (if pc < 55 then (if pc < 51 then (if pc = 48 then some (.getfield 15, 51, 5, 5, [], .null) else none) else (if pc < 52 then (if pc = 51 then some (.aload_n 0, 52, 0, 0, [], .null) else none) else (if pc = 52 then some (.getfield 41, 55, 5, 6, [], .null) else none))) else (if pc < 56 then (if pc = 55 then some (.iconst 1, 56, 0, 0, [], .int 1) else none) else (if pc < 57 then (if pc = 56 then some (.isub, 57, 0, 0, [], .null) else none) else (if pc = 57 then some (.iaload, 58, 0, 0, [], .null) else none)))) else (if pc < 63 then (if pc < 61 then (if pc = 58 then some (.goto 4, 61, 62, 0, [], .null) else none) else (if pc < 62 then (if pc = 61 then some (.iconst 0, 62, 0, 0, [], .int 0) else none) else (if pc = 62 then some (.istore_n 2, 63, 2, 0, [], .null) else none))) else (if pc < 67 then (if pc < 64 then (if pc = 63 then some (.aload_n 0, 64, 0, 0, [], .null) else none) else (if pc = 64 then some (.getfield 34, 67, 5, 3, [], .null) else none)) else (if pc < 70 then (if pc = 67 then some (.invokevirtual 106, 70, 83, 1, [], .null) else none) else (if pc = 70 then some (.iconst 1, 71, 0, 0, [], .int 1) else none))))) else (if pc < 82 then (if pc < 74 then (if pc < 72 then (if pc = 71 then some (.isub, 72, 0, 0, [], .null) else none) else (if pc < 73 then (if pc = 72 then some (.istore_n 3, 73, 3, 0, [], .null) else none) else (if pc = 73 then some (.lconst 0, 74, 0, 0, [], .long 0) else none))) else (if pc < 77 then (if pc < 76 then (if pc = 74 then some (.lstore 4, 76, 4, 0, [], .null) else none) else (if pc = 76 then some (.iload_n 1, 77, 1, 0, [], .null) else none)) else (if pc < 79 then (if pc = 77 then some (.bipush 6, 79, 0, 0, [], .int 6) else none) else (if pc = 79 then some (.if_icmp .ne 16, 82, 95, 0, [], .null) else none)))) else (if pc < 87 then (if pc < 83 then (if pc = 82 then some (.aload_n 0, 83, 0, 0, [], .null) else none) else (if pc < 86 then (if pc = 83 then some (.getfield 34, 86, 5, 3, [], .null) else none) else (if pc = 86 then some (.iload_n 3, 87, 3, 0, [], .null) else none))) else (if pc < 92 then (if pc < 90 then (if pc = 87 then some (.invokevirtual 112, 90, 84, 2, [], .null) else none) else (if pc = 90 then some (.lstore 4, 92, 4, 0, [], .null) else none)) else (if pc < 95 then (if pc = 92 then some (.iinc 3 (-1), 95, 3, 0, [], .int (-1)) else none) else (if pc = 95 then some (.iload_n 3, 96, 3, 0, [], .null) else none))))))) else (if pc < 152 then (if pc < 123 then (if pc < 109 then (if pc < 101 then (if pc < 98 then (if pc = 96 then some (.istore 6, 98, 6, 0, [], .null) else none) else (if pc < 100 then (if pc = 98 then some (.iload 6, 100, 6, 0, [], .null) else none) else (if pc = 100 then some (.iload_n 2, 101, 2, 0, [], .null) else none))) else (if pc < 104 then (if pc = 101 then some (.if_icmp .lt 38, 104, 139, 0, [], .null) else none) else (if pc < 106 then (if pc = 104 then some (.lload 4, 106, 4, 0, [], .null) else none) else (if pc = 106 then some (.ldc2_w 117, 109, 0, 0, [], .long (-1)) else none)))) else (if pc < 114 then (if pc < 110 then (if pc = 109 then some (.lcmp, 110, 0, 0, [], .null) else none) else (if pc < 113 then (if pc = 110 then some (.ifCond .eq 29, 113, 139, 0, [], .null) else none) else (if pc = 113 then some (.aload_n 0, 114, 0, 0, [], .null) else none))) else (if pc < 118 then (if pc < 117 then (if pc = 114 then some (.getfield 30, 117, 5, 2, [], .null) else none) else (if pc = 117 then some (.aload_n 0, 118, 0, 0, [], .null) else none)) else (if pc < 121 then (if pc = 118 then some (.getfield 34, 121, 5, 3, [], .null) else none) else (if pc = 121 then some (.iload 6, 123, 6, 0, [], .null) else none))))) else (if pc < 139 then (if pc < 131 then (if pc < 126 then (if pc = 123 then some (.invokevirtual 112, 126, 84, 2, [], .null) else none) else (if pc < 128 then (if pc = 126 then some (.lload 4, 128, 4, 0, [], .null) else none) else (if pc = 128 then some (.invokevirtual 119, 131, 10, 3, [], .null) else none))) else (if pc < 133 then (if pc = 131 then some (.lstore 4, 133, 4, 0, [], .null) else none) else (if pc < 136 then (if pc = 133 then some (.iinc 6 (-1), 136, 6, 0, [], .int (-1)) else none) else (if pc = 136 then some (.goto (-38), 139, 98, 0, [], .null) else none)))) else (if pc < 145 then (if pc < 141 then (if pc = 139 then some (.lload 4, 141, 4, 0, [], .null) else none) else (if pc < 144 then (if pc = 141 then some (.ldc2_w 117, 144, 0, 0, [], .long (-1)) else none) else (if pc = 144 then some (.lcmp, 145, 0, 0, [], .null) else none))) else (if pc < 149 then (if pc < 148 then (if pc = 145 then some (.ifCond .ne 14, 148, 159, 0, [], .null) else none) else (if pc = 148 then some (.aload_n 0, 149, 0, 0, [], .null) else none)) else (if pc < 151 then (if pc = 149 then some (.bipush 8, 151, 0, 0, [], .int 8) else none) else (if pc = 151 then some (.aload_n 0, 152, 0, 0, [], .null) else none)))))) else (if pc < 177 then (if pc < 164 then (if pc < 159 then (if pc < 155 then (if pc = 152 then some (.getfield 44, 155, 5, 7, [], .null) else none) else (if pc < 158 then (if pc = 155 then some (.invokevirtual 70, 158, 68, 3, [], .null) else none) else (if pc = 158 then some (.return_, 159, 0, 0, [], .null) else none))) else (if pc < 160 then (if pc = 159 then some (.aload_n 0, 160, 0, 0, [], .null) else none) else (if pc < 163 then (if pc = 160 then some (.getfield 34, 163, 5, 3, [], .null) else none) else (if pc = 163 then some (.iload_n 2, 164, 2, 0, [], .null) else none)))) else (if pc < 169 then (if pc < 167 then (if pc = 164 then some (.invokevirtual 81, 167, 87, 2, [], .null) else none) else (if pc < 168 then (if pc = 167 then some (.aload_n 0, 168, 0, 0, [], .null) else none) else (if pc = 168 then some (.dup, 169, 0, 0, [], .null) else none))) else (if pc < 173 then (if pc < 172 then (if pc = 169 then some (.getfield 41, 172, 5, 6, [], .null) else none) else (if pc = 172 then some (.iconst 1, 173, 0, 0, [], .int 1) else none)) else (if pc < 174 then (if pc = 173 then some (.isub, 174, 0, 0, [], .null) else none) else (if pc = 174 then some (.putfield 41, 177, 5, 6, [], .null) else none))))) else (if pc < 188 then (if pc < 182 then (if pc < 178 then (if pc = 177 then some (.aload_n 0, 178, 0, 0, [], .null) else none) else (if pc < 179 then (if pc = 178 then some (.dup, 179, 0, 0, [], .null) else none) else (if pc = 179 then some (.getfield 44, 182, 5, 7, [], .null) else none))) else (if pc < 184 then (if pc < 183 then (if pc = 182 then some (.iconst 1, 183, 0, 0, [], .int 1) else none) else (if pc = 183 then some (.iadd, 184, 0, 0, [], .null) else none)) else (if pc < 187 then (if pc = 184 then some (.putfield 44, 187, 5, 7, [], .null) else none) else (if pc = 187 then some (.aload_n 0, 188, 0, 0, [], .null) else none)))) else (if pc < 194 then (if pc < 190 then (if pc = 188 then some (.lload 4, 190, 4, 0, [], .null) else none) else (if pc < 191 then (if pc = 190 then some (.aload_n 0, 191, 0, 0, [], .null) else none) else (if pc = 191 then some (.getfield 44, 194, 5, 7, [], .null) else none))) else (if pc < 196 then (if pc < 195 then (if pc = 194 then some (.iconst 1, 195, 0, 0, [], .int 1) else none) else (if pc = 195 then some (.isub, 196, 0, 0, [], .null) else none)) else (if pc < 199 then (if pc = 196 then some (.invokevirtual 125, 199, 79, 3, [], .null) else none) else (if pc = 199 then some (.return_, 200, 0, 0, [], .null) else none)))))))) else none
set_option maxRecDepth 20000 in
def cdX4_readAtom : PCode := fun pc => if pc < 105 then (if pc < 54 then (if pc < 25 then (if pc < 12 then (if pc < 5 then (if pc < 1 then (if pc = 0 then some (.aload_n 0, 1, 0, 0, [], .null) else none) else (if pc < 4 then (if pc = 1 then some (.getfield 44, 4, 5, 7, [], .null) else none) else (if pc = 4 then some (.istore_n 2, 5, 2, 0, [], .null) else none))) else (if pc < 6 then (if pc = 5 then some (.aload_n 0, 6, 0, 0, [], .null) else none) else (if pc < 9 then (if pc = 6 then some (.invokevirtual 102, 9, 72, 1, [], .null) else none) else (if pc = 9 then some (.ifCond .ne 12, 12, 21, 0, [], .null) else none)))) else (if pc < 15 then (if pc < 13 then (if pc = 12 then some (.aload_n 0, 13, 0, 0, [], .null) else none) else (if pc < 14 then (if pc = 13 then some (.iconst 1, 14, 0, 0, [], .int 1) else none) else (if pc = 14 then some (.iload_n 2, 15, 2, 0, [], .null) else none))) else (if pc < 21 then (if pc < 18 then (if pc = 15 then some (.invokevirtual 70, 18, 68, 3, [], .null) else none) else (if pc = 18 then some (.goto 86, 21, 104, 0, [], .null) else none)) else (if pc < 22 then (if pc = 21 then some (.iload_n 1, 22, 1, 0, [], .null) else none) else (if pc = 22 then some (.invokestatic 67, 25, 81, 1, [], .null) else none))))) else (if pc < 38 then (if pc < 30 then (if pc < 28 then (if pc = 25 then some (.ifCond .eq 16, 28, 41, 0, [], .null) else none) else (if pc < 29 then (if pc = 28 then some (.aload_n 0, 29, 0, 0, [], .null) else none) else (if pc = 29 then some (.aload_n 0, 30, 0, 0, [], .null) else none))) else (if pc < 34 then (if pc < 33 then (if pc = 30 then some (.invokevirtual 74, 33, 77, 1, [], .null) else none) else (if pc = 33 then some (.i2l, 34, 0, 0, [], .null) else none)) else (if pc < 35 then (if pc = 34 then some (.iload_n 2, 35, 2, 0, [], .null) else none) else (if pc = 35 then some (.invokevirtual 125, 38, 79, 3, [], .null) else none)))) else (if pc < 45 then (if pc < 41 then (if pc = 38 then some (.goto 66, 41, 104, 0, [], .null) else none) else (if pc < 42 then (if pc = 41 then some (.iload_n 1, 42, 1, 0, [], .null) else none) else (if pc = 42 then some (.invokestatic 129, 45, 82, 1, [], .null) else none))) else (if pc < 49 then (if pc < 48 then (if pc = 45 then some (.ifCond .ne 41, 48, 86, 0, [], .null) else none) else (if pc = 48 then some (.iload_n 1, 49, 1, 0, [], .null) else none)) else (if pc < 51 then (if pc = 49 then some (.bipush 45, 51, 0, 0, [], .int 45) else none) else (if pc = 51 then some (.if_icmp .ne 47, 54, 98, 0, [], .null) else none)))))) else (if pc < 77 then (if pc < 64 then (if pc < 59 then (if pc < 55 then (if pc = 54 then some (.aload_n 0, 55, 0, 0, [], .null) else none) else (if pc < 58 then (if pc = 55 then some (.getfield 44, 58, 5, 7, [], .null) else none) else (if pc = 58 then some (.iconst 1, 59, 0, 0, [], .int 1) else none))) else (if pc < 60 then (if pc = 59 then some (.iadd, 60, 0, 0, [], .null) else none) else (if pc < 61 then (if pc = 60 then some (.aload_n 0, 61, 0, 0, [], .null) else none) else (if pc = 61 then some (.getfield 47, 64, 5, 8, [], .null) else none)))) else (if pc < 71 then (if pc < 67 then (if pc = 64 then some (.if_icmp .ge 34, 67, 98, 0, [], .null) else none) else (if pc < 68 then (if pc = 67 then some (.aload_n 0, 68, 0, 0, [], .null) else none) else (if pc = 68 then some (.getfield 22, 71, 5, 0, [], .null) else none))) else (if pc < 75 then (if pc < 72 then (if pc = 71 then some (.aload_n 0, 72, 0, 0, [], .null) else none) else (if pc = 72 then some (.getfield 44, 75, 5, 7, [], .null) else none)) else (if pc < 76 then (if pc = 75 then some (.iconst 1, 76, 0, 0, [], .int 1) else none) else (if pc = 76 then some (.iadd, 77, 0, 0, [], .null) else none))))) else (if pc < 92 then (if pc < 86 then (if pc < 80 then (if pc = 77 then some (.invokevirtual 58, 80, 1, 2, [], .null) else none) else (if pc < 83 then (if pc = 80 then some (.invokestatic 129, 83, 82, 1, [], .null) else none) else (if pc = 83 then some (.ifCond .eq 15, 86, 98, 0, [], .null) else none))) else (if pc < 88 then (if pc < 87 then (if pc = 86 then some (.aload_n 0, 87, 0, 0, [], .null) else none) else (if pc = 87 then some (.aload_n 0, 88, 0, 0, [], .null) else none)) else (if pc < 91 then (if pc = 88 then some (.invokevirtual 132, 91, 78, 1, [], .null) else none) else (if pc = 91 then some (.iload_n 2, 92, 2, 0, [], .null) else none)))) else (if pc < 99 then (if pc < 95 then (if pc = 92 then some (.invokevirtual 125, 95, 79, 3, [], .null) else none) else (if pc < 98 then (if pc = 95 then some (.goto 9, 98, 104, 0, [], .null) else none) else (if pc = 98 then some (.aload_n 0, 99, 0, 0, [], .null) else none))) else (if pc < 101 then (if pc < 100 then (if pc = 99 then some (.iconst 1, 100, 0, 0, [], .int 1) else none) else (if pc = 100 then some (.iload_n 2, 101, 2, 0, [], .null) else none)) else (if pc < 104 then (if pc = 101 then some (.invokevirtual 70, 104, 68, 3, [], .null) else none) else (if pc = 104 then some (.return_, 105, 0, 0, [], .null) else none))))))) else none
set_option maxRecDepth 20000 in
def cdX4_readSymbol : PCode := fun pc => if pc < 114 then (if pc < 64 then (if pc < 33 then (if pc < 13 then (if pc < 5 then (if pc < 1 then (if pc = 0 then some (.aload_n 0, 1, 0, 0, [], .null) else none) else (if pc < 4 then (if pc = 1 then some (.getfield 44, 4, 5, 7, [], .null) else none) else (if pc = 4 then some (.istore_n 1, 5, 1, 0, [], .null) else none))) else (if pc < 9 then (if pc < 6 then (if pc = 5 then some (.aload_n 0, 6, 0, 0, [], .null) else none) else (if pc = 6 then some (.getfield 44, 9, 5, 7, [], .null) else none)) else (if pc < 10 then (if pc = 9 then some (.aload_n 0, 10, 0, 0, [], .null) else none) else (if pc = 10 then some (.getfield 47, 13, 5, 8, [], .null) else none)))) else (if pc < 21 then (if pc < 17 then (if pc < 16 then (if pc = 13 then some (.if_icmp .ge 50, 16, 63, 0, [], .null) else none) else (if pc = 16 then some (.aload_n 0, 17, 0, 0, [], .null) else none)) else (if pc < 20 then (if pc = 17 then some (.getfield 22, 20, 5, 0, [], .null) else none) else (if pc = 20 then some (.aload_n 0, 21, 0, 0, [], .null) else none))) else (if pc < 27 then (if pc < 24 then (if pc = 21 then some (.getfield 44, 24, 5, 7, [], .null) else none) else (if pc = 24 then some (.invokevirtual 58, 27, 1, 2, [], .null) else none)) else (if pc < 30 then (if pc = 27 then some (.invokestatic 67, 30, 81, 1, [], .null) else none) else (if pc = 30 then some (.ifCond .ne 20, 33, 50, 0, [], .null) else none))))) else (if pc < 50 then (if pc < 38 then (if pc < 34 then (if pc = 33 then some (.aload_n 0, 34, 0, 0, [], .null) else none) else (if pc < 37 then (if pc = 34 then some (.getfield 22, 37, 5, 0, [], .null) else none) else (if pc = 37 then some (.aload_n 0, 38, 0, 0, [], .null) else none))) else (if pc < 44 then (if pc < 41 then (if pc = 38 then some (.getfield 44, 41, 5, 7, [], .null) else none) else (if pc = 41 then some (.invokevirtual 58, 44, 1, 2, [], .null) else none)) else (if pc < 47 then (if pc = 44 then some (.invokestatic 129, 47, 82, 1, [], .null) else none) else (if pc = 47 then some (.ifCond .eq 16, 50, 63, 0, [], .null) else none)))) else (if pc < 56 then (if pc < 52 then (if pc < 51 then (if pc = 50 then some (.aload_n 0, 51, 0, 0, [], .null) else none) else (if pc = 51 then some (.dup, 52, 0, 0, [], .null) else none)) else (if pc < 55 then (if pc = 52 then some (.getfield 44, 55, 5, 7, [], .null) else none) else (if pc = 55 then some (.iconst 1, 56, 0, 0, [], .int 1) else none))) else (if pc < 60 then (if pc < 57 then (if pc = 56 then some (.iadd, 57, 0, 0, [], .null) else none) else (if pc = 57 then some (.putfield 44, 60, 5, 7, [], .null) else none)) else (if pc < 63 then (if pc = 60 then some (.goto (-55), 63, 5, 0, [], .null) else none) else (if pc = 63 then some (.aload_n 0, 64, 0, 0, [], .null) else none)))))) else (if pc < 90 then (if pc < 76 then (if pc < 69 then (if pc < 67 then (if pc = 64 then some (.getfield 44, 67, 5, 7, [], .null) else none) else (if pc < 68 then (if pc = 67 then some (.iload_n 1, 68, 1, 0, [], .null) else none) else (if pc = 68 then some (.isub, 69, 0, 0, [], .null) else none))) else (if pc < 74 then (if pc < 71 then (if pc = 69 then some (.bipush 10, 71, 0, 0, [], .int 10) else none) else (if pc = 71 then some (.if_icmp .le 11, 74, 82, 0, [], .null) else none)) else (if pc < 75 then (if pc = 74 then some (.aload_n 0, 75, 0, 0, [], .null) else none) else (if pc = 75 then some (.iconst 2, 76, 0, 0, [], .int 2) else none)))) else (if pc < 82 then (if pc < 80 then (if pc < 77 then (if pc = 76 then some (.iload_n 1, 77, 1, 0, [], .null) else none) else (if pc = 77 then some (.invokevirtual 70, 80, 68, 3, [], .null) else none)) else (if pc < 81 then (if pc = 80 then some (.iconst (-1), 81, 0, 0, [], .int (-1)) else none) else (if pc = 81 then some (.ireturn, 82, 0, 0, [], .null) else none))) else (if pc < 86 then (if pc < 83 then (if pc = 82 then some (.aload_n 0, 83, 0, 0, [], .null) else none) else (if pc = 83 then some (.getfield 26, 86, 5, 1, [], .null) else none)) else (if pc < 87 then (if pc = 86 then some (.aload_n 0, 87, 0, 0, [], .null) else none) else (if pc = 87 then some (.getfield 22, 90, 5, 0, [], .null) else none))))) else (if pc < 102 then (if pc < 96 then (if pc < 92 then (if pc < 91 then (if pc = 90 then some (.iload_n 1, 91, 1, 0, [], .null) else none) else (if pc = 91 then some (.aload_n 0, 92, 0, 0, [], .null) else none)) else (if pc < 95 then (if pc = 92 then some (.getfield 44, 95, 5, 7, [], .null) else none) else (if pc = 95 then some (.iload_n 1, 96, 1, 0, [], .null) else none))) else (if pc < 100 then (if pc < 97 then (if pc = 96 then some (.isub, 97, 0, 0, [], .null) else none) else (if pc = 97 then some (.invokevirtual 136, 100, 92, 4, [], .null) else none)) else (if pc < 101 then (if pc = 100 then some (.istore_n 2, 101, 2, 0, [], .null) else none) else (if pc = 101 then some (.iload_n 2, 102, 2, 0, [], .null) else none)))) else (if pc < 108 then (if pc < 106 then (if pc < 103 then (if pc = 102 then some (.iconst (-1), 103, 0, 0, [], .int (-1)) else none) else (if pc = 103 then some (.if_icmp .ne 9, 106, 112, 0, [], .null) else none)) else (if pc < 107 then (if pc = 106 then some (.aload_n 0, 107, 0, 0, [], .null) else none) else (if pc = 107 then some (.iconst 3, 108, 0, 0, [], .int 3) else none))) else (if pc < 112 then (if pc < 109 then (if pc = 108 then some (.iload_n 1, 109, 1, 0, [], .null) else none) else (if pc = 109 then some (.invokevirtual 70, 112, 68, 3, [], .null) else none)) else (if pc < 113 then (if pc = 112 then some (.iload_n 2, 113, 2, 0, [], .null) else none) else (if pc = 113 then some (.ireturn, 114, 0, 0, [], .null) else none))))))) else none
set_option maxRecDepth 20000 in
def cdX4_readNumber : PCode := fun pc => if pc < 158 then (if pc < 80 then (if pc < 37 then (if pc < 21 then (if pc < 9 then (if pc < 4 then (if pc < 1 then (if pc = 0 then some (.aload_n 0, 1, 0, 0, [], .null) else none) else (if pc = 1 then some (.getfield 44, 4, 5, 7, [], .null) else none)) else (if pc < 5 then (if pc = 4 then some (.istore_n 1, 5, 1, 0, [], .null) else none) else (if pc < 6 then (if pc = 5 then some (.aload_n 0, 6, 0, 0, [], .null) else none) else (if pc = 6 then some (.getfield 22, 9, 5, 0, [], .null) else none)))) else (if pc < 13 then (if pc < 10 then (if pc = 9 then some (.aload_n 0, 10, 0, 0, [], .null) else none) else (if pc = 10 then some (.getfield 44, 13, 5, 7, [], .null) else none)) else (if pc < 16 then (if pc = 13 then some (.invokevirtual 58, 16, 1, 2, [], .null) else none) else (if pc < 18 then (if pc = 16 then some (.bipush 45, 18, 0, 0, [], .int 45) else none) else (if pc = 18 then some (.if_icmp .ne 7, 21, 25, 0, [], .null) else none))))) else (if pc < 28 then (if pc < 25 then (if pc < 22 then (if pc = 21 then some (.iconst 1, 22, 0, 0, [], .int 1) else none) else (if pc = 22 then some (.goto 4, 25, 26, 0, [], .null) else none)) else (if pc < 26 then (if pc = 25 then some (.iconst 0, 26, 0, 0, [], .int 0) else none) else (if pc < 27 then (if pc = 26 then some (.istore_n 2, 27, 2, 0, [], .null) else none) else (if pc = 27 then some (.iload_n 2, 28, 2, 0, [], .null) else none)))) else (if pc < 32 then (if pc < 31 then (if pc = 28 then some (.ifCond .eq 13, 31, 41, 0, [], .null) else none) else (if pc = 31 then some (.aload_n 0, 32, 0, 0, [], .null) else none)) else (if pc < 33 then (if pc = 32 then some (.dup, 33, 0, 0, [], .null) else none) else (if pc < 36 then (if pc = 33 then some (.getfield 44, 36, 5, 7, [], .null) else none) else (if pc = 36 then some (.iconst 1, 37, 0, 0, [], .int 1) else none)))))) else (if pc < 55 then (if pc < 44 then (if pc < 41 then (if pc < 38 then (if pc = 37 then some (.iadd, 38, 0, 0, [], .null) else none) else (if pc = 38 then some (.putfield 44, 41, 5, 7, [], .null) else none)) else (if pc < 42 then (if pc = 41 then some (.lconst 0, 42, 0, 0, [], .long 0) else none) else (if pc < 43 then (if pc = 42 then some (.lstore_n 3, 43, 3, 0, [], .null) else none) else (if pc = 43 then some (.aload_n 0, 44, 0, 0, [], .null) else none)))) else (if pc < 48 then (if pc < 47 then (if pc = 44 then some (.getfield 44, 47, 5, 7, [], .null) else none) else (if pc = 47 then some (.aload_n 0, 48, 0, 0, [], .null) else none)) else (if pc < 51 then (if pc = 48 then some (.getfield 47, 51, 5, 8, [], .null) else none) else (if pc < 54 then (if pc = 51 then some (.if_icmp .ge 64, 54, 115, 0, [], .null) else none) else (if pc = 54 then some (.aload_n 0, 55, 0, 0, [], .null) else none))))) else (if pc < 68 then (if pc < 59 then (if pc < 58 then (if pc = 55 then some (.getfield 22, 58, 5, 0, [], .null) else none) else (if pc = 58 then some (.aload_n 0, 59, 0, 0, [], .null) else none)) else (if pc < 62 then (if pc = 59 then some (.getfield 44, 62, 5, 7, [], .null) else none) else (if pc < 65 then (if pc = 62 then some (.invokevirtual 58, 65, 1, 2, [], .null) else none) else (if pc = 65 then some (.invokestatic 129, 68, 82, 1, [], .null) else none)))) else (if pc < 75 then (if pc < 71 then (if pc = 68 then some (.ifCond .eq 47, 71, 115, 0, [], .null) else none) else (if pc < 72 then (if pc = 71 then some (.lload_n 3, 72, 3, 0, [], .null) else none) else (if pc = 72 then some (.ldc2_w 142, 75, 0, 0, [], .long 2147483648) else none))) else (if pc < 76 then (if pc = 75 then some (.lcmp, 76, 0, 0, [], .null) else none) else (if pc < 79 then (if pc = 76 then some (.ifCond .gt 26, 79, 102, 0, [], .null) else none) else (if pc = 79 then some (.lload_n 3, 80, 3, 0, [], .null) else none))))))) else (if pc < 119 then (if pc < 100 then (if pc < 89 then (if pc < 84 then (if pc < 83 then (if pc = 80 then some (.ldc2_w 144, 83, 0, 0, [], .long 10) else none) else (if pc = 83 then some (.lmul, 84, 0, 0, [], .null) else none)) else (if pc < 85 then (if pc = 84 then some (.aload_n 0, 85, 0, 0, [], .null) else none) else (if pc < 88 then (if pc = 85 then some (.getfield 22, 88, 5, 0, [], .null) else none) else (if pc = 88 then some (.aload_n 0, 89, 0, 0, [], .null) else none)))) else (if pc < 95 then (if pc < 92 then (if pc = 89 then some (.getfield 44, 92, 5, 7, [], .null) else none) else (if pc = 92 then some (.invokevirtual 58, 95, 1, 2, [], .null) else none)) else (if pc < 96 then (if pc = 95 then some (.i2l, 96, 0, 0, [], .null) else none) else (if pc < 97 then (if pc = 96 then some (.ladd, 97, 0, 0, [], .null) else none) else (if pc = 97 then some (.ldc2_w 146, 100, 0, 0, [], .long 48) else none))))) else (if pc < 107 then (if pc < 102 then (if pc < 101 then (if pc = 100 then some (.lsub, 101, 0, 0, [], .null) else none) else (if pc = 101 then some (.lstore_n 3, 102, 3, 0, [], .null) else none)) else (if pc < 103 then (if pc = 102 then some (.aload_n 0, 103, 0, 0, [], .null) else none) else (if pc < 104 then (if pc = 103 then some (.dup, 104, 0, 0, [], .null) else none) else (if pc = 104 then some (.getfield 44, 107, 5, 7, [], .null) else none)))) else (if pc < 112 then (if pc < 108 then (if pc = 107 then some (.iconst 1, 108, 0, 0, [], .int 1) else none) else (if pc < 109 then (if pc = 108 then some (.iadd, 109, 0, 0, [], .null) else none) else (if pc = 109 then some (.putfield 44, 112, 5, 7, [], .null) else none))) else (if pc < 115 then (if pc = 112 then some (.goto (-69), 115, 43, 0, [], .null) else none) else (if pc < 116 then (if pc = 115 then some (.iload_n 2, 116, 2, 0, [], .null) else none) else (if pc = 116 then some (.ifCond .eq 8, 119, 124, 0, [], .null) else none)))))) else (if pc < 138 then (if pc < 127 then (if pc < 121 then (if pc < 120 then (if pc = 119 then some (.lload_n 3, 120, 3, 0, [], .null) else none) else (if pc = 120 then some (.lneg, 121, 0, 0, [], .null) else none)) else (if pc < 124 then (if pc = 121 then some (.goto 4, 124, 125, 0, [], .null) else none) else (if pc < 125 then (if pc = 124 then some (.lload_n 3, 125, 3, 0, [], .null) else none) else (if pc = 125 then some (.lstore 5, 127, 5, 0, [], .null) else none)))) else (if pc < 132 then (if pc < 129 then (if pc = 127 then some (.lload 5, 129, 5, 0, [], .null) else none) else (if pc = 129 then some (.ldc2_w 150, 132, 0, 0, [], .long (-2147483648)) else none)) else (if pc < 133 then (if pc = 132 then some (.lcmp, 133, 0, 0, [], .null) else none) else (if pc < 136 then (if pc = 133 then some (.ifCond .lt 12, 136, 145, 0, [], .null) else none) else (if pc = 136 then some (.lload 5, 138, 5, 0, [], .null) else none))))) else (if pc < 147 then (if pc < 142 then (if pc < 141 then (if pc = 138 then some (.ldc2_w 152, 141, 0, 0, [], .long 2147483647) else none) else (if pc = 141 then some (.lcmp, 142, 0, 0, [], .null) else none)) else (if pc < 145 then (if pc = 142 then some (.ifCond .le 9, 145, 151, 0, [], .null) else none) else (if pc < 146 then (if pc = 145 then some (.aload_n 0, 146, 0, 0, [], .null) else none) else (if pc = 146 then some (.iconst 2, 147, 0, 0, [], .int 2) else none)))) else (if pc < 153 then (if pc < 148 then (if pc = 147 then some (.iload_n 1, 148, 1, 0, [], .null) else none) else (if pc < 151 then (if pc = 148 then some (.invokevirtual 70, 151, 68, 3, [], .null) else none) else (if pc = 151 then some (.lload 5, 153, 5, 0, [], .null) else none))) else (if pc < 154 then (if pc = 153 then some (.l2i, 154, 0, 0, [], .null) else none) else (if pc < 157 then (if pc = 154 then some (.invokestatic 154, 157, 98, 1, [], .null) else none) else (if pc = 157 then some (.lreturn, 158, 0, 0, [], .null) else none)))))))) else none
set_option maxRecDepth 20000 in
def cdX4_complete : PCode := fun pc => if pc < 157 then (if pc < 82 then (if pc < 39 then (if pc < 18 then (if pc < 7 then (if pc < 3 then (if pc < 1 then (if pc = 0 then some (.lload_n 1, 1, 1, 0, [], .null) else none) else (if pc = 1 then some (.lstore 4, 3, 4, 0, [], .null) else none)) else (if pc < 4 then (if pc = 3 then some (.aload_n 0, 4, 0, 0, [], .null) else none) else (if pc = 4 then some (.getfield 41, 7, 5, 6, [], .null) else none))) else (if pc < 11 then (if pc < 9 then (if pc = 7 then some (.istore 6, 9, 6, 0, [], .null) else none) else (if pc = 9 then some (.iload 6, 11, 6, 0, [], .null) else none)) else (if pc < 14 then (if pc = 11 then some (.ifCond .le 91, 14, 102, 0, [], .null) else none) else (if pc < 15 then (if pc = 14 then some (.aload_n 0, 15, 0, 0, [], .null) else none) else (if pc = 15 then some (.invokevirtual 99, 18, 70, 1, [], .null) else none))))) else (if pc < 29 then (if pc < 22 then (if pc < 19 then (if pc = 18 then some (.iconst 2, 19, 0, 0, [], .int 2) else none) else (if pc = 19 then some (.if_icmp .ne 83, 22, 102, 0, [], .null) else none)) else (if pc < 23 then (if pc = 22 then some (.aload_n 0, 23, 0, 0, [], .null) else none) else (if pc < 26 then (if pc = 23 then some (.getfield 38, 26, 5, 9, [], .null) else none) else (if pc = 26 then some (.ifCond .ne 76, 29, 102, 0, [], .null) else none)))) else (if pc < 33 then (if pc < 30 then (if pc = 29 then some (.aload_n 0, 30, 0, 0, [], .null) else none) else (if pc = 30 then some (.getfield 30, 33, 5, 2, [], .null) else none)) else (if pc < 35 then (if pc = 33 then some (.lload 4, 35, 4, 0, [], .null) else none) else (if pc < 36 then (if pc = 35 then some (.lconst 0, 36, 0, 0, [], .long 0) else none) else (if pc = 36 then some (.invokevirtual 119, 39, 10, 3, [], .null) else none)))))) else (if pc < 60 then (if pc < 47 then (if pc < 43 then (if pc < 41 then (if pc = 39 then some (.lstore 7, 41, 7, 0, [], .null) else none) else (if pc = 41 then some (.lload 7, 43, 7, 0, [], .null) else none)) else (if pc < 46 then (if pc = 43 then some (.ldc2_w 117, 46, 0, 0, [], .long (-1)) else none) else (if pc = 46 then some (.lcmp, 47, 0, 0, [], .null) else none))) else (if pc < 53 then (if pc < 50 then (if pc = 47 then some (.ifCond .ne 9, 50, 56, 0, [], .null) else none) else (if pc = 50 then some (.ldc2_w 117, 53, 0, 0, [], .long (-1)) else none)) else (if pc < 56 then (if pc = 53 then some (.goto 15, 56, 68, 0, [], .null) else none) else (if pc < 57 then (if pc = 56 then some (.aload_n 0, 57, 0, 0, [], .null) else none) else (if pc = 57 then some (.getfield 30, 60, 5, 2, [], .null) else none))))) else (if pc < 72 then (if pc < 65 then (if pc < 63 then (if pc = 60 then some (.ldc2_w 157, 63, 0, 0, [], .long 2) else none) else (if pc = 63 then some (.lload 7, 65, 7, 0, [], .null) else none)) else (if pc < 68 then (if pc = 65 then some (.invokevirtual 119, 68, 10, 3, [], .null) else none) else (if pc < 70 then (if pc = 68 then some (.lstore 4, 70, 4, 0, [], .null) else none) else (if pc = 70 then some (.lload 4, 72, 4, 0, [], .null) else none)))) else (if pc < 76 then (if pc < 75 then (if pc = 72 then some (.ldc2_w 117, 75, 0, 0, [], .long (-1)) else none) else (if pc = 75 then some (.lcmp, 76, 0, 0, [], .null) else none)) else (if pc < 79 then (if pc = 76 then some (.ifCond .ne 10, 79, 86, 0, [], .null) else none) else (if pc < 80 then (if pc = 79 then some (.aload_n 0, 80, 0, 0, [], .null) else none) else (if pc = 80 then some (.bipush 8, 82, 0, 0, [], .int 8) else none))))))) else (if pc < 119 then (if pc < 99 then (if pc < 88 then (if pc < 86 then (if pc < 83 then (if pc = 82 then some (.iload_n 3, 83, 3, 0, [], .null) else none) else (if pc = 83 then some (.invokevirtual 70, 86, 68, 3, [], .null) else none)) else (if pc < 87 then (if pc = 86 then some (.aload_n 0, 87, 0, 0, [], .null) else none) else (if pc = 87 then some (.dup, 88, 0, 0, [], .null) else none))) else (if pc < 92 then (if pc < 91 then (if pc = 88 then some (.getfield 41, 91, 5, 6, [], .null) else none) else (if pc = 91 then some (.iconst 1, 92, 0, 0, [], .int 1) else none)) else (if pc < 93 then (if pc = 92 then some (.isub, 93, 0, 0, [], .null) else none) else (if pc < 96 then (if pc = 93 then some (.putfield 41, 96, 5, 6, [], .null) else none) else (if pc = 96 then some (.iinc 6 (-1), 99, 6, 0, [], .int (-1)) else none))))) else (if pc < 110 then (if pc < 103 then (if pc < 102 then (if pc = 99 then some (.goto (-90), 102, 9, 0, [], .null) else none) else (if pc = 102 then some (.aload_n 0, 103, 0, 0, [], .null) else none)) else (if pc < 106 then (if pc = 103 then some (.getfield 38, 106, 5, 9, [], .null) else none) else (if pc < 109 then (if pc = 106 then some (.ifCond .eq 4, 109, 110, 0, [], .null) else none) else (if pc = 109 then some (.return_, 110, 0, 0, [], .null) else none)))) else (if pc < 114 then (if pc < 111 then (if pc = 110 then some (.aload_n 0, 111, 0, 0, [], .null) else none) else (if pc = 111 then some (.getfield 41, 114, 5, 6, [], .null) else none)) else (if pc < 117 then (if pc = 114 then some (.ifCond .ne 15, 117, 129, 0, [], .null) else none) else (if pc < 118 then (if pc = 117 then some (.aload_n 0, 118, 0, 0, [], .null) else none) else (if pc = 118 then some (.iconst 1, 119, 0, 0, [], .int 1) else none)))))) else (if pc < 138 then (if pc < 128 then (if pc < 123 then (if pc < 122 then (if pc = 119 then some (.putfield 50, 122, 5, 11, [], .null) else none) else (if pc = 122 then some (.aload_n 0, 123, 0, 0, [], .null) else none)) else (if pc < 125 then (if pc = 123 then some (.lload 4, 125, 4, 0, [], .null) else none) else (if pc = 125 then some (.putfield 54, 128, 5, 12, [], .null) else none))) else (if pc < 130 then (if pc < 129 then (if pc = 128 then some (.return_, 129, 0, 0, [], .null) else none) else (if pc = 129 then some (.aload_n 0, 130, 0, 0, [], .null) else none)) else (if pc < 133 then (if pc = 130 then some (.getfield 34, 133, 5, 3, [], .null) else none) else (if pc < 135 then (if pc = 133 then some (.lload 4, 135, 4, 0, [], .null) else none) else (if pc = 135 then some (.invokevirtual 159, 138, 86, 2, [], .null) else none))))) else (if pc < 147 then (if pc < 140 then (if pc < 139 then (if pc = 138 then some (.aload_n 0, 139, 0, 0, [], .null) else none) else (if pc = 139 then some (.aload_n 0, 140, 0, 0, [], .null) else none)) else (if pc < 143 then (if pc = 140 then some (.invokevirtual 99, 143, 70, 1, [], .null) else none) else (if pc < 144 then (if pc = 143 then some (.iconst 5, 144, 0, 0, [], .int 5) else none) else (if pc = 144 then some (.if_icmp .ne 8, 147, 152, 0, [], .null) else none)))) else (if pc < 152 then (if pc < 149 then (if pc = 147 then some (.bipush 6, 149, 0, 0, [], .int 6) else none) else (if pc = 149 then some (.goto 4, 152, 153, 0, [], .null) else none)) else (if pc < 153 then (if pc = 152 then some (.iconst 4, 153, 0, 0, [], .int 4) else none) else (if pc < 156 then (if pc = 153 then some (.invokevirtual 109, 156, 71, 2, [], .null) else none) else (if pc = 156 then some (.return_, 157, 0, 0, [], .null) else none)))))))) else none
set_option maxRecDepth 20000 in
def cdX4_isBlank : PCode := fun pc => if pc < 18 then (if pc < 9 then (if pc < 3 then (if pc < 1 then (if pc = 0 then some (.iload_n 0, 1, 0, 0, [], .null) else none) else (if pc = 1 then some (.bipush 32, 3, 0, 0, [], .int 32) else none)) else (if pc < 6 then (if pc = 3 then some (.if_icmp .eq 9, 6, 12, 0, [], .null) else none) else (if pc < 7 then (if pc = 6 then some (.iload_n 0, 7, 0, 0, [], .null) else none) else (if pc = 7 then some (.bipush 10, 9, 0, 0, [], .int 10) else none)))) else (if pc < 13 then (if pc < 12 then (if pc = 9 then some (.if_icmp .ne 7, 12, 16, 0, [], .null) else none) else (if pc = 12 then some (.iconst 1, 13, 0, 0, [], .int 1) else none)) else (if pc < 16 then (if pc = 13 then some (.goto 4, 16, 17, 0, [], .null) else none) else (if pc < 17 then (if pc = 16 then some (.iconst 0, 17, 0, 0, [], .int 0) else none) else (if pc = 17 then some (.ireturn, 18, 0, 0, [], .null) else none))))) else none
set_option maxRecDepth 20000 in
def cdX4_isLetter : PCode := fun pc => if pc < 18 then (if pc < 9 then (if pc < 3 then (if pc < 1 then (if pc = 0 then some (.iload_n 0, 1, 0, 0, [], .null) else none) else (if pc = 1 then some (.bipush 65, 3, 0, 0, [], .int 65) else none)) else (if pc < 6 then (if pc = 3 then some (.if_icmp .lt 13, 6, 16, 0, [], .null) else none) else (if pc < 7 then (if pc = 6 then some (.iload_n 0, 7, 0, 0, [], .null) else none) else (if pc = 7 then some (.bipush 90, 9, 0, 0, [], .int 90) else none)))) else (if pc < 13 then (if pc < 12 then (if pc = 9 then some (.if_icmp .gt 7, 12, 16, 0, [], .null) else none) else (if pc = 12 then some (.iconst 1, 13, 0, 0, [], .int 1) else none)) else (if pc < 16 then (if pc = 13 then some (.goto 4, 16, 17, 0, [], .null) else none) else (if pc < 17 then (if pc = 16 then some (.iconst 0, 17, 0, 0, [], .int 0) else none) else (if pc = 17 then some (.ireturn, 18, 0, 0, [], .null) else none))))) else none
set_option maxRecDepth 20000 in
def cdX4_isDigit : PCode := fun pc => if pc < 18 then (if pc < 9 then (if pc < 3 then (if pc < 1 then (if pc = 0 then some (.iload_n 0, 1, 0, 0, [], .null) else none) else (if pc = 1 then some (.bipush 48, 3, 0, 0, [], .int 48) else none)) else (if pc < 6 then (if pc = 3 then some (.if_icmp .lt 13, 6, 16, 0, [], .null) else none) else (if pc < 7 then (if pc = 6 then some (.iload_n 0, 7, 0, 0, [], .null) else none) else (if pc = 7 then some (.bipush 57, 9, 0, 0, [], .int 57) else none)))) else (if pc < 13 then (if pc < 12 then (if pc = 9 then some (.if_icmp .gt 7, 12, 16, 0, [], .null) else none) else (if pc = 12 then some (.iconst 1, 13, 0, 0, [], .int 1) else none)) else (if pc < 16 then (if pc = 13 then some (.goto 4, 16, 17, 0, [], .null) else none) else (if pc < 17 then (if pc = 16 then some (.iconst 0, 17, 0, 0, [], .int 0) else none) else (if pc = 17 then some (.ireturn, 18, 0, 0, [], .null) else none))))) else none
set_option maxRecDepth 20000 in
def cdX6_size : PCode := fun pc => if pc < 5 then (if pc < 1 then (if pc = 0 then some (.aload_n 0, 1, 0, 0, [], .null) else none) else (if pc < 4 then (if pc = 1 then some (.getfield 13, 4, 7, 1, [], .null) else none) else (if pc = 4 then some (.ireturn, 5, 0, 0, [], .null) else none))) else none
set_option maxRecDepth 20000 in
def cdX6_at : PCode := fun pc => if pc < 25 then (if pc < 12 then (if pc < 5 then (if pc < 1 then (if pc = 0 then some (.iload_n 1, 1, 1, 0, [], .null) else none) else (if pc < 4 then (if pc = 1 then some (.ifCond .lt 20, 4, 21, 0, [], .null) else none) else (if pc = 4 then some (.iload_n 1, 5, 1, 0, [], .null) else none))) else (if pc < 6 then (if pc = 5 then some (.aload_n 0, 6, 0, 0, [], .null) else none) else (if pc < 9 then (if pc = 6 then some (.getfield 13, 9, 7, 1, [], .null) else none) else (if pc = 9 then some (.if_icmp .ge 12, 12, 21, 0, [], .null) else none)))) else (if pc < 17 then (if pc < 13 then (if pc = 12 then some (.aload_n 0, 13, 0, 0, [], .null) else none) else (if pc < 16 then (if pc = 13 then some (.getfield 7, 16, 7, 0, [], .null) else none) else (if pc = 16 then some (.iload_n 1, 17, 1, 0, [], .null) else none))) else (if pc < 21 then (if pc < 18 then (if pc = 17 then some (.laload, 18, 0, 0, [], .null) else none) else (if pc = 18 then some (.goto 6, 21, 24, 0, [], .null) else none)) else (if pc < 24 then (if pc = 21 then some (.ldc2_w 19, 24, 0, 0, [], .long (-1)) else none) else (if pc = 24 then some (.lreturn, 25, 0, 0, [], .null) else none))))) else none
set_option maxRecDepth 20000 in
def cdX6_put : PCode := fun pc => if pc < 20 then (if pc < 12 then (if pc < 5 then (if pc < 1 then (if pc = 0 then some (.iload_n 1, 1, 1, 0, [], .null) else none) else (if pc < 4 then (if pc = 1 then some (.ifCond .lt 18, 4, 19, 0, [], .null) else none) else (if pc = 4 then some (.iload_n 1, 5, 1, 0, [], .null) else none))) else (if pc < 6 then (if pc = 5 then some (.aload_n 0, 6, 0, 0, [], .null) else none) else (if pc < 9 then (if pc = 6 then some (.getfield 13, 9, 7, 1, [], .null) else none) else (if pc = 9 then some (.if_icmp .ge 10, 12, 19, 0, [], .null) else none)))) else (if pc < 17 then (if pc < 13 then (if pc = 12 then some (.aload_n 0, 13, 0, 0, [], .null) else none) else (if pc < 16 then (if pc = 13 then some (.getfield 7, 16, 7, 0, [], .null) else none) else (if pc = 16 then some (.iload_n 1, 17, 1, 0, [], .null) else none))) else (if pc < 18 then (if pc = 17 then some (.lload_n 2, 18, 2, 0, [], .null) else none) else (if pc < 19 then (if pc = 18 then some (.lastore, 19, 0, 0, [], .null) else none) else (if pc = 19 then some (.return_, 20, 0, 0, [], .null) else none))))) else none
set_option maxRecDepth 20000 in
def cdX6_add : PCode := fun pc => if pc < 33 then (if pc < 17 then (if pc < 8 then (if pc < 4 then (if pc < 1 then (if pc = 0 then some (.aload_n 0, 1, 0, 0, [], .null) else none) else (if pc = 1 then some (.getfield 13, 4, 7, 1, [], .null) else none)) else (if pc < 5 then (if pc = 4 then some (.aload_n 0, 5, 0, 0, [], .null) else none) else (if pc = 5 then some (.getfield 7, 8, 7, 0, [], .null) else none))) else (if pc < 12 then (if pc < 9 then (if pc = 8 then some (.arraylength, 9, 0, 0, [], .null) else none) else (if pc = 9 then some (.if_icmp .ge 23, 12, 32, 0, [], .null) else none)) else (if pc < 13 then (if pc = 12 then some (.aload_n 0, 13, 0, 0, [], .null) else none) else (if pc < 16 then (if pc = 13 then some (.getfield 7, 16, 7, 0, [], .null) else none) else (if pc = 16 then some (.aload_n 0, 17, 0, 0, [], .null) else none))))) else (if pc < 24 then (if pc < 21 then (if pc < 20 then (if pc = 17 then some (.getfield 13, 20, 7, 1, [], .null) else none) else (if pc = 20 then some (.lload_n 1, 21, 1, 0, [], .null) else none)) else (if pc < 22 then (if pc = 21 then some (.lastore, 22, 0, 0, [], .null) else none) else (if pc < 23 then (if pc = 22 then some (.aload_n 0, 23, 0, 0, [], .null) else none) else (if pc = 23 then some (.dup, 24, 0, 0, [], .null) else none)))) else (if pc < 28 then (if pc < 27 then (if pc = 24 then some (.getfield 13, 27, 7, 1, [], .null) else none) else (if pc = 27 then some (.iconst 1, 28, 0, 0, [], .int 1) else none)) else (if pc < 29 then (if pc = 28 then some (.iadd, 29, 0, 0, [], .null) else none) else (if pc < 32 then (if pc = 29 then some (.putfield 13, 32, 7, 1, [], .null) else none) else (if pc = 32 then some (.return_, 33, 0, 0, [], .null) else none)))))) else none
set_option maxRecDepth 20000 in
def cdX6_cut : PCode := fun pc => if pc < 18 then (if pc < 9 then (if pc < 4 then (if pc < 1 then (if pc = 0 then some (.iload_n 1, 1, 1, 0, [], .null) else none) else (if pc = 1 then some (.ifCond .lt 16, 4, 17, 0, [], .null) else none)) else (if pc < 5 then (if pc = 4 then some (.iload_n 1, 5, 1, 0, [], .null) else none) else (if pc < 6 then (if pc = 5 then some (.aload_n 0, 6, 0, 0, [], .null) else none) else (if pc = 6 then some (.getfield 13, 9, 7, 1, [], .null) else none)))) else (if pc < 13 then (if pc < 12 then (if pc = 9 then some (.if_icmp .ge 8, 12, 17, 0, [], .null) else none) else (if pc = 12 then some (.aload_n 0, 13, 0, 0, [], .null) else none)) else (if pc < 14 then (if pc = 13 then some (.iload_n 1, 14, 1, 0, [], .null) else none) else (if pc < 17 then (if pc = 14 then some (.putfield 13, 17, 7, 1, [], .null) else none) else (if pc = 17 then some (.return_, 18, 0, 0, [], .null) else none))))) else none
set_option maxRecDepth 20000 in
def cdX6_present : PCode := fun pc => if pc < 36 then (if pc < 16 then (if pc < 5 then (if pc < 2 then (if pc < 1 then (if pc = 0 then some (.iconst 0, 1, 0, 0, [], .int 0) else none) else (if pc = 1 then some (.istore_n 1, 2, 1, 0, [], .null) else none)) else (if pc < 3 then (if pc = 2 then some (.iconst 0, 3, 0, 0, [], .int 0) else none) else (if pc < 4 then (if pc = 3 then some (.istore_n 2, 4, 2, 0, [], .null) else none) else (if pc = 4 then some (.iload_n 2, 5, 2, 0, [], .null) else none)))) else (if pc < 9 then (if pc < 6 then (if pc = 5 then some (.aload_n 0, 6, 0, 0, [], .null) else none) else (if pc = 6 then some (.getfield 13, 9, 7, 1, [], .null) else none)) else (if pc < 12 then (if pc = 9 then some (.if_icmp .ge 25, 12, 34, 0, [], .null) else none) else (if pc < 13 then (if pc = 12 then some (.aload_n 0, 13, 0, 0, [], .null) else none) else (if pc = 13 then some (.getfield 7, 16, 7, 0, [], .null) else none))))) else (if pc < 25 then (if pc < 18 then (if pc < 17 then (if pc = 16 then some (.iload_n 2, 17, 2, 0, [], .null) else none) else (if pc = 17 then some (.laload, 18, 0, 0, [], .null) else none)) else (if pc < 21 then (if pc = 18 then some (.ldc2_w 19, 21, 0, 0, [], .long (-1)) else none) else (if pc < 22 then (if pc = 21 then some (.lcmp, 22, 0, 0, [], .null) else none) else (if pc = 22 then some (.ifCond .eq 6, 25, 28, 0, [], .null) else none)))) else (if pc < 31 then (if pc < 28 then (if pc = 25 then some (.iinc 1 1, 28, 1, 0, [], .int 1) else none) else (if pc = 28 then some (.iinc 2 1, 31, 2, 0, [], .int 1) else none)) else (if pc < 34 then (if pc = 31 then some (.goto (-27), 34, 4, 0, [], .null) else none) else (if pc < 35 then (if pc = 34 then some (.iload_n 1, 35, 1, 0, [], .null) else none) else (if pc = 35 then some (.ireturn, 36, 0, 0, [], .null) else none)))))) else none
set_option maxRecDepth 20000 in
def cdX7_size : PCode := fun pc => if pc < 5 then (if pc < 1 then (if pc = 0 then some (.aload_n 0, 1, 0, 0, [], .null) else none) else (if pc < 4 then (if pc = 1 then some (.getfield 19, 4, 8, 2, [], .null) else none) else (if pc = 4 then some (.ireturn, 5, 0, 0, [], .null) else none))) else none
set_option maxRecDepth 20000 in
def cdX7_lengthOf : PCode := fun pc => if pc < 23 then (if pc < 12 then (if pc < 5 then (if pc < 1 then (if pc = 0 then some (.iload_n 1, 1, 1, 0, [], .null) else none) else (if pc < 4 then (if pc = 1 then some (.ifCond .lt 20, 4, 21, 0, [], .null) else none) else (if pc = 4 then some (.iload_n 1, 5, 1, 0, [], .null) else none))) else (if pc < 6 then (if pc = 5 then some (.aload_n 0, 6, 0, 0, [], .null) else none) else (if pc < 9 then (if pc = 6 then some (.getfield 19, 9, 8, 2, [], .null) else none) else (if pc = 9 then some (.if_icmp .ge 12, 12, 21, 0, [], .null) else none)))) else (if pc < 17 then (if pc < 13 then (if pc = 12 then some (.aload_n 0, 13, 0, 0, [], .null) else none) else (if pc < 16 then (if pc = 13 then some (.getfield 15, 16, 8, 1, [], .null) else none) else (if pc = 16 then some (.iload_n 1, 17, 1, 0, [], .null) else none))) else (if pc < 21 then (if pc < 18 then (if pc = 17 then some (.iaload, 18, 0, 0, [], .null) else none) else (if pc = 18 then some (.goto 4, 21, 22, 0, [], .null) else none)) else (if pc < 22 then (if pc = 21 then some (.iconst 0, 22, 0, 0, [], .int 0) else none) else (if pc = 22 then some (.ireturn, 23, 0, 0, [], .null) else none))))) else none
set_option maxRecDepth 20000 in
def cdX7_signOf : PCode := fun pc => if pc < 29 then (if pc < 17 then (if pc < 6 then (if pc < 4 then (if pc < 1 then (if pc = 0 then some (.iload_n 2, 1, 2, 0, [], .null) else none) else (if pc = 1 then some (.ifCond .lt 26, 4, 27, 0, [], .null) else none)) else (if pc < 5 then (if pc = 4 then some (.iload_n 2, 5, 2, 0, [], .null) else none) else (if pc = 5 then some (.aload_n 0, 6, 0, 0, [], .null) else none))) else (if pc < 10 then (if pc < 7 then (if pc = 6 then some (.iload_n 1, 7, 1, 0, [], .null) else none) else (if pc = 7 then some (.invokevirtual 39, 10, 90, 2, [], .null) else none)) else (if pc < 13 then (if pc = 10 then some (.if_icmp .ge 17, 13, 27, 0, [], .null) else none) else (if pc < 14 then (if pc = 13 then some (.aload_n 0, 14, 0, 0, [], .null) else none) else (if pc = 14 then some (.getfield 9, 17, 8, 0, [], .null) else none))))) else (if pc < 22 then (if pc < 20 then (if pc < 18 then (if pc = 17 then some (.iload_n 1, 18, 1, 0, [], .null) else none) else (if pc = 18 then some (.bipush 10, 20, 0, 0, [], .int 10) else none)) else (if pc < 21 then (if pc = 20 then some (.imul, 21, 0, 0, [], .null) else none) else (if pc = 21 then some (.iload_n 2, 22, 2, 0, [], .null) else none))) else (if pc < 24 then (if pc < 23 then (if pc = 22 then some (.iadd, 23, 0, 0, [], .null) else none) else (if pc = 23 then some (.baload, 24, 0, 0, [], .null) else none)) else (if pc < 27 then (if pc = 24 then some (.goto 4, 27, 28, 0, [], .null) else none) else (if pc < 28 then (if pc = 27 then some (.iconst (-1), 28, 0, 0, [], .int (-1)) else none) else (if pc = 28 then some (.ireturn, 29, 0, 0, [], .null) else none)))))) else none
set_option maxRecDepth 20000 in
def cdX7_named : PCode := fun pc => if pc < 99 then (if pc < 53 then (if pc < 24 then (if pc < 12 then (if pc < 5 then (if pc < 1 then (if pc = 0 then some (.iconst 0, 1, 0, 0, [], .int 0) else none) else (if pc < 3 then (if pc = 1 then some (.istore 4, 3, 4, 0, [], .null) else none) else (if pc = 3 then some (.iload 4, 5, 4, 0, [], .null) else none))) else (if pc < 6 then (if pc = 5 then some (.aload_n 0, 6, 0, 0, [], .null) else none) else (if pc < 9 then (if pc = 6 then some (.getfield 19, 9, 8, 2, [], .null) else none) else (if pc = 9 then some (.if_icmp .ge 34, 12, 43, 0, [], .null) else none)))) else (if pc < 18 then (if pc < 13 then (if pc = 12 then some (.aload_n 0, 13, 0, 0, [], .null) else none) else (if pc < 16 then (if pc = 13 then some (.getfield 15, 16, 8, 1, [], .null) else none) else (if pc = 16 then some (.iload 4, 18, 4, 0, [], .null) else none))) else (if pc < 20 then (if pc < 19 then (if pc = 18 then some (.iaload, 19, 0, 0, [], .null) else none) else (if pc = 19 then some (.iload_n 3, 20, 3, 0, [], .null) else none)) else (if pc < 23 then (if pc = 20 then some (.if_icmp .ne 17, 23, 37, 0, [], .null) else none) else (if pc = 23 then some (.aload_n 0, 24, 0, 0, [], .null) else none))))) else (if pc < 36 then (if pc < 28 then (if pc < 26 then (if pc = 24 then some (.iload 4, 26, 4, 0, [], .null) else none) else (if pc < 27 then (if pc = 26 then some (.aload_n 1, 27, 1, 0, [], .null) else none) else (if pc = 27 then some (.iload_n 2, 28, 2, 0, [], .null) else none))) else (if pc < 31 then (if pc = 28 then some (.invokevirtual 43, 31, 93, 4, [], .null) else none) else (if pc < 34 then (if pc = 31 then some (.ifCond .eq 6, 34, 37, 0, [], .null) else none) else (if pc = 34 then some (.iload 4, 36, 4, 0, [], .null) else none)))) else (if pc < 43 then (if pc < 37 then (if pc = 36 then some (.ireturn, 37, 0, 0, [], .null) else none) else (if pc < 40 then (if pc = 37 then some (.iinc 4 1, 40, 4, 0, [], .int 1) else none) else (if pc = 40 then some (.goto (-37), 43, 3, 0, [], .null) else none))) else (if pc < 47 then (if pc < 44 then (if pc = 43 then some (.aload_n 0, 44, 0, 0, [], .null) else none) else (if pc = 44 then some (.getfield 19, 47, 8, 2, [], .null) else none)) else (if pc < 50 then (if pc = 47 then some (.sipush 300, 50, 0, 0, [], .int 300) else none) else (if pc = 50 then some (.if_icmp .lt 5, 53, 55, 0, [], .null) else none)))))) else (if pc < 74 then (if pc < 61 then (if pc < 56 then (if pc < 54 then (if pc = 53 then some (.iconst (-1), 54, 0, 0, [], .int (-1)) else none) else (if pc < 55 then (if pc = 54 then some (.ireturn, 55, 0, 0, [], .null) else none) else (if pc = 55 then some (.aload_n 0, 56, 0, 0, [], .null) else none))) else (if pc < 57 then (if pc = 56 then some (.dup, 57, 0, 0, [], .null) else none) else (if pc < 60 then (if pc = 57 then some (.getfield 19, 60, 8, 2, [], .null) else none) else (if pc = 60 then some (.iconst 1, 61, 0, 0, [], .int 1) else none)))) else (if pc < 66 then (if pc < 62 then (if pc = 61 then some (.iadd, 62, 0, 0, [], .null) else none) else (if pc < 65 then (if pc = 62 then some (.putfield 19, 65, 8, 2, [], .null) else none) else (if pc = 65 then some (.iconst 0, 66, 0, 0, [], .int 0) else none))) else (if pc < 70 then (if pc < 68 then (if pc = 66 then some (.istore 4, 68, 4, 0, [], .null) else none) else (if pc = 68 then some (.iload 4, 70, 4, 0, [], .null) else none)) else (if pc < 71 then (if pc = 70 then some (.iload_n 3, 71, 3, 0, [], .null) else none) else (if pc = 71 then some (.if_icmp .ge 21, 74, 92, 0, [], .null) else none))))) else (if pc < 86 then (if pc < 77 then (if pc < 75 then (if pc = 74 then some (.aload_n 0, 75, 0, 0, [], .null) else none) else (if pc < 76 then (if pc = 75 then some (.aload_n 1, 76, 1, 0, [], .null) else none) else (if pc = 76 then some (.iload_n 2, 77, 2, 0, [], .null) else none))) else (if pc < 80 then (if pc < 79 then (if pc = 77 then some (.iload 4, 79, 4, 0, [], .null) else none) else (if pc = 79 then some (.iadd, 80, 0, 0, [], .null) else none)) else (if pc < 83 then (if pc = 80 then some (.invokevirtual 47, 83, 1, 2, [], .null) else none) else (if pc = 83 then some (.invokevirtual 35, 86, 94, 2, [], .null) else none)))) else (if pc < 93 then (if pc < 89 then (if pc = 86 then some (.iinc 4 1, 89, 4, 0, [], .int 1) else none) else (if pc < 92 then (if pc = 89 then some (.goto (-21), 92, 68, 0, [], .null) else none) else (if pc = 92 then some (.aload_n 0, 93, 0, 0, [], .null) else none))) else (if pc < 97 then (if pc < 96 then (if pc = 93 then some (.getfield 19, 96, 8, 2, [], .null) else none) else (if pc = 96 then some (.iconst 1, 97, 0, 0, [], .int 1) else none)) else (if pc < 98 then (if pc = 97 then some (.isub, 98, 0, 0, [], .null) else none) else (if pc = 98 then some (.ireturn, 99, 0, 0, [], .null) else none))))))) else none
set_option maxRecDepth 20000 in
def cdX7_isNamed : PCode := fun pc => if pc < 54 then (if pc < 28 then (if pc < 11 then (if pc < 5 then (if pc < 1 then (if pc = 0 then some (.iconst 0, 1, 0, 0, [], .int 0) else none) else (if pc < 3 then (if pc = 1 then some (.istore 4, 3, 4, 0, [], .null) else none) else (if pc = 3 then some (.iload 4, 5, 4, 0, [], .null) else none))) else (if pc < 9 then (if pc < 6 then (if pc = 5 then some (.aload_n 0, 6, 0, 0, [], .null) else none) else (if pc = 6 then some (.getfield 15, 9, 8, 1, [], .null) else none)) else (if pc < 10 then (if pc = 9 then some (.iload_n 1, 10, 1, 0, [], .null) else none) else (if pc = 10 then some (.iaload, 11, 0, 0, [], .null) else none)))) else (if pc < 21 then (if pc < 16 then (if pc < 14 then (if pc = 11 then some (.if_icmp .ge 41, 14, 52, 0, [], .null) else none) else (if pc = 14 then some (.iload 4, 16, 4, 0, [], .null) else none)) else (if pc < 18 then (if pc = 16 then some (.bipush 10, 18, 0, 0, [], .int 10) else none) else (if pc = 18 then some (.if_icmp .ge 34, 21, 52, 0, [], .null) else none))) else (if pc < 25 then (if pc < 22 then (if pc = 21 then some (.aload_n 0, 22, 0, 0, [], .null) else none) else (if pc = 22 then some (.getfield 9, 25, 8, 0, [], .null) else none)) else (if pc < 26 then (if pc = 25 then some (.iload_n 1, 26, 1, 0, [], .null) else none) else (if pc = 26 then some (.bipush 10, 28, 0, 0, [], .int 10) else none))))) else (if pc < 38 then (if pc < 33 then (if pc < 31 then (if pc < 29 then (if pc = 28 then some (.imul, 29, 0, 0, [], .null) else none) else (if pc = 29 then some (.iload 4, 31, 4, 0, [], .null) else none)) else (if pc < 32 then (if pc = 31 then some (.iadd, 32, 0, 0, [], .null) else none) else (if pc = 32 then some (.baload, 33, 0, 0, [], .null) else none))) else (if pc < 35 then (if pc < 34 then (if pc = 33 then some (.aload_n 2, 34, 2, 0, [], .null) else none) else (if pc = 34 then some (.iload_n 3, 35, 3, 0, [], .null) else none)) else (if pc < 37 then (if pc = 35 then some (.iload 4, 37, 4, 0, [], .null) else none) else (if pc = 37 then some (.iadd, 38, 0, 0, [], .null) else none)))) else (if pc < 46 then (if pc < 44 then (if pc < 41 then (if pc = 38 then some (.invokevirtual 47, 41, 1, 2, [], .null) else none) else (if pc = 41 then some (.if_icmp .eq 5, 44, 46, 0, [], .null) else none)) else (if pc < 45 then (if pc = 44 then some (.iconst 0, 45, 0, 0, [], .int 0) else none) else (if pc = 45 then some (.ireturn, 46, 0, 0, [], .null) else none))) else (if pc < 52 then (if pc < 49 then (if pc = 46 then some (.iinc 4 1, 49, 4, 0, [], .int 1) else none) else (if pc = 49 then some (.goto (-46), 52, 3, 0, [], .null) else none)) else (if pc < 53 then (if pc = 52 then some (.iconst 1, 53, 0, 0, [], .int 1) else none) else (if pc = 53 then some (.ireturn, 54, 0, 0, [], .null) else none)))))) else none
set_option maxRecDepth 20000 in
def cdX7_addSign : PCode := fun pc => if pc < 58 then (if pc < 34 then (if pc < 15 then (if pc < 6 then (if pc < 4 then (if pc < 1 then (if pc = 0 then some (.aload_n 0, 1, 0, 0, [], .null) else none) else (if pc = 1 then some (.getfield 19, 4, 8, 2, [], .null) else none)) else (if pc < 5 then (if pc = 4 then some (.iconst 1, 5, 0, 0, [], .int 1) else none) else (if pc = 5 then some (.isub, 6, 0, 0, [], .null) else none))) else (if pc < 8 then (if pc < 7 then (if pc = 6 then some (.istore_n 2, 7, 2, 0, [], .null) else none) else (if pc = 7 then some (.iload_n 2, 8, 2, 0, [], .null) else none)) else (if pc < 11 then (if pc = 8 then some (.ifCond .lt 49, 11, 57, 0, [], .null) else none) else (if pc < 12 then (if pc = 11 then some (.iload_n 2, 12, 2, 0, [], .null) else none) else (if pc = 12 then some (.sipush 300, 15, 0, 0, [], .int 300) else none))))) else (if pc < 24 then (if pc < 19 then (if pc < 18 then (if pc = 15 then some (.if_icmp .ge 42, 18, 57, 0, [], .null) else none) else (if pc = 18 then some (.aload_n 0, 19, 0, 0, [], .null) else none)) else (if pc < 22 then (if pc = 19 then some (.getfield 15, 22, 8, 1, [], .null) else none) else (if pc < 23 then (if pc = 22 then some (.iload_n 2, 23, 2, 0, [], .null) else none) else (if pc = 23 then some (.iaload, 24, 0, 0, [], .null) else none)))) else (if pc < 29 then (if pc < 26 then (if pc = 24 then some (.bipush 10, 26, 0, 0, [], .int 10) else none) else (if pc = 26 then some (.if_icmp .ge 31, 29, 57, 0, [], .null) else none)) else (if pc < 30 then (if pc = 29 then some (.aload_n 0, 30, 0, 0, [], .null) else none) else (if pc < 33 then (if pc = 30 then some (.getfield 9, 33, 8, 0, [], .null) else none) else (if pc = 33 then some (.iload_n 2, 34, 2, 0, [], .null) else none)))))) else (if pc < 46 then (if pc < 41 then (if pc < 37 then (if pc < 36 then (if pc = 34 then some (.bipush 10, 36, 0, 0, [], .int 10) else none) else (if pc = 36 then some (.imul, 37, 0, 0, [], .null) else none)) else (if pc < 38 then (if pc = 37 then some (.aload_n 0, 38, 0, 0, [], .null) else none) else (if pc = 38 then some (.getfield 15, 41, 8, 1, [], .null) else none))) else (if pc < 43 then (if pc < 42 then (if pc = 41 then some (.iload_n 2, 42, 2, 0, [], .null) else none) else (if pc = 42 then some (.iaload, 43, 0, 0, [], .null) else none)) else (if pc < 44 then (if pc = 43 then some (.iadd, 44, 0, 0, [], .null) else none) else (if pc < 45 then (if pc = 44 then some (.iload_n 1, 45, 1, 0, [], .null) else none) else (if pc = 45 then some (.i2b, 46, 0, 0, [], .null) else none))))) else (if pc < 53 then (if pc < 48 then (if pc < 47 then (if pc = 46 then some (.bastore, 47, 0, 0, [], .null) else none) else (if pc = 47 then some (.aload_n 0, 48, 0, 0, [], .null) else none)) else (if pc < 51 then (if pc = 48 then some (.getfield 15, 51, 8, 1, [], .null) else none) else (if pc < 52 then (if pc = 51 then some (.iload_n 2, 52, 2, 0, [], .null) else none) else (if pc = 52 then some (.dup2, 53, 0, 0, [], .null) else none)))) else (if pc < 55 then (if pc < 54 then (if pc = 53 then some (.iaload, 54, 0, 0, [], .null) else none) else (if pc = 54 then some (.iconst 1, 55, 0, 0, [], .int 1) else none)) else (if pc < 56 then (if pc = 55 then some (.iadd, 56, 0, 0, [], .null) else none) else (if pc < 57 then (if pc = 56 then some (.iastore, 57, 0, 0, [], .null) else none) else (if pc = 57 then some (.return_, 58, 0, 0, [], .null) else none))))))) else none
set_option maxRecDepth 20000 in
def cdX8_isSymbol : PCode := fun pc => if pc < 20 then (if pc < 10 then (if pc < 3 then (if pc < 1 then (if pc = 0 then some (.lload_n 0, 1, 0, 0, [], .null) else none) else (if pc < 2 then (if pc = 1 then some (.lconst 0, 2, 0, 0, [], .long 0) else none) else (if pc = 2 then some (.lcmp, 3, 0, 0, [], .null) else none))) else (if pc < 6 then (if pc = 3 then some (.ifCond .lt 15, 6, 18, 0, [], .null) else none) else (if pc < 7 then (if pc = 6 then some (.lload_n 0, 7, 0, 0, [], .null) else none) else (if pc = 7 then some (.ldc2_w 9, 10, 0, 0, [], .long 300) else none)))) else (if pc < 15 then (if pc < 11 then (if pc = 10 then some (.lcmp, 11, 0, 0, [], .null) else none) else (if pc < 14 then (if pc = 11 then some (.ifCond .ge 7, 14, 18, 0, [], .null) else none) else (if pc = 14 then some (.iconst 1, 15, 0, 0, [], .int 1) else none))) else (if pc < 18 then (if pc = 15 then some (.goto 4, 18, 19, 0, [], .null) else none) else (if pc < 19 then (if pc = 18 then some (.iconst 0, 19, 0, 0, [], .int 0) else none) else (if pc = 19 then some (.ireturn, 20, 0, 0, [], .null) else none))))) else none
set_option maxRecDepth 20000 in
def cdX8_isNumber : PCode := fun pc => if pc < 22 then (if pc < 12 then (if pc < 5 then (if pc < 1 then (if pc = 0 then some (.lload_n 0, 1, 0, 0, [], .null) else none) else (if pc < 4 then (if pc = 1 then some (.ldc2_w 13, 4, 0, 0, [], .long 4294967296) else none) else (if pc = 4 then some (.lcmp, 5, 0, 0, [], .null) else none))) else (if pc < 8 then (if pc = 5 then some (.ifCond .lt 15, 8, 20, 0, [], .null) else none) else (if pc < 9 then (if pc = 8 then some (.lload_n 0, 9, 0, 0, [], .null) else none) else (if pc = 9 then some (.ldc2_w 15, 12, 0, 0, [], .long 8589934592) else none)))) else (if pc < 17 then (if pc < 13 then (if pc = 12 then some (.lcmp, 13, 0, 0, [], .null) else none) else (if pc < 16 then (if pc = 13 then some (.ifCond .ge 7, 16, 20, 0, [], .null) else none) else (if pc = 16 then some (.iconst 1, 17, 0, 0, [], .int 1) else none))) else (if pc < 20 then (if pc = 17 then some (.goto 4, 20, 21, 0, [], .null) else none) else (if pc < 21 then (if pc = 20 then some (.iconst 0, 21, 0, 0, [], .int 0) else none) else (if pc = 21 then some (.ireturn, 22, 0, 0, [], .null) else none))))) else none
set_option maxRecDepth 20000 in
def cdX8_isCell : PCode := fun pc => if pc < 22 then (if pc < 12 then (if pc < 5 then (if pc < 1 then (if pc = 0 then some (.lload_n 0, 1, 0, 0, [], .null) else none) else (if pc < 4 then (if pc = 1 then some (.ldc2_w 15, 4, 0, 0, [], .long 8589934592) else none) else (if pc = 4 then some (.lcmp, 5, 0, 0, [], .null) else none))) else (if pc < 8 then (if pc = 5 then some (.ifCond .lt 15, 8, 20, 0, [], .null) else none) else (if pc < 9 then (if pc = 8 then some (.lload_n 0, 9, 0, 0, [], .null) else none) else (if pc = 9 then some (.ldc2_w 17, 12, 0, 0, [], .long 8589936592) else none)))) else (if pc < 17 then (if pc < 13 then (if pc = 12 then some (.lcmp, 13, 0, 0, [], .null) else none) else (if pc < 16 then (if pc = 13 then some (.ifCond .ge 7, 16, 20, 0, [], .null) else none) else (if pc = 16 then some (.iconst 1, 17, 0, 0, [], .int 1) else none))) else (if pc < 20 then (if pc = 17 then some (.goto 4, 20, 21, 0, [], .null) else none) else (if pc < 21 then (if pc = 20 then some (.iconst 0, 21, 0, 0, [], .int 0) else none) else (if pc = 21 then some (.ireturn, 22, 0, 0, [], .null) else none))))) else none
set_option maxRecDepth 20000 in
def cdX8_ofNumber : PCode := fun pc => if pc < 11 then (if pc < 5 then (if pc < 3 then (if pc = 0 then some (.ldc2_w 13, 3, 0, 0, [], .long 4294967296) else none) else (if pc < 4 then (if pc = 3 then some (.iload_n 0, 4, 0, 0, [], .null) else none) else (if pc = 4 then some (.i2l, 5, 0, 0, [], .null) else none))) else (if pc < 9 then (if pc < 8 then (if pc = 5 then some (.ldc2_w 19, 8, 0, 0, [], .long 4294967295) else none) else (if pc = 8 then some (.land, 9, 0, 0, [], .null) else none)) else (if pc < 10 then (if pc = 9 then some (.lor, 10, 0, 0, [], .null) else none) else (if pc = 10 then some (.lreturn, 11, 0, 0, [], .null) else none)))) else none
set_option maxRecDepth 20000 in
def cdX8_ofCell : PCode := fun pc => if pc < 7 then (if pc < 4 then (if pc < 3 then (if pc = 0 then some (.ldc2_w 15, 3, 0, 0, [], .long 8589934592) else none) else (if pc = 3 then some (.iload_n 0, 4, 0, 0, [], .null) else none)) else (if pc < 5 then (if pc = 4 then some (.i2l, 5, 0, 0, [], .null) else none) else (if pc < 6 then (if pc = 5 then some (.ladd, 6, 0, 0, [], .null) else none) else (if pc = 6 then some (.lreturn, 7, 0, 0, [], .null) else none)))) else none
set_option maxRecDepth 20000 in
def cdX8_ofTruth : PCode := fun pc => if pc < 10 then (if pc < 5 then (if pc < 1 then (if pc = 0 then some (.iload_n 0, 1, 0, 0, [], .null) else none) else (if pc < 4 then (if pc = 1 then some (.ifCond .eq 7, 4, 8, 0, [], .null) else none) else (if pc = 4 then some (.lconst 1, 5, 0, 0, [], .long 1) else none))) else (if pc < 8 then (if pc = 5 then some (.goto 4, 8, 9, 0, [], .null) else none) else (if pc < 9 then (if pc = 8 then some (.lconst 0, 9, 0, 0, [], .long 0) else none) else (if pc = 9 then some (.lreturn, 10, 0, 0, [], .null) else none)))) else none
set_option maxRecDepth 20000 in
def cdX8_number : PCode := fun pc => if pc < 3 then (if pc < 1 then (if pc = 0 then some (.lload_n 0, 1, 0, 0, [], .null) else none) else (if pc < 2 then (if pc = 1 then some (.l2i, 2, 0, 0, [], .null) else none) else (if pc = 2 then some (.ireturn, 3, 0, 0, [], .null) else none))) else none
set_option maxRecDepth 20000 in
def cdX9_feed : PCode := fun pc => if pc < 68 then (if pc < 31 then (if pc < 17 then (if pc < 9 then (if pc < 4 then (if pc < 1 then (if pc = 0 then some (.aload_n 0, 1, 0, 0, [], .null) else none) else (if pc = 1 then some (.getfield 13, 4, 9, 0, [], .null) else none)) else (if pc < 7 then (if pc = 4 then some (.invokevirtual 73, 7, 0, 1, [], .null) else none) else (if pc = 7 then some (.bipush 20, 9, 0, 0, [], .int 20) else none))) else (if pc < 13 then (if pc < 10 then (if pc = 9 then some (.iadd, 10, 0, 0, [], .null) else none) else (if pc = 10 then some (.sipush 2000, 13, 0, 0, [], .int 2000) else none)) else (if pc < 16 then (if pc = 13 then some (.if_icmp .le 5, 16, 18, 0, [], .null) else none) else (if pc = 16 then some (.iconst (-1), 17, 0, 0, [], .int (-1)) else none)))) else (if pc < 23 then (if pc < 19 then (if pc < 18 then (if pc = 17 then some (.ireturn, 18, 0, 0, [], .null) else none) else (if pc = 18 then some (.aload_n 0, 19, 0, 0, [], .null) else none)) else (if pc < 22 then (if pc = 19 then some (.getfield 13, 22, 9, 0, [], .null) else none) else (if pc = 22 then some (.iload_n 1, 23, 1, 0, [], .null) else none))) else (if pc < 27 then (if pc < 26 then (if pc = 23 then some (.invokevirtual 77, 26, 3, 2, [], .null) else none) else (if pc = 26 then some (.aload_n 0, 27, 0, 0, [], .null) else none)) else (if pc < 30 then (if pc = 27 then some (.getfield 13, 30, 9, 0, [], .null) else none) else (if pc = 30 then some (.iload_n 2, 31, 2, 0, [], .null) else none))))) else (if pc < 48 then (if pc < 39 then (if pc < 35 then (if pc < 34 then (if pc = 31 then some (.invokevirtual 77, 34, 3, 2, [], .null) else none) else (if pc = 34 then some (.aload_n 0, 35, 0, 0, [], .null) else none)) else (if pc < 38 then (if pc = 35 then some (.getfield 13, 38, 9, 0, [], .null) else none) else (if pc = 38 then some (.iload_n 3, 39, 3, 0, [], .null) else none))) else (if pc < 43 then (if pc < 42 then (if pc = 39 then some (.invokevirtual 77, 42, 3, 2, [], .null) else none) else (if pc = 42 then some (.aload_n 0, 43, 0, 0, [], .null) else none)) else (if pc < 46 then (if pc = 43 then some (.getfield 13, 46, 9, 0, [], .null) else none) else (if pc = 46 then some (.iload 4, 48, 4, 0, [], .null) else none)))) else (if pc < 57 then (if pc < 52 then (if pc < 51 then (if pc = 48 then some (.invokevirtual 77, 51, 3, 2, [], .null) else none) else (if pc = 51 then some (.aload_n 0, 52, 0, 0, [], .null) else none)) else (if pc < 55 then (if pc = 52 then some (.getfield 13, 55, 9, 0, [], .null) else none) else (if pc = 55 then some (.iload 5, 57, 5, 0, [], .null) else none))) else (if pc < 61 then (if pc < 60 then (if pc = 57 then some (.invokevirtual 77, 60, 3, 2, [], .null) else none) else (if pc = 60 then some (.aload_n 0, 61, 0, 0, [], .null) else none)) else (if pc < 64 then (if pc = 61 then some (.getfield 13, 64, 9, 0, [], .null) else none) else (if pc < 67 then (if pc = 64 then some (.invokevirtual 73, 67, 0, 1, [], .null) else none) else (if pc = 67 then some (.ireturn, 68, 0, 0, [], .null) else none))))))) else none
set_option maxRecDepth 20000 in
def cdX9_define : PCode := fun pc => if pc < 81 then (if pc < 43 then (if pc < 24 then (if pc < 6 then (if pc < 4 then (if pc < 1 then (if pc = 0 then some (.iload_n 1, 1, 1, 0, [], .null) else none) else (if pc = 1 then some (.ifCond .lt 14, 4, 15, 0, [], .null) else none)) else (if pc < 5 then (if pc = 4 then some (.iload_n 1, 5, 1, 0, [], .null) else none) else (if pc = 5 then some (.aload_n 0, 6, 0, 0, [], .null) else none))) else (if pc < 12 then (if pc < 9 then (if pc = 6 then some (.getfield 13, 9, 9, 0, [], .null) else none) else (if pc = 9 then some (.invokevirtual 73, 12, 0, 1, [], .null) else none)) else (if pc < 23 then (if pc = 12 then some (.if_icmp .le 11, 15, 23, 0, [], .null) else none) else (if pc = 23 then some (.aload_n 0, 24, 0, 0, [], .null) else none)))) else (if pc < 32 then (if pc < 28 then (if pc < 27 then (if pc = 24 then some (.getfield 51, 27, 9, 5, [], .null) else none) else (if pc = 27 then some (.iload_n 1, 28, 1, 0, [], .null) else none)) else (if pc < 31 then (if pc = 28 then some (.invokevirtual 84, 31, 65, 2, [], .null) else none) else (if pc = 31 then some (.aload_n 0, 32, 0, 0, [], .null) else none))) else (if pc < 38 then (if pc < 35 then (if pc = 32 then some (.getfield 51, 35, 9, 5, [], .null) else none) else (if pc = 35 then some (.invokevirtual 87, 38, 66, 1, [], .null) else none)) else (if pc < 39 then (if pc = 38 then some (.istore_n 2, 39, 2, 0, [], .null) else none) else (if pc < 40 then (if pc = 39 then some (.aload_n 0, 40, 0, 0, [], .null) else none) else (if pc = 40 then some (.getfield 51, 43, 9, 5, [], .null) else none)))))) else (if pc < 64 then (if pc < 51 then (if pc < 47 then (if pc < 46 then (if pc = 43 then some (.invokevirtual 90, 46, 67, 1, [], .null) else none) else (if pc = 46 then some (.lstore_n 3, 47, 3, 0, [], .null) else none)) else (if pc < 48 then (if pc = 47 then some (.aload_n 0, 48, 0, 0, [], .null) else none) else (if pc = 48 then some (.getfield 13, 51, 9, 0, [], .null) else none))) else (if pc < 55 then (if pc < 54 then (if pc = 51 then some (.invokevirtual 94, 54, 4, 1, [], .null) else none) else (if pc = 54 then some (.aload_n 0, 55, 0, 0, [], .null) else none)) else (if pc < 58 then (if pc = 55 then some (.getfield 51, 58, 9, 5, [], .null) else none) else (if pc < 61 then (if pc = 58 then some (.invokevirtual 97, 61, 63, 1, [], .null) else none) else (if pc = 61 then some (.ifCond .ne 12, 64, 73, 0, [], .null) else none))))) else (if pc < 70 then (if pc < 68 then (if pc < 65 then (if pc = 64 then some (.aload_n 0, 65, 0, 0, [], .null) else none) else (if pc = 65 then some (.getfield 33, 68, 9, 3, [], .null) else none)) else (if pc < 69 then (if pc = 68 then some (.iload_n 2, 69, 2, 0, [], .null) else none) else (if pc = 69 then some (.lload_n 3, 70, 3, 0, [], .null) else none))) else (if pc < 74 then (if pc < 73 then (if pc = 70 then some (.invokevirtual 100, 73, 85, 3, [], .null) else none) else (if pc = 73 then some (.aload_n 0, 74, 0, 0, [], .null) else none)) else (if pc < 77 then (if pc = 74 then some (.getfield 51, 77, 9, 5, [], .null) else none) else (if pc < 80 then (if pc = 77 then some (.invokevirtual 97, 80, 63, 1, [], .null) else none) else (if pc = 80 then some (.ireturn, 81, 0, 0, [], .null) else none))))))) else none
set_option maxRecDepth 20000 in
def cdX9_eval : PCode := fun pc => if pc < 130 then (if pc < 68 then (if pc < 38 then (if pc < 15 then (if pc < 5 then (if pc < 1 then (if pc = 0 then some (.iload_n 1, 1, 1, 0, [], .null) else none) else (if pc < 4 then (if pc = 1 then some (.ifCond .lt 25, 4, 26, 0, [], .null) else none) else (if pc = 4 then some (.iload_n 1, 5, 1, 0, [], .null) else none))) else (if pc < 9 then (if pc < 6 then (if pc = 5 then some (.aload_n 0, 6, 0, 0, [], .null) else none) else (if pc = 6 then some (.getfield 13, 9, 9, 0, [], .null) else none)) else (if pc < 12 then (if pc = 9 then some (.invokevirtual 73, 12, 0, 1, [], .null) else none) else (if pc = 12 then some (.if_icmp .gt 14, 15, 26, 0, [], .null) else none)))) else (if pc < 20 then (if pc < 16 then (if pc = 15 then some (.iload_n 2, 16, 2, 0, [], .null) else none) else (if pc < 19 then (if pc = 16 then some (.ifCond .lt 10, 19, 26, 0, [], .null) else none) else (if pc = 19 then some (.iload_n 2, 20, 2, 0, [], .null) else none))) else (if pc < 34 then (if pc < 23 then (if pc = 20 then some (.sipush 20000, 23, 0, 0, [], .int 20000) else none) else (if pc = 23 then some (.if_icmp .le 11, 26, 34, 0, [], .null) else none)) else (if pc < 35 then (if pc = 34 then some (.aload_n 0, 35, 0, 0, [], .null) else none) else (if pc = 35 then some (.getfield 51, 38, 9, 5, [], .null) else none))))) else (if pc < 51 then (if pc < 43 then (if pc < 39 then (if pc = 38 then some (.iload_n 1, 39, 1, 0, [], .null) else none) else (if pc < 42 then (if pc = 39 then some (.invokevirtual 84, 42, 65, 2, [], .null) else none) else (if pc = 42 then some (.aload_n 0, 43, 0, 0, [], .null) else none))) else (if pc < 49 then (if pc < 46 then (if pc = 43 then some (.getfield 51, 46, 9, 5, [], .null) else none) else (if pc = 46 then some (.invokevirtual 90, 49, 67, 1, [], .null) else none)) else (if pc < 50 then (if pc = 49 then some (.lstore_n 3, 50, 3, 0, [], .null) else none) else (if pc = 50 then some (.aload_n 0, 51, 0, 0, [], .null) else none)))) else (if pc < 58 then (if pc < 54 then (if pc = 51 then some (.getfield 13, 54, 9, 0, [], .null) else none) else (if pc < 57 then (if pc = 54 then some (.invokevirtual 94, 57, 4, 1, [], .null) else none) else (if pc = 57 then some (.aload_n 0, 58, 0, 0, [], .null) else none))) else (if pc < 64 then (if pc < 61 then (if pc = 58 then some (.getfield 19, 61, 9, 1, [], .null) else none) else (if pc = 61 then some (.invokevirtual 94, 64, 4, 1, [], .null) else none)) else (if pc < 65 then (if pc = 64 then some (.aload_n 0, 65, 0, 0, [], .null) else none) else (if pc = 65 then some (.getfield 60, 68, 9, 6, [], .null) else none)))))) else (if pc < 98 then (if pc < 85 then (if pc < 75 then (if pc < 71 then (if pc = 68 then some (.invokevirtual 106, 71, 20, 1, [], .null) else none) else (if pc < 72 then (if pc = 71 then some (.aload_n 0, 72, 0, 0, [], .null) else none) else (if pc = 72 then some (.getfield 51, 75, 9, 5, [], .null) else none))) else (if pc < 81 then (if pc < 78 then (if pc = 75 then some (.invokevirtual 97, 78, 63, 1, [], .null) else none) else (if pc = 78 then some (.ifCond .eq 11, 81, 89, 0, [], .null) else none)) else (if pc < 82 then (if pc = 81 then some (.aload_n 0, 82, 0, 0, [], .null) else none) else (if pc = 82 then some (.getfield 51, 85, 9, 5, [], .null) else none)))) else (if pc < 90 then (if pc < 88 then (if pc = 85 then some (.invokevirtual 97, 88, 63, 1, [], .null) else none) else (if pc < 89 then (if pc = 88 then some (.ireturn, 89, 0, 0, [], .null) else none) else (if pc = 89 then some (.aload_n 0, 90, 0, 0, [], .null) else none))) else (if pc < 94 then (if pc < 93 then (if pc = 90 then some (.getfield 60, 93, 9, 6, [], .null) else none) else (if pc = 93 then some (.lload_n 3, 94, 3, 0, [], .null) else none)) else (if pc < 95 then (if pc = 94 then some (.iload_n 2, 95, 2, 0, [], .null) else none) else (if pc = 95 then some (.invokevirtual 109, 98, 21, 3, [], .null) else none))))) else (if pc < 113 then (if pc < 105 then (if pc < 99 then (if pc = 98 then some (.aload_n 0, 99, 0, 0, [], .null) else none) else (if pc < 102 then (if pc = 99 then some (.getfield 60, 102, 9, 6, [], .null) else none) else (if pc = 102 then some (.invokevirtual 113, 105, 16, 1, [], .null) else none))) else (if pc < 109 then (if pc < 108 then (if pc = 105 then some (.ifCond .ne 17, 108, 122, 0, [], .null) else none) else (if pc = 108 then some (.aload_n 0, 109, 0, 0, [], .null) else none)) else (if pc < 112 then (if pc = 109 then some (.getfield 69, 112, 9, 7, [], .null) else none) else (if pc = 112 then some (.aload_n 0, 113, 0, 0, [], .null) else none)))) else (if pc < 122 then (if pc < 116 then (if pc = 113 then some (.getfield 60, 116, 9, 6, [], .null) else none) else (if pc < 119 then (if pc = 116 then some (.invokevirtual 114, 119, 17, 1, [], .null) else none) else (if pc = 119 then some (.invokevirtual 117, 122, 58, 2, [], .null) else none))) else (if pc < 126 then (if pc < 123 then (if pc = 122 then some (.aload_n 0, 123, 0, 0, [], .null) else none) else (if pc = 123 then some (.getfield 60, 126, 9, 6, [], .null) else none)) else (if pc < 129 then (if pc = 126 then some (.invokevirtual 113, 129, 16, 1, [], .null) else none) else (if pc = 129 then some (.ireturn, 130, 0, 0, [], .null) else none))))))) else none
set_option maxRecDepth 20000 in
def cdX9_echo : PCode := fun pc => if pc < 79 then (if pc < 40 then (if pc < 24 then (if pc < 6 then (if pc < 4 then (if pc < 1 then (if pc = 0 then some (.iload_n 1, 1, 1, 0, [], .null) else none) else (if pc = 1 then some (.ifCond .lt 14, 4, 15, 0, [], .null) else none)) else (if pc < 5 then (if pc = 4 then some (.iload_n 1, 5, 1, 0, [], .null) else none) else (if pc = 5 then some (.aload_n 0, 6, 0, 0, [], .null) else none))) else (if pc < 12 then (if pc < 9 then (if pc = 6 then some (.getfield 13, 9, 9, 0, [], .null) else none) else (if pc = 9 then some (.invokevirtual 73, 12, 0, 1, [], .null) else none)) else (if pc < 23 then (if pc = 12 then some (.if_icmp .le 11, 15, 23, 0, [], .null) else none) else (if pc = 23 then some (.aload_n 0, 24, 0, 0, [], .null) else none)))) else (if pc < 32 then (if pc < 28 then (if pc < 27 then (if pc = 24 then some (.getfield 51, 27, 9, 5, [], .null) else none) else (if pc = 27 then some (.iload_n 1, 28, 1, 0, [], .null) else none)) else (if pc < 31 then (if pc = 28 then some (.invokevirtual 84, 31, 65, 2, [], .null) else none) else (if pc = 31 then some (.aload_n 0, 32, 0, 0, [], .null) else none))) else (if pc < 38 then (if pc < 35 then (if pc = 32 then some (.getfield 51, 35, 9, 5, [], .null) else none) else (if pc = 35 then some (.invokevirtual 90, 38, 67, 1, [], .null) else none)) else (if pc < 39 then (if pc = 38 then some (.lstore_n 2, 39, 2, 0, [], .null) else none) else (if pc = 39 then some (.aload_n 0, 40, 0, 0, [], .null) else none))))) else (if pc < 60 then (if pc < 50 then (if pc < 46 then (if pc < 43 then (if pc = 40 then some (.getfield 13, 43, 9, 0, [], .null) else none) else (if pc = 43 then some (.invokevirtual 94, 46, 4, 1, [], .null) else none)) else (if pc < 47 then (if pc = 46 then some (.aload_n 0, 47, 0, 0, [], .null) else none) else (if pc = 47 then some (.getfield 19, 50, 9, 1, [], .null) else none))) else (if pc < 54 then (if pc < 53 then (if pc = 50 then some (.invokevirtual 94, 53, 4, 1, [], .null) else none) else (if pc = 53 then some (.aload_n 0, 54, 0, 0, [], .null) else none)) else (if pc < 57 then (if pc = 54 then some (.getfield 51, 57, 9, 5, [], .null) else none) else (if pc = 57 then some (.invokevirtual 97, 60, 63, 1, [], .null) else none)))) else (if pc < 68 then (if pc < 64 then (if pc < 63 then (if pc = 60 then some (.ifCond .ne 11, 63, 71, 0, [], .null) else none) else (if pc = 63 then some (.aload_n 0, 64, 0, 0, [], .null) else none)) else (if pc < 67 then (if pc = 64 then some (.getfield 69, 67, 9, 7, [], .null) else none) else (if pc = 67 then some (.lload_n 2, 68, 2, 0, [], .null) else none))) else (if pc < 72 then (if pc < 71 then (if pc = 68 then some (.invokevirtual 117, 71, 58, 2, [], .null) else none) else (if pc = 71 then some (.aload_n 0, 72, 0, 0, [], .null) else none)) else (if pc < 75 then (if pc = 72 then some (.getfield 51, 75, 9, 5, [], .null) else none) else (if pc < 78 then (if pc = 75 then some (.invokevirtual 97, 78, 63, 1, [], .null) else none) else (if pc = 78 then some (.ireturn, 79, 0, 0, [], .null) else none))))))) else none
set_option maxRecDepth 20000 in
def cdX9_place : PCode := fun pc => if pc < 8 then (if pc < 4 then (if pc < 1 then (if pc = 0 then some (.aload_n 0, 1, 0, 0, [], .null) else none) else (if pc = 1 then some (.getfield 51, 4, 9, 5, [], .null) else none)) else (if pc < 7 then (if pc = 4 then some (.invokevirtual 121, 7, 64, 1, [], .null) else none) else (if pc = 7 then some (.ireturn, 8, 0, 0, [], .null) else none))) else none
set_option maxRecDepth 20000 in
def cdX9_room : PCode := fun pc => if pc < 44 then (if pc < 28 then (if pc < 19 then (if pc < 4 then (if pc < 1 then (if pc = 0 then some (.iload_n 1, 1, 1, 0, [], .null) else none) else (if pc = 1 then some (.ifCond .lt 10, 4, 11, 0, [], .null) else none)) else (if pc < 5 then (if pc = 4 then some (.iload_n 1, 5, 1, 0, [], .null) else none) else (if pc < 8 then (if pc = 5 then some (.sipush 2000, 8, 0, 0, [], .int 2000) else none) else (if pc = 8 then some (.if_icmp .le 11, 11, 19, 0, [], .null) else none)))) else (if pc < 23 then (if pc < 20 then (if pc = 19 then some (.aload_n 0, 20, 0, 0, [], .null) else none) else (if pc = 20 then some (.getfield 39, 23, 9, 4, [], .null) else none)) else (if pc < 26 then (if pc = 23 then some (.invokevirtual 124, 26, 11, 1, [], .null) else none) else (if pc < 27 then (if pc = 26 then some (.istore_n 2, 27, 2, 0, [], .null) else none) else (if pc = 27 then some (.iload_n 2, 28, 2, 0, [], .null) else none))))) else (if pc < 35 then (if pc < 32 then (if pc < 29 then (if pc = 28 then some (.iload_n 1, 29, 1, 0, [], .null) else none) else (if pc = 29 then some (.if_icmp .le 5, 32, 34, 0, [], .null) else none)) else (if pc < 33 then (if pc = 32 then some (.iconst (-1), 33, 0, 0, [], .int (-1)) else none) else (if pc < 34 then (if pc = 33 then some (.ireturn, 34, 0, 0, [], .null) else none) else (if pc = 34 then some (.aload_n 0, 35, 0, 0, [], .null) else none)))) else (if pc < 39 then (if pc < 38 then (if pc = 35 then some (.getfield 39, 38, 9, 4, [], .null) else none) else (if pc = 38 then some (.iload_n 1, 39, 1, 0, [], .null) else none)) else (if pc < 42 then (if pc = 39 then some (.invokevirtual 127, 42, 7, 2, [], .null) else none) else (if pc < 43 then (if pc = 42 then some (.iload_n 2, 43, 2, 0, [], .null) else none) else (if pc = 43 then some (.ireturn, 44, 0, 0, [], .null) else none)))))) else none
set_option maxRecDepth 20000 in
def cdX9_count : PCode := fun pc => if pc < 126 then (if pc < 88 then (if pc < 68 then (if pc < 59 then (if pc < 52 then (if pc < 1 then (if pc = 0 then some (.iload_n 1, 1, 1, 0, [], .null) else none) else (if pc = 1 then some (.tableswitch 123 0 8 #[51, 59, 67, 75, 83, 91, 99, 107, 115], 52, 124, 0, [52, 60, 68, 76, 84, 92, 100, 108, 116], .null) else none)) else (if pc < 53 then (if pc = 52 then some (.aload_n 0, 53, 0, 0, [], .null) else none) else (if pc < 56 then (if pc = 53 then some (.getfield 25, 56, 9, 2, [], .null) else none) else (if pc = 56 then some (.invokevirtual 130, 59, 89, 1, [], .null) else none)))) else (if pc < 61 then (if pc < 60 then (if pc = 59 then some (.ireturn, 60, 0, 0, [], .null) else none) else (if pc = 60 then some (.aload_n 0, 61, 0, 0, [], .null) else none)) else (if pc < 64 then (if pc = 61 then some (.getfield 39, 64, 9, 4, [], .null) else none) else (if pc < 67 then (if pc = 64 then some (.invokevirtual 124, 67, 11, 1, [], .null) else none) else (if pc = 67 then some (.ireturn, 68, 0, 0, [], .null) else none))))) else (if pc < 77 then (if pc < 72 then (if pc < 69 then (if pc = 68 then some (.aload_n 0, 69, 0, 0, [], .null) else none) else (if pc = 69 then some (.getfield 60, 72, 9, 6, [], .null) else none)) else (if pc < 75 then (if pc = 72 then some (.invokevirtual 131, 75, 18, 1, [], .null) else none) else (if pc < 76 then (if pc = 75 then some (.ireturn, 76, 0, 0, [], .null) else none) else (if pc = 76 then some (.aload_n 0, 77, 0, 0, [], .null) else none)))) else (if pc < 83 then (if pc < 80 then (if pc = 77 then some (.getfield 60, 80, 9, 6, [], .null) else none) else (if pc = 80 then some (.invokevirtual 134, 83, 19, 1, [], .null) else none)) else (if pc < 84 then (if pc = 83 then some (.ireturn, 84, 0, 0, [], .null) else none) else (if pc < 85 then (if pc = 84 then some (.aload_n 0, 85, 0, 0, [], .null) else none) else (if pc = 85 then some (.getfield 39, 88, 9, 4, [], .null) else none)))))) else (if pc < 108 then (if pc < 99 then (if pc < 92 then (if pc < 91 then (if pc = 88 then some (.invokevirtual 137, 91, 5, 1, [], .null) else none) else (if pc = 91 then some (.ireturn, 92, 0, 0, [], .null) else none)) else (if pc < 93 then (if pc = 92 then some (.aload_n 0, 93, 0, 0, [], .null) else none) else (if pc < 96 then (if pc = 93 then some (.getfield 19, 96, 9, 1, [], .null) else none) else (if pc = 96 then some (.invokevirtual 73, 99, 0, 1, [], .null) else none)))) else (if pc < 101 then (if pc < 100 then (if pc = 99 then some (.ireturn, 100, 0, 0, [], .null) else none) else (if pc = 100 then some (.aload_n 0, 101, 0, 0, [], .null) else none)) else (if pc < 104 then (if pc = 101 then some (.getfield 13, 104, 9, 0, [], .null) else none) else (if pc < 107 then (if pc = 104 then some (.invokevirtual 73, 107, 0, 1, [], .null) else none) else (if pc = 107 then some (.ireturn, 108, 0, 0, [], .null) else none))))) else (if pc < 117 then (if pc < 112 then (if pc < 109 then (if pc = 108 then some (.aload_n 0, 109, 0, 0, [], .null) else none) else (if pc = 109 then some (.getfield 39, 112, 9, 4, [], .null) else none)) else (if pc < 115 then (if pc = 112 then some (.invokevirtual 140, 115, 6, 1, [], .null) else none) else (if pc < 116 then (if pc = 115 then some (.ireturn, 116, 0, 0, [], .null) else none) else (if pc = 116 then some (.aload_n 0, 117, 0, 0, [], .null) else none)))) else (if pc < 123 then (if pc < 120 then (if pc = 117 then some (.getfield 33, 120, 9, 3, [], .null) else none) else (if pc = 120 then some (.invokevirtual 143, 123, 88, 1, [], .null) else none)) else (if pc < 124 then (if pc = 123 then some (.ireturn, 124, 0, 0, [], .null) else none) else (if pc < 125 then (if pc = 124 then some (.iconst (-1), 125, 0, 0, [], .int (-1)) else none) else (if pc = 125 then some (.ireturn, 126, 0, 0, [], .null) else none))))))) else none
set_option maxRecDepth 20000 in
def cdX9_function : PCode := fun pc => if pc < 35 then (if pc < 17 then (if pc < 8 then (if pc < 4 then (if pc < 1 then (if pc = 0 then some (.aload_n 0, 1, 0, 0, [], .null) else none) else (if pc = 1 then some (.getfield 33, 4, 9, 3, [], .null) else none)) else (if pc < 5 then (if pc = 4 then some (.iload_n 1, 5, 1, 0, [], .null) else none) else (if pc = 5 then some (.invokevirtual 146, 8, 84, 2, [], .null) else none))) else (if pc < 10 then (if pc < 9 then (if pc = 8 then some (.lstore_n 2, 9, 2, 0, [], .null) else none) else (if pc = 9 then some (.lload_n 2, 10, 2, 0, [], .null) else none)) else (if pc < 13 then (if pc = 10 then some (.ldc2_w 152, 13, 0, 0, [], .long (-1)) else none) else (if pc < 14 then (if pc = 13 then some (.lcmp, 14, 0, 0, [], .null) else none) else (if pc = 14 then some (.ifCond .ne 5, 17, 19, 0, [], .null) else none))))) else (if pc < 24 then (if pc < 19 then (if pc < 18 then (if pc = 17 then some (.iconst (-1), 18, 0, 0, [], .int (-1)) else none) else (if pc = 18 then some (.ireturn, 19, 0, 0, [], .null) else none)) else (if pc < 20 then (if pc = 19 then some (.aload_n 0, 20, 0, 0, [], .null) else none) else (if pc < 23 then (if pc = 20 then some (.getfield 69, 23, 9, 7, [], .null) else none) else (if pc = 23 then some (.lload_n 2, 24, 2, 0, [], .null) else none)))) else (if pc < 28 then (if pc < 27 then (if pc = 24 then some (.invokevirtual 117, 27, 58, 2, [], .null) else none) else (if pc = 27 then some (.aload_n 0, 28, 0, 0, [], .null) else none)) else (if pc < 31 then (if pc = 28 then some (.getfield 19, 31, 9, 1, [], .null) else none) else (if pc < 34 then (if pc = 31 then some (.invokevirtual 73, 34, 0, 1, [], .null) else none) else (if pc = 34 then some (.ireturn, 35, 0, 0, [], .null) else none)))))) else none
set_option maxRecDepth 20000 in
def cdX9_octet : PCode := fun pc => if pc < 9 then (if pc < 4 then (if pc < 1 then (if pc = 0 then some (.aload_n 0, 1, 0, 0, [], .null) else none) else (if pc = 1 then some (.getfield 19, 4, 9, 1, [], .null) else none)) else (if pc < 5 then (if pc = 4 then some (.iload_n 1, 5, 1, 0, [], .null) else none) else (if pc < 8 then (if pc = 5 then some (.invokevirtual 154, 8, 1, 2, [], .null) else none) else (if pc = 8 then some (.ireturn, 9, 0, 0, [], .null) else none)))) else none
set_option maxRecDepth 20000 in
def cdX10_thrown : PCode := fun pc => if pc < 5 then (if pc < 1 then (if pc = 0 then some (.aload_n 0, 1, 0, 0, [], .null) else none) else (if pc < 4 then (if pc = 1 then some (.getfield 123, 4, 10, 0, [], .null) else none) else (if pc = 4 then some (.ireturn, 5, 0, 0, [], .null) else none))) else none
set_option maxRecDepth 20000 in
def cdX10_isSymbol : PCode := fun pc => if pc < 12 then (if pc < 6 then (if pc < 2 then (if pc < 1 then (if pc = 0 then some (.lload_n 0, 1, 0, 0, [], .null) else none) else (if pc = 1 then some (.lconst 0, 2, 0, 0, [], .long 0) else none)) else (if pc < 3 then (if pc = 2 then some (.lcmp, 3, 0, 0, [], .null) else none) else (if pc = 3 then some (.ifCond .ge 7, 6, 10, 0, [], .null) else none))) else (if pc < 10 then (if pc < 7 then (if pc = 6 then some (.iconst 1, 7, 0, 0, [], .int 1) else none) else (if pc = 7 then some (.goto 4, 10, 11, 0, [], .null) else none)) else (if pc < 11 then (if pc = 10 then some (.iconst 0, 11, 0, 0, [], .int 0) else none) else (if pc = 11 then some (.ireturn, 12, 0, 0, [], .null) else none)))) else none
end
section
/-! resolved code, part 3 -/
set_option maxRecDepth 20000 in
def cdX10_isNumber : PCode := fun pc => if pc < 14 then (if pc < 8 then (if pc < 4 then (if pc < 1 then (if pc = 0 then some (.lload_n 0, 1, 0, 0, [], .null) else none) else (if pc = 1 then some (.ldc2_w 126, 4, 0, 0, [], .long 1097364144128) else none)) else (if pc < 5 then (if pc = 4 then some (.lcmp, 5, 0, 0, [], .null) else none) else (if pc = 5 then some (.ifCond .lt 7, 8, 12, 0, [], .null) else none))) else (if pc < 12 then (if pc < 9 then (if pc = 8 then some (.iconst 1, 9, 0, 0, [], .int 1) else none) else (if pc = 9 then some (.goto 4, 12, 13, 0, [], .null) else none)) else (if pc < 13 then (if pc = 12 then some (.iconst 0, 13, 0, 0, [], .int 0) else none) else (if pc = 13 then some (.ireturn, 14, 0, 0, [], .null) else none)))) else none
set_option maxRecDepth 20000 in
def cdX10_isCell : PCode := fun pc => if pc < 20 then (if pc < 10 then (if pc < 3 then (if pc < 1 then (if pc = 0 then some (.lload_n 0, 1, 0, 0, [], .null) else none) else (if pc < 2 then (if pc = 1 then some (.lconst 0, 2, 0, 0, [], .long 0) else none) else (if pc = 2 then some (.lcmp, 3, 0, 0, [], .null) else none))) else (if pc < 6 then (if pc = 3 then some (.ifCond .lt 15, 6, 18, 0, [], .null) else none) else (if pc < 7 then (if pc = 6 then some (.lload_n 0, 7, 0, 0, [], .null) else none) else (if pc = 7 then some (.ldc2_w 128, 10, 0, 0, [], .long 2400) else none)))) else (if pc < 15 then (if pc < 11 then (if pc = 10 then some (.lcmp, 11, 0, 0, [], .null) else none) else (if pc < 14 then (if pc = 11 then some (.ifCond .ge 7, 14, 18, 0, [], .null) else none) else (if pc = 14 then some (.iconst 1, 15, 0, 0, [], .int 1) else none))) else (if pc < 18 then (if pc = 15 then some (.goto 4, 18, 19, 0, [], .null) else none) else (if pc < 19 then (if pc = 18 then some (.iconst 0, 19, 0, 0, [], .int 0) else none) else (if pc = 19 then some (.ireturn, 20, 0, 0, [], .null) else none))))) else none
set_option maxRecDepth 20000 in
def cdX10_symbolOf : PCode := fun pc => if pc < 7 then (if pc < 4 then (if pc < 3 then (if pc = 0 then some (.ldc2_w 66, 3, 0, 0, [], .long (-1)) else none) else (if pc = 3 then some (.lload_n 0, 4, 0, 0, [], .null) else none)) else (if pc < 5 then (if pc = 4 then some (.lsub, 5, 0, 0, [], .null) else none) else (if pc < 6 then (if pc = 5 then some (.l2i, 6, 0, 0, [], .null) else none) else (if pc = 6 then some (.ireturn, 7, 0, 0, [], .null) else none)))) else none
set_option maxRecDepth 20000 in
def cdX10_fails : PCode := fun pc => if pc < 10 then (if pc < 5 then (if pc < 1 then (if pc = 0 then some (.aload_n 0, 1, 0, 0, [], .null) else none) else (if pc < 2 then (if pc = 1 then some (.iload_n 1, 2, 1, 0, [], .null) else none) else (if pc = 2 then some (.putfield 130, 5, 10, 8, [], .null) else none))) else (if pc < 6 then (if pc = 5 then some (.aload_n 0, 6, 0, 0, [], .null) else none) else (if pc < 9 then (if pc = 6 then some (.getfield 31, 9, 10, 7, [], .null) else none) else (if pc = 9 then some (.areturn, 10, 0, 0, [], .null) else none)))) else none
set_option maxRecDepth 20000 in
def cdX10_visit : PCode := fun pc => if pc < 58 then (if pc < 28 then (if pc < 17 then (if pc < 8 then (if pc < 4 then (if pc < 1 then (if pc = 0 then some (.lload_n 1, 1, 1, 0, [], .null) else none) else (if pc = 1 then some (.invokestatic 133, 4, 114, 1, [], .null) else none)) else (if pc < 7 then (if pc = 4 then some (.ifCond .eq 13, 7, 17, 0, [], .null) else none) else (if pc = 7 then some (.aload_n 0, 8, 0, 0, [], .null) else none))) else (if pc < 12 then (if pc < 11 then (if pc = 8 then some (.getfield 40, 11, 10, 11, [], .null) else none) else (if pc = 11 then some (.lload_n 1, 12, 1, 0, [], .null) else none)) else (if pc < 13 then (if pc = 12 then some (.l2i, 13, 0, 0, [], .null) else none) else (if pc < 14 then (if pc = 13 then some (.baload, 14, 0, 0, [], .null) else none) else (if pc = 14 then some (.ifCond .eq 4, 17, 18, 0, [], .null) else none))))) else (if pc < 23 then (if pc < 19 then (if pc < 18 then (if pc = 17 then some (.return_, 18, 0, 0, [], .null) else none) else (if pc = 18 then some (.aload_n 0, 19, 0, 0, [], .null) else none)) else (if pc < 22 then (if pc = 19 then some (.getfield 40, 22, 10, 11, [], .null) else none) else (if pc = 22 then some (.lload_n 1, 23, 1, 0, [], .null) else none))) else (if pc < 25 then (if pc < 24 then (if pc = 23 then some (.l2i, 24, 0, 0, [], .null) else none) else (if pc = 24 then some (.iconst 1, 25, 0, 0, [], .int 1) else none)) else (if pc < 26 then (if pc = 25 then some (.bastore, 26, 0, 0, [], .null) else none) else (if pc < 27 then (if pc = 26 then some (.aload_n 0, 27, 0, 0, [], .null) else none) else (if pc = 27 then some (.dup, 28, 0, 0, [], .null) else none)))))) else (if pc < 45 then (if pc < 36 then (if pc < 32 then (if pc < 31 then (if pc = 28 then some (.getfield 137, 31, 10, 14, [], .null) else none) else (if pc = 31 then some (.iconst 1, 32, 0, 0, [], .int 1) else none)) else (if pc < 33 then (if pc = 32 then some (.iadd, 33, 0, 0, [], .null) else none) else (if pc = 33 then some (.putfield 137, 36, 10, 14, [], .null) else none))) else (if pc < 40 then (if pc < 37 then (if pc = 36 then some (.aload_n 0, 37, 0, 0, [], .null) else none) else (if pc = 37 then some (.getfield 43, 40, 10, 12, [], .null) else none)) else (if pc < 41 then (if pc = 40 then some (.aload_n 0, 41, 0, 0, [], .null) else none) else (if pc < 44 then (if pc = 41 then some (.getfield 140, 44, 10, 13, [], .null) else none) else (if pc = 44 then some (.lload_n 1, 45, 1, 0, [], .null) else none))))) else (if pc < 49 then (if pc < 47 then (if pc < 46 then (if pc = 45 then some (.l2i, 46, 0, 0, [], .null) else none) else (if pc = 46 then some (.iastore, 47, 0, 0, [], .null) else none)) else (if pc < 48 then (if pc = 47 then some (.aload_n 0, 48, 0, 0, [], .null) else none) else (if pc = 48 then some (.dup, 49, 0, 0, [], .null) else none))) else (if pc < 53 then (if pc < 52 then (if pc = 49 then some (.getfield 140, 52, 10, 13, [], .null) else none) else (if pc = 52 then some (.iconst 1, 53, 0, 0, [], .int 1) else none)) else (if pc < 54 then (if pc = 53 then some (.iadd, 54, 0, 0, [], .null) else none) else (if pc < 57 then (if pc = 54 then some (.putfield 140, 57, 10, 13, [], .null) else none) else (if pc = 57 then some (.return_, 58, 0, 0, [], .null) else none))))))) else none
set_option maxRecDepth 20000 in
def cdX10_walks : PCode := fun pc => if pc < 51 then (if pc < 26 then (if pc < 13 then (if pc < 7 then (if pc < 1 then (if pc = 0 then some (.aload_n 0, 1, 0, 0, [], .null) else none) else (if pc < 4 then (if pc = 1 then some (.getfield 140, 4, 10, 13, [], .null) else none) else (if pc = 4 then some (.ifCond .le 46, 7, 50, 0, [], .null) else none))) else (if pc < 9 then (if pc < 8 then (if pc = 7 then some (.aload_n 0, 8, 0, 0, [], .null) else none) else (if pc = 8 then some (.dup, 9, 0, 0, [], .null) else none)) else (if pc < 12 then (if pc = 9 then some (.getfield 140, 12, 10, 13, [], .null) else none) else (if pc = 12 then some (.iconst 1, 13, 0, 0, [], .int 1) else none)))) else (if pc < 18 then (if pc < 14 then (if pc = 13 then some (.isub, 14, 0, 0, [], .null) else none) else (if pc < 17 then (if pc = 14 then some (.putfield 140, 17, 10, 13, [], .null) else none) else (if pc = 17 then some (.aload_n 0, 18, 0, 0, [], .null) else none))) else (if pc < 22 then (if pc < 21 then (if pc = 18 then some (.getfield 43, 21, 10, 12, [], .null) else none) else (if pc = 21 then some (.aload_n 0, 22, 0, 0, [], .null) else none)) else (if pc < 25 then (if pc = 22 then some (.getfield 140, 25, 10, 13, [], .null) else none) else (if pc = 25 then some (.iaload, 26, 0, 0, [], .null) else none))))) else (if pc < 37 then (if pc < 29 then (if pc < 27 then (if pc = 26 then some (.istore_n 1, 27, 1, 0, [], .null) else none) else (if pc < 28 then (if pc = 27 then some (.aload_n 0, 28, 0, 0, [], .null) else none) else (if pc = 28 then some (.aload_n 0, 29, 0, 0, [], .null) else none))) else (if pc < 33 then (if pc < 32 then (if pc = 29 then some (.getfield 34, 32, 10, 9, [], .null) else none) else (if pc = 32 then some (.iload_n 1, 33, 1, 0, [], .null) else none)) else (if pc < 34 then (if pc = 33 then some (.laload, 34, 0, 0, [], .null) else none) else (if pc = 34 then some (.invokevirtual 143, 37, 117, 2, [], .null) else none)))) else (if pc < 43 then (if pc < 39 then (if pc < 38 then (if pc = 37 then some (.aload_n 0, 38, 0, 0, [], .null) else none) else (if pc = 38 then some (.aload_n 0, 39, 0, 0, [], .null) else none)) else (if pc < 42 then (if pc = 39 then some (.getfield 37, 42, 10, 10, [], .null) else none) else (if pc = 42 then some (.iload_n 1, 43, 1, 0, [], .null) else none))) else (if pc < 47 then (if pc < 44 then (if pc = 43 then some (.laload, 44, 0, 0, [], .null) else none) else (if pc = 44 then some (.invokevirtual 143, 47, 117, 2, [], .null) else none)) else (if pc < 50 then (if pc = 47 then some (.goto (-47), 50, 0, 0, [], .null) else none) else (if pc = 50 then some (.return_, 51, 0, 0, [], .null) else none)))))) else none
set_option maxRecDepth 20000 in
def cdX10_reachFunctions : PCode := fun pc => if pc < 72 then (if pc < 34 then (if pc < 16 then (if pc < 9 then (if pc < 2 then (if pc < 1 then (if pc = 0 then some (.iconst 0, 1, 0, 0, [], .int 0) else none) else (if pc = 1 then some (.istore_n 1, 2, 1, 0, [], .null) else none)) else (if pc < 3 then (if pc = 2 then some (.iload_n 1, 3, 1, 0, [], .null) else none) else (if pc < 6 then (if pc = 3 then some (.sipush 2400, 6, 0, 0, [], .int 2400) else none) else (if pc = 6 then some (.if_icmp .ge 16, 9, 22, 0, [], .null) else none)))) else (if pc < 13 then (if pc < 10 then (if pc = 9 then some (.aload_n 0, 10, 0, 0, [], .null) else none) else (if pc = 10 then some (.getfield 40, 13, 10, 11, [], .null) else none)) else (if pc < 14 then (if pc = 13 then some (.iload_n 1, 14, 1, 0, [], .null) else none) else (if pc < 15 then (if pc = 14 then some (.iconst 0, 15, 0, 0, [], .int 0) else none) else (if pc = 15 then some (.bastore, 16, 0, 0, [], .null) else none))))) else (if pc < 27 then (if pc < 22 then (if pc < 19 then (if pc = 16 then some (.iinc 1 1, 19, 1, 0, [], .int 1) else none) else (if pc = 19 then some (.goto (-17), 22, 2, 0, [], .null) else none)) else (if pc < 23 then (if pc = 22 then some (.aload_n 0, 23, 0, 0, [], .null) else none) else (if pc < 24 then (if pc = 23 then some (.iconst 0, 24, 0, 0, [], .int 0) else none) else (if pc = 24 then some (.putfield 137, 27, 10, 14, [], .null) else none)))) else (if pc < 29 then (if pc < 28 then (if pc = 27 then some (.aload_n 0, 28, 0, 0, [], .null) else none) else (if pc = 28 then some (.iconst 0, 29, 0, 0, [], .int 0) else none)) else (if pc < 32 then (if pc = 29 then some (.putfield 140, 32, 10, 13, [], .null) else none) else (if pc < 33 then (if pc = 32 then some (.iconst 0, 33, 0, 0, [], .int 0) else none) else (if pc = 33 then some (.istore_n 1, 34, 1, 0, [], .null) else none)))))) else (if pc < 52 then (if pc < 43 then (if pc < 36 then (if pc < 35 then (if pc = 34 then some (.iload_n 1, 35, 1, 0, [], .null) else none) else (if pc = 35 then some (.aload_n 0, 36, 0, 0, [], .null) else none)) else (if pc < 39 then (if pc = 36 then some (.getfield 120, 39, 10, 5, [], .null) else none) else (if pc < 42 then (if pc = 39 then some (.if_icmp .ge 28, 42, 67, 0, [], .null) else none) else (if pc = 42 then some (.aload_n 0, 43, 0, 0, [], .null) else none)))) else (if pc < 47 then (if pc < 46 then (if pc = 43 then some (.getfield 16, 46, 10, 3, [], .null) else none) else (if pc = 46 then some (.iload_n 1, 47, 1, 0, [], .null) else none)) else (if pc < 48 then (if pc = 47 then some (.baload, 48, 0, 0, [], .null) else none) else (if pc < 51 then (if pc = 48 then some (.ifCond .eq 13, 51, 61, 0, [], .null) else none) else (if pc = 51 then some (.aload_n 0, 52, 0, 0, [], .null) else none))))) else (if pc < 61 then (if pc < 56 then (if pc < 53 then (if pc = 52 then some (.aload_n 0, 53, 0, 0, [], .null) else none) else (if pc = 53 then some (.getfield 20, 56, 10, 4, [], .null) else none)) else (if pc < 57 then (if pc = 56 then some (.iload_n 1, 57, 1, 0, [], .null) else none) else (if pc < 58 then (if pc = 57 then some (.laload, 58, 0, 0, [], .null) else none) else (if pc = 58 then some (.invokevirtual 143, 61, 117, 2, [], .null) else none)))) else (if pc < 67 then (if pc < 64 then (if pc = 61 then some (.iinc 1 1, 64, 1, 0, [], .int 1) else none) else (if pc = 64 then some (.goto (-30), 67, 34, 0, [], .null) else none)) else (if pc < 68 then (if pc = 67 then some (.aload_n 0, 68, 0, 0, [], .null) else none) else (if pc < 71 then (if pc = 68 then some (.invokevirtual 147, 71, 118, 1, [], .null) else none) else (if pc = 71 then some (.return_, 72, 0, 0, [], .null) else none))))))) else none
set_option maxRecDepth 20000 in
def cdX10_reach : PCode := fun pc => if pc < 209 then (if pc < 106 then (if pc < 51 then (if pc < 24 then (if pc < 10 then (if pc < 5 then (if pc < 1 then (if pc = 0 then some (.aload_n 0, 1, 0, 0, [], .null) else none) else (if pc < 4 then (if pc = 1 then some (.invokevirtual 150, 4, 119, 1, [], .null) else none) else (if pc = 4 then some (.iconst 0, 5, 0, 0, [], .int 0) else none))) else (if pc < 7 then (if pc = 5 then some (.istore 7, 7, 7, 0, [], .null) else none) else (if pc < 9 then (if pc = 7 then some (.iload 7, 9, 7, 0, [], .null) else none) else (if pc = 9 then some (.aload_n 0, 10, 0, 0, [], .null) else none)))) else (if pc < 17 then (if pc < 13 then (if pc = 10 then some (.getfield 153, 13, 10, 25, [], .null) else none) else (if pc < 16 then (if pc = 13 then some (.if_icmp .ge 20, 16, 33, 0, [], .null) else none) else (if pc = 16 then some (.aload_n 0, 17, 0, 0, [], .null) else none))) else (if pc < 21 then (if pc < 18 then (if pc = 17 then some (.aload_n 0, 18, 0, 0, [], .null) else none) else (if pc = 18 then some (.getfield 57, 21, 10, 24, [], .null) else none)) else (if pc < 23 then (if pc = 21 then some (.iload 7, 23, 7, 0, [], .null) else none) else (if pc = 23 then some (.laload, 24, 0, 0, [], .null) else none))))) else (if pc < 38 then (if pc < 33 then (if pc < 27 then (if pc = 24 then some (.invokevirtual 143, 27, 117, 2, [], .null) else none) else (if pc < 30 then (if pc = 27 then some (.iinc 7 1, 30, 7, 0, [], .int 1) else none) else (if pc = 30 then some (.goto (-23), 33, 7, 0, [], .null) else none))) else (if pc < 34 then (if pc = 33 then some (.aload_n 0, 34, 0, 0, [], .null) else none) else (if pc < 35 then (if pc = 34 then some (.aload_n 0, 35, 0, 0, [], .null) else none) else (if pc = 35 then some (.getfield 68, 38, 10, 29, [], .null) else none)))) else (if pc < 43 then (if pc < 41 then (if pc = 38 then some (.invokevirtual 143, 41, 117, 2, [], .null) else none) else (if pc < 42 then (if pc = 41 then some (.aload_n 0, 42, 0, 0, [], .null) else none) else (if pc = 42 then some (.aload_n 0, 43, 0, 0, [], .null) else none))) else (if pc < 49 then (if pc < 46 then (if pc = 43 then some (.getfield 72, 46, 10, 30, [], .null) else none) else (if pc = 46 then some (.invokevirtual 143, 49, 117, 2, [], .null) else none)) else (if pc < 50 then (if pc = 49 then some (.aload_n 0, 50, 0, 0, [], .null) else none) else (if pc = 50 then some (.aload_n 0, 51, 0, 0, [], .null) else none)))))) else (if pc < 77 then (if pc < 63 then (if pc < 58 then (if pc < 54 then (if pc = 51 then some (.getfield 75, 54, 10, 31, [], .null) else none) else (if pc < 57 then (if pc = 54 then some (.invokevirtual 143, 57, 117, 2, [], .null) else none) else (if pc = 57 then some (.iconst 0, 58, 0, 0, [], .int 0) else none))) else (if pc < 60 then (if pc = 58 then some (.istore 7, 60, 7, 0, [], .null) else none) else (if pc < 62 then (if pc = 60 then some (.iload 7, 62, 7, 0, [], .null) else none) else (if pc = 62 then some (.aload_n 0, 63, 0, 0, [], .null) else none)))) else (if pc < 70 then (if pc < 66 then (if pc = 63 then some (.getfield 156, 66, 10, 34, [], .null) else none) else (if pc < 69 then (if pc = 66 then some (.if_icmp .ge 20, 69, 86, 0, [], .null) else none) else (if pc = 69 then some (.aload_n 0, 70, 0, 0, [], .null) else none))) else (if pc < 74 then (if pc < 71 then (if pc = 70 then some (.aload_n 0, 71, 0, 0, [], .null) else none) else (if pc = 71 then some (.getfield 81, 74, 10, 33, [], .null) else none)) else (if pc < 76 then (if pc = 74 then some (.iload 7, 76, 7, 0, [], .null) else none) else (if pc = 76 then some (.laload, 77, 0, 0, [], .null) else none))))) else (if pc < 92 then (if pc < 86 then (if pc < 80 then (if pc = 77 then some (.invokevirtual 143, 80, 117, 2, [], .null) else none) else (if pc < 83 then (if pc = 80 then some (.iinc 7 1, 83, 7, 0, [], .int 1) else none) else (if pc = 83 then some (.goto (-23), 86, 60, 0, [], .null) else none))) else (if pc < 89 then (if pc < 87 then (if pc = 86 then some (.iconst 0, 87, 0, 0, [], .int 0) else none) else (if pc = 87 then some (.istore 7, 89, 7, 0, [], .null) else none)) else (if pc < 91 then (if pc = 89 then some (.iload 7, 91, 7, 0, [], .null) else none) else (if pc = 91 then some (.aload_n 0, 92, 0, 0, [], .null) else none)))) else (if pc < 99 then (if pc < 95 then (if pc = 92 then some (.getfield 159, 95, 10, 41, [], .null) else none) else (if pc < 98 then (if pc = 95 then some (.if_icmp .ge 80, 98, 175, 0, [], .null) else none) else (if pc = 98 then some (.aload_n 0, 99, 0, 0, [], .null) else none))) else (if pc < 103 then (if pc < 100 then (if pc = 99 then some (.aload_n 0, 100, 0, 0, [], .null) else none) else (if pc = 100 then some (.getfield 87, 103, 10, 36, [], .null) else none)) else (if pc < 105 then (if pc = 103 then some (.iload 7, 105, 7, 0, [], .null) else none) else (if pc = 105 then some (.laload, 106, 0, 0, [], .null) else none))))))) else (if pc < 156 then (if pc < 131 then (if pc < 117 then (if pc < 111 then (if pc < 109 then (if pc = 106 then some (.invokevirtual 143, 109, 117, 2, [], .null) else none) else (if pc < 110 then (if pc = 109 then some (.aload_n 0, 110, 0, 0, [], .null) else none) else (if pc = 110 then some (.aload_n 0, 111, 0, 0, [], .null) else none))) else (if pc < 114 then (if pc = 111 then some (.getfield 90, 114, 10, 37, [], .null) else none) else (if pc < 116 then (if pc = 114 then some (.iload 7, 116, 7, 0, [], .null) else none) else (if pc = 116 then some (.laload, 117, 0, 0, [], .null) else none)))) else (if pc < 122 then (if pc < 120 then (if pc = 117 then some (.invokevirtual 143, 120, 117, 2, [], .null) else none) else (if pc < 121 then (if pc = 120 then some (.aload_n 0, 121, 0, 0, [], .null) else none) else (if pc = 121 then some (.aload_n 0, 122, 0, 0, [], .null) else none))) else (if pc < 127 then (if pc < 125 then (if pc = 122 then some (.getfield 93, 125, 10, 38, [], .null) else none) else (if pc = 125 then some (.iload 7, 127, 7, 0, [], .null) else none)) else (if pc < 128 then (if pc = 127 then some (.laload, 128, 0, 0, [], .null) else none) else (if pc = 128 then some (.invokevirtual 143, 131, 117, 2, [], .null) else none))))) else (if pc < 143 then (if pc < 136 then (if pc < 132 then (if pc = 131 then some (.iconst 0, 132, 0, 0, [], .int 0) else none) else (if pc < 134 then (if pc = 132 then some (.istore 8, 134, 8, 0, [], .null) else none) else (if pc = 134 then some (.iload 8, 136, 8, 0, [], .null) else none))) else (if pc < 140 then (if pc < 137 then (if pc = 136 then some (.aload_n 0, 137, 0, 0, [], .null) else none) else (if pc = 137 then some (.getfield 99, 140, 10, 40, [], .null) else none)) else (if pc < 142 then (if pc = 140 then some (.iload 7, 142, 7, 0, [], .null) else none) else (if pc = 142 then some (.iaload, 143, 0, 0, [], .null) else none)))) else (if pc < 148 then (if pc < 146 then (if pc = 143 then some (.if_icmp .ge 26, 146, 169, 0, [], .null) else none) else (if pc < 147 then (if pc = 146 then some (.aload_n 0, 147, 0, 0, [], .null) else none) else (if pc = 147 then some (.aload_n 0, 148, 0, 0, [], .null) else none))) else (if pc < 153 then (if pc < 151 then (if pc = 148 then some (.getfield 96, 151, 10, 39, [], .null) else none) else (if pc = 151 then some (.bipush 10, 153, 0, 0, [], .int 10) else none)) else (if pc < 155 then (if pc = 153 then some (.iload 7, 155, 7, 0, [], .null) else none) else (if pc = 155 then some (.imul, 156, 0, 0, [], .null) else none)))))) else (if pc < 182 then (if pc < 169 then (if pc < 160 then (if pc < 158 then (if pc = 156 then some (.iload 8, 158, 8, 0, [], .null) else none) else (if pc < 159 then (if pc = 158 then some (.iadd, 159, 0, 0, [], .null) else none) else (if pc = 159 then some (.laload, 160, 0, 0, [], .null) else none))) else (if pc < 163 then (if pc = 160 then some (.invokevirtual 143, 163, 117, 2, [], .null) else none) else (if pc < 166 then (if pc = 163 then some (.iinc 8 1, 166, 8, 0, [], .int 1) else none) else (if pc = 166 then some (.goto (-32), 169, 134, 0, [], .null) else none)))) else (if pc < 176 then (if pc < 172 then (if pc = 169 then some (.iinc 7 1, 172, 7, 0, [], .int 1) else none) else (if pc < 175 then (if pc = 172 then some (.goto (-83), 175, 89, 0, [], .null) else none) else (if pc = 175 then some (.aload_n 0, 176, 0, 0, [], .null) else none))) else (if pc < 180 then (if pc < 177 then (if pc = 176 then some (.lload_n 1, 177, 1, 0, [], .null) else none) else (if pc = 177 then some (.invokevirtual 143, 180, 117, 2, [], .null) else none)) else (if pc < 181 then (if pc = 180 then some (.aload_n 0, 181, 0, 0, [], .null) else none) else (if pc = 181 then some (.lload_n 3, 182, 3, 0, [], .null) else none))))) else (if pc < 196 then (if pc < 188 then (if pc < 185 then (if pc = 182 then some (.invokevirtual 143, 185, 117, 2, [], .null) else none) else (if pc < 186 then (if pc = 185 then some (.aload_n 0, 186, 0, 0, [], .null) else none) else (if pc = 186 then some (.lload 5, 188, 5, 0, [], .null) else none))) else (if pc < 192 then (if pc < 191 then (if pc = 188 then some (.invokevirtual 143, 191, 117, 2, [], .null) else none) else (if pc = 191 then some (.aload_n 0, 192, 0, 0, [], .null) else none)) else (if pc < 195 then (if pc = 192 then some (.invokevirtual 147, 195, 118, 1, [], .null) else none) else (if pc = 195 then some (.aload_n 0, 196, 0, 0, [], .null) else none)))) else (if pc < 203 then (if pc < 197 then (if pc = 196 then some (.aload_n 0, 197, 0, 0, [], .null) else none) else (if pc < 200 then (if pc = 197 then some (.getfield 137, 200, 10, 14, [], .null) else none) else (if pc = 200 then some (.putfield 162, 203, 10, 15, [], .null) else none))) else (if pc < 205 then (if pc < 204 then (if pc = 203 then some (.aload_n 0, 204, 0, 0, [], .null) else none) else (if pc = 204 then some (.iconst 0, 205, 0, 0, [], .int 0) else none)) else (if pc < 208 then (if pc = 205 then some (.putfield 165, 208, 10, 16, [], .null) else none) else (if pc = 208 then some (.return_, 209, 0, 0, [], .null) else none)))))))) else none
set_option maxRecDepth 20000 in
def cdX10_cons : PCode := fun pc => if pc < 116 then (if pc < 62 then (if pc < 31 then (if pc < 14 then (if pc < 8 then (if pc < 4 then (if pc < 1 then (if pc = 0 then some (.aload_n 0, 1, 0, 0, [], .null) else none) else (if pc = 1 then some (.getfield 162, 4, 10, 15, [], .null) else none)) else (if pc < 5 then (if pc = 4 then some (.aload_n 0, 5, 0, 0, [], .null) else none) else (if pc = 5 then some (.getfield 46, 8, 10, 17, [], .null) else none))) else (if pc < 12 then (if pc < 11 then (if pc = 8 then some (.if_icmp .lt 11, 11, 19, 0, [], .null) else none) else (if pc = 11 then some (.aload_n 0, 12, 0, 0, [], .null) else none)) else (if pc < 13 then (if pc = 12 then some (.lload_n 1, 13, 1, 0, [], .null) else none) else (if pc = 13 then some (.lload_n 3, 14, 3, 0, [], .null) else none)))) else (if pc < 23 then (if pc < 19 then (if pc < 16 then (if pc = 14 then some (.lload 5, 16, 5, 0, [], .null) else none) else (if pc = 16 then some (.invokevirtual 168, 19, 120, 4, [], .null) else none)) else (if pc < 20 then (if pc = 19 then some (.aload_n 0, 20, 0, 0, [], .null) else none) else (if pc = 20 then some (.getfield 162, 23, 10, 15, [], .null) else none))) else (if pc < 27 then (if pc < 24 then (if pc = 23 then some (.aload_n 0, 24, 0, 0, [], .null) else none) else (if pc = 24 then some (.getfield 46, 27, 10, 17, [], .null) else none)) else (if pc < 30 then (if pc = 27 then some (.if_icmp .lt 10, 30, 37, 0, [], .null) else none) else (if pc = 30 then some (.aload_n 0, 31, 0, 0, [], .null) else none))))) else (if pc < 46 then (if pc < 38 then (if pc < 36 then (if pc < 33 then (if pc = 31 then some (.bipush 8, 33, 0, 0, [], .int 8) else none) else (if pc = 33 then some (.invokevirtual 172, 36, 116, 2, [], .null) else none)) else (if pc < 37 then (if pc = 36 then some (.athrow, 37, 0, 0, [], .null) else none) else (if pc = 37 then some (.aload_n 0, 38, 0, 0, [], .null) else none))) else (if pc < 42 then (if pc < 41 then (if pc = 38 then some (.getfield 40, 41, 10, 11, [], .null) else none) else (if pc = 41 then some (.aload_n 0, 42, 0, 0, [], .null) else none)) else (if pc < 45 then (if pc = 42 then some (.getfield 165, 45, 10, 16, [], .null) else none) else (if pc = 45 then some (.baload, 46, 0, 0, [], .null) else none)))) else (if pc < 54 then (if pc < 50 then (if pc < 49 then (if pc = 46 then some (.ifCond .eq 16, 49, 62, 0, [], .null) else none) else (if pc = 49 then some (.aload_n 0, 50, 0, 0, [], .null) else none)) else (if pc < 51 then (if pc = 50 then some (.dup, 51, 0, 0, [], .null) else none) else (if pc = 51 then some (.getfield 165, 54, 10, 16, [], .null) else none))) else (if pc < 56 then (if pc < 55 then (if pc = 54 then some (.iconst 1, 55, 0, 0, [], .int 1) else none) else (if pc = 55 then some (.iadd, 56, 0, 0, [], .null) else none)) else (if pc < 59 then (if pc = 56 then some (.putfield 165, 59, 10, 16, [], .null) else none) else (if pc = 59 then some (.goto (-22), 62, 37, 0, [], .null) else none)))))) else (if pc < 88 then (if pc < 76 then (if pc < 69 then (if pc < 66 then (if pc < 63 then (if pc = 62 then some (.aload_n 0, 63, 0, 0, [], .null) else none) else (if pc = 63 then some (.getfield 165, 66, 10, 16, [], .null) else none)) else (if pc < 68 then (if pc = 66 then some (.istore 7, 68, 7, 0, [], .null) else none) else (if pc = 68 then some (.aload_n 0, 69, 0, 0, [], .null) else none))) else (if pc < 74 then (if pc < 72 then (if pc = 69 then some (.getfield 40, 72, 10, 11, [], .null) else none) else (if pc = 72 then some (.iload 7, 74, 7, 0, [], .null) else none)) else (if pc < 75 then (if pc = 74 then some (.iconst 1, 75, 0, 0, [], .int 1) else none) else (if pc = 75 then some (.bastore, 76, 0, 0, [], .null) else none)))) else (if pc < 82 then (if pc < 78 then (if pc < 77 then (if pc = 76 then some (.aload_n 0, 77, 0, 0, [], .null) else none) else (if pc = 77 then some (.dup, 78, 0, 0, [], .null) else none)) else (if pc < 81 then (if pc = 78 then some (.getfield 162, 81, 10, 15, [], .null) else none) else (if pc = 81 then some (.iconst 1, 82, 0, 0, [], .int 1) else none))) else (if pc < 86 then (if pc < 83 then (if pc = 82 then some (.iadd, 83, 0, 0, [], .null) else none) else (if pc = 83 then some (.putfield 162, 86, 10, 15, [], .null) else none)) else (if pc < 87 then (if pc = 86 then some (.aload_n 0, 87, 0, 0, [], .null) else none) else (if pc = 87 then some (.dup, 88, 0, 0, [], .null) else none))))) else (if pc < 103 then (if pc < 96 then (if pc < 92 then (if pc < 91 then (if pc = 88 then some (.getfield 176, 91, 10, 18, [], .null) else none) else (if pc = 91 then some (.iconst 1, 92, 0, 0, [], .int 1) else none)) else (if pc < 93 then (if pc = 92 then some (.iadd, 93, 0, 0, [], .null) else none) else (if pc = 93 then some (.putfield 176, 96, 10, 18, [], .null) else none))) else (if pc < 100 then (if pc < 97 then (if pc = 96 then some (.aload_n 0, 97, 0, 0, [], .null) else none) else (if pc = 97 then some (.getfield 34, 100, 10, 9, [], .null) else none)) else (if pc < 102 then (if pc = 100 then some (.iload 7, 102, 7, 0, [], .null) else none) else (if pc = 102 then some (.lload_n 1, 103, 1, 0, [], .null) else none)))) else (if pc < 110 then (if pc < 105 then (if pc < 104 then (if pc = 103 then some (.lastore, 104, 0, 0, [], .null) else none) else (if pc = 104 then some (.aload_n 0, 105, 0, 0, [], .null) else none)) else (if pc < 108 then (if pc = 105 then some (.getfield 37, 108, 10, 10, [], .null) else none) else (if pc = 108 then some (.iload 7, 110, 7, 0, [], .null) else none))) else (if pc < 112 then (if pc < 111 then (if pc = 110 then some (.lload_n 3, 111, 3, 0, [], .null) else none) else (if pc = 111 then some (.lastore, 112, 0, 0, [], .null) else none)) else (if pc < 114 then (if pc = 112 then some (.iload 7, 114, 7, 0, [], .null) else none) else (if pc < 115 then (if pc = 114 then some (.i2l, 115, 0, 0, [], .null) else none) else (if pc = 115 then some (.lreturn, 116, 0, 0, [], .null) else none)))))))) else none
set_option maxRecDepth 20000 in
def cdX10_headOf : PCode := fun pc => if pc < 21 then (if pc < 12 then (if pc < 7 then (if pc < 1 then (if pc = 0 then some (.lload_n 1, 1, 1, 0, [], .null) else none) else (if pc < 4 then (if pc = 1 then some (.invokestatic 133, 4, 114, 1, [], .null) else none) else (if pc = 4 then some (.ifCond .ne 9, 7, 13, 0, [], .null) else none))) else (if pc < 8 then (if pc = 7 then some (.aload_n 0, 8, 0, 0, [], .null) else none) else (if pc < 9 then (if pc = 8 then some (.iconst 5, 9, 0, 0, [], .int 5) else none) else (if pc = 9 then some (.invokevirtual 172, 12, 116, 2, [], .null) else none)))) else (if pc < 17 then (if pc < 13 then (if pc = 12 then some (.athrow, 13, 0, 0, [], .null) else none) else (if pc < 14 then (if pc = 13 then some (.aload_n 0, 14, 0, 0, [], .null) else none) else (if pc = 14 then some (.getfield 34, 17, 10, 9, [], .null) else none))) else (if pc < 19 then (if pc < 18 then (if pc = 17 then some (.lload_n 1, 18, 1, 0, [], .null) else none) else (if pc = 18 then some (.l2i, 19, 0, 0, [], .null) else none)) else (if pc < 20 then (if pc = 19 then some (.laload, 20, 0, 0, [], .null) else none) else (if pc = 20 then some (.lreturn, 21, 0, 0, [], .null) else none))))) else none
set_option maxRecDepth 20000 in
def cdX10_tailOf : PCode := fun pc => if pc < 21 then (if pc < 12 then (if pc < 7 then (if pc < 1 then (if pc = 0 then some (.lload_n 1, 1, 1, 0, [], .null) else none) else (if pc < 4 then (if pc = 1 then some (.invokestatic 133, 4, 114, 1, [], .null) else none) else (if pc = 4 then some (.ifCond .ne 9, 7, 13, 0, [], .null) else none))) else (if pc < 8 then (if pc = 7 then some (.aload_n 0, 8, 0, 0, [], .null) else none) else (if pc < 9 then (if pc = 8 then some (.iconst 5, 9, 0, 0, [], .int 5) else none) else (if pc = 9 then some (.invokevirtual 172, 12, 116, 2, [], .null) else none)))) else (if pc < 17 then (if pc < 13 then (if pc = 12 then some (.athrow, 13, 0, 0, [], .null) else none) else (if pc < 14 then (if pc = 13 then some (.aload_n 0, 14, 0, 0, [], .null) else none) else (if pc = 14 then some (.getfield 37, 17, 10, 10, [], .null) else none))) else (if pc < 19 then (if pc < 18 then (if pc = 17 then some (.lload_n 1, 18, 1, 0, [], .null) else none) else (if pc = 18 then some (.l2i, 19, 0, 0, [], .null) else none)) else (if pc < 20 then (if pc = 19 then some (.laload, 20, 0, 0, [], .null) else none) else (if pc = 20 then some (.lreturn, 21, 0, 0, [], .null) else none))))) else none
set_option maxRecDepth 20000 in
def cdX10_second : PCode := fun pc => if pc < 10 then (if pc < 3 then (if pc < 1 then (if pc = 0 then some (.aload_n 0, 1, 0, 0, [], .null) else none) else (if pc < 2 then (if pc = 1 then some (.aload_n 0, 2, 0, 0, [], .null) else none) else (if pc = 2 then some (.lload_n 1, 3, 1, 0, [], .null) else none))) else (if pc < 6 then (if pc = 3 then some (.invokevirtual 179, 6, 123, 2, [], .null) else none) else (if pc < 9 then (if pc = 6 then some (.invokevirtual 183, 9, 122, 2, [], .null) else none) else (if pc = 9 then some (.lreturn, 10, 0, 0, [], .null) else none)))) else none
set_option maxRecDepth 20000 in
def cdX10_third : PCode := fun pc => if pc < 14 then (if pc < 4 then (if pc < 2 then (if pc < 1 then (if pc = 0 then some (.aload_n 0, 1, 0, 0, [], .null) else none) else (if pc = 1 then some (.aload_n 0, 2, 0, 0, [], .null) else none)) else (if pc < 3 then (if pc = 2 then some (.aload_n 0, 3, 0, 0, [], .null) else none) else (if pc = 3 then some (.lload_n 1, 4, 1, 0, [], .null) else none))) else (if pc < 10 then (if pc < 7 then (if pc = 4 then some (.invokevirtual 179, 7, 123, 2, [], .null) else none) else (if pc = 7 then some (.invokevirtual 179, 10, 123, 2, [], .null) else none)) else (if pc < 13 then (if pc = 10 then some (.invokevirtual 183, 13, 122, 2, [], .null) else none) else (if pc = 13 then some (.lreturn, 14, 0, 0, [], .null) else none)))) else none
set_option maxRecDepth 20000 in
def cdX10_byteAt : PCode := fun pc => if pc < 23 then (if pc < 12 then (if pc < 5 then (if pc < 1 then (if pc = 0 then some (.iload_n 1, 1, 1, 0, [], .null) else none) else (if pc < 2 then (if pc = 1 then some (.aload_n 0, 2, 0, 0, [], .null) else none) else (if pc = 2 then some (.getfield 186, 5, 10, 21, [], .null) else none))) else (if pc < 8 then (if pc = 5 then some (.if_icmp .ge 16, 8, 21, 0, [], .null) else none) else (if pc < 9 then (if pc = 8 then some (.aload_n 0, 9, 0, 0, [], .null) else none) else (if pc = 9 then some (.getfield 50, 12, 10, 19, [], .null) else none)))) else (if pc < 17 then (if pc < 13 then (if pc = 12 then some (.iload_n 1, 13, 1, 0, [], .null) else none) else (if pc < 14 then (if pc = 13 then some (.baload, 14, 0, 0, [], .null) else none) else (if pc = 14 then some (.sipush 255, 17, 0, 0, [], .int 255) else none))) else (if pc < 21 then (if pc < 18 then (if pc = 17 then some (.iand, 18, 0, 0, [], .null) else none) else (if pc = 18 then some (.goto 4, 21, 22, 0, [], .null) else none)) else (if pc < 22 then (if pc = 21 then some (.iconst 0, 22, 0, 0, [], .int 0) else none) else (if pc = 22 then some (.ireturn, 23, 0, 0, [], .null) else none))))) else none
set_option maxRecDepth 20000 in
def cdX10_failsAt : PCode := fun pc => if pc < 11 then (if pc < 5 then (if pc < 1 then (if pc = 0 then some (.aload_n 0, 1, 0, 0, [], .null) else none) else (if pc < 2 then (if pc = 1 then some (.iload_n 2, 2, 2, 0, [], .null) else none) else (if pc = 2 then some (.putfield 54, 5, 10, 23, [], .null) else none))) else (if pc < 7 then (if pc < 6 then (if pc = 5 then some (.aload_n 0, 6, 0, 0, [], .null) else none) else (if pc = 6 then some (.iload_n 1, 7, 1, 0, [], .null) else none)) else (if pc < 10 then (if pc = 7 then some (.invokevirtual 172, 10, 116, 2, [], .null) else none) else (if pc = 10 then some (.areturn, 11, 0, 0, [], .null) else none)))) else none
set_option maxRecDepth 20000 in
def cdX10_isCapital : PCode := fun pc => if pc < 18 then (if pc < 9 then (if pc < 3 then (if pc < 1 then (if pc = 0 then some (.iload_n 0, 1, 0, 0, [], .null) else none) else (if pc = 1 then some (.bipush 65, 3, 0, 0, [], .int 65) else none)) else (if pc < 6 then (if pc = 3 then some (.if_icmp .lt 13, 6, 16, 0, [], .null) else none) else (if pc < 7 then (if pc = 6 then some (.iload_n 0, 7, 0, 0, [], .null) else none) else (if pc = 7 then some (.bipush 90, 9, 0, 0, [], .int 90) else none)))) else (if pc < 13 then (if pc < 12 then (if pc = 9 then some (.if_icmp .gt 7, 12, 16, 0, [], .null) else none) else (if pc = 12 then some (.iconst 1, 13, 0, 0, [], .int 1) else none)) else (if pc < 16 then (if pc = 13 then some (.goto 4, 16, 17, 0, [], .null) else none) else (if pc < 17 then (if pc = 16 then some (.iconst 0, 17, 0, 0, [], .int 0) else none) else (if pc = 17 then some (.ireturn, 18, 0, 0, [], .null) else none))))) else none
set_option maxRecDepth 20000 in
def cdX10_isDigit : PCode := fun pc => if pc < 18 then (if pc < 9 then (if pc < 3 then (if pc < 1 then (if pc = 0 then some (.iload_n 0, 1, 0, 0, [], .null) else none) else (if pc = 1 then some (.bipush 48, 3, 0, 0, [], .int 48) else none)) else (if pc < 6 then (if pc = 3 then some (.if_icmp .lt 13, 6, 16, 0, [], .null) else none) else (if pc < 7 then (if pc = 6 then some (.iload_n 0, 7, 0, 0, [], .null) else none) else (if pc = 7 then some (.bipush 57, 9, 0, 0, [], .int 57) else none)))) else (if pc < 13 then (if pc < 12 then (if pc = 9 then some (.if_icmp .gt 7, 12, 16, 0, [], .null) else none) else (if pc = 12 then some (.iconst 1, 13, 0, 0, [], .int 1) else none)) else (if pc < 16 then (if pc = 13 then some (.goto 4, 16, 17, 0, [], .null) else none) else (if pc < 17 then (if pc = 16 then some (.iconst 0, 17, 0, 0, [], .int 0) else none) else (if pc = 17 then some (.ireturn, 18, 0, 0, [], .null) else none))))) else none
set_option maxRecDepth 20000 in
def cdX10_blanks : PCode := fun pc => if pc < 51 then (if pc < 25 then (if pc < 12 then (if pc < 5 then (if pc < 1 then (if pc = 0 then some (.aload_n 0, 1, 0, 0, [], .null) else none) else (if pc < 4 then (if pc = 1 then some (.getfield 189, 4, 10, 22, [], .null) else none) else (if pc = 4 then some (.aload_n 0, 5, 0, 0, [], .null) else none))) else (if pc < 8 then (if pc = 5 then some (.getfield 186, 8, 10, 21, [], .null) else none) else (if pc < 11 then (if pc = 8 then some (.if_icmp .ge 42, 11, 50, 0, [], .null) else none) else (if pc = 11 then some (.aload_n 0, 12, 0, 0, [], .null) else none)))) else (if pc < 19 then (if pc < 13 then (if pc = 12 then some (.aload_n 0, 13, 0, 0, [], .null) else none) else (if pc < 16 then (if pc = 13 then some (.getfield 189, 16, 10, 22, [], .null) else none) else (if pc = 16 then some (.invokevirtual 192, 19, 126, 2, [], .null) else none))) else (if pc < 21 then (if pc = 19 then some (.bipush 32, 21, 0, 0, [], .int 32) else none) else (if pc < 24 then (if pc = 21 then some (.if_icmp .eq 16, 24, 37, 0, [], .null) else none) else (if pc = 24 then some (.aload_n 0, 25, 0, 0, [], .null) else none))))) else (if pc < 38 then (if pc < 32 then (if pc < 26 then (if pc = 25 then some (.aload_n 0, 26, 0, 0, [], .null) else none) else (if pc < 29 then (if pc = 26 then some (.getfield 189, 29, 10, 22, [], .null) else none) else (if pc = 29 then some (.invokevirtual 192, 32, 126, 2, [], .null) else none))) else (if pc < 34 then (if pc = 32 then some (.bipush 10, 34, 0, 0, [], .int 10) else none) else (if pc < 37 then (if pc = 34 then some (.if_icmp .ne 16, 37, 50, 0, [], .null) else none) else (if pc = 37 then some (.aload_n 0, 38, 0, 0, [], .null) else none)))) else (if pc < 43 then (if pc < 39 then (if pc = 38 then some (.dup, 39, 0, 0, [], .null) else none) else (if pc < 42 then (if pc = 39 then some (.getfield 189, 42, 10, 22, [], .null) else none) else (if pc = 42 then some (.iconst 1, 43, 0, 0, [], .int 1) else none))) else (if pc < 47 then (if pc < 44 then (if pc = 43 then some (.iadd, 44, 0, 0, [], .null) else none) else (if pc = 44 then some (.putfield 189, 47, 10, 22, [], .null) else none)) else (if pc < 50 then (if pc = 47 then some (.goto (-47), 50, 0, 0, [], .null) else none) else (if pc = 50 then some (.return_, 51, 0, 0, [], .null) else none)))))) else none
set_option maxRecDepth 20000 in
def cdX10_symbol : PCode := fun pc => if pc < 239 then (if pc < 120 then (if pc < 62 then (if pc < 34 then (if pc < 16 then (if pc < 6 then (if pc < 4 then (if pc < 1 then (if pc = 0 then some (.aload_n 0, 1, 0, 0, [], .null) else none) else (if pc = 1 then some (.getfield 189, 4, 10, 22, [], .null) else none)) else (if pc < 5 then (if pc = 4 then some (.istore_n 1, 5, 1, 0, [], .null) else none) else (if pc = 5 then some (.aload_n 0, 6, 0, 0, [], .null) else none))) else (if pc < 10 then (if pc < 7 then (if pc = 6 then some (.aload_n 0, 7, 0, 0, [], .null) else none) else (if pc = 7 then some (.getfield 189, 10, 10, 22, [], .null) else none)) else (if pc < 13 then (if pc = 10 then some (.invokevirtual 192, 13, 126, 2, [], .null) else none) else (if pc = 13 then some (.invokestatic 196, 16, 128, 1, [], .null) else none)))) else (if pc < 24 then (if pc < 20 then (if pc < 19 then (if pc = 16 then some (.ifCond .ne 17, 19, 33, 0, [], .null) else none) else (if pc = 19 then some (.aload_n 0, 20, 0, 0, [], .null) else none)) else (if pc < 21 then (if pc = 20 then some (.aload_n 0, 21, 0, 0, [], .null) else none) else (if pc = 21 then some (.getfield 189, 24, 10, 22, [], .null) else none))) else (if pc < 30 then (if pc < 27 then (if pc = 24 then some (.invokevirtual 192, 27, 126, 2, [], .null) else none) else (if pc = 27 then some (.invokestatic 200, 30, 129, 1, [], .null) else none)) else (if pc < 33 then (if pc = 30 then some (.ifCond .eq 16, 33, 46, 0, [], .null) else none) else (if pc = 33 then some (.aload_n 0, 34, 0, 0, [], .null) else none))))) else (if pc < 50 then (if pc < 40 then (if pc < 38 then (if pc < 35 then (if pc = 34 then some (.dup, 35, 0, 0, [], .null) else none) else (if pc = 35 then some (.getfield 189, 38, 10, 22, [], .null) else none)) else (if pc < 39 then (if pc = 38 then some (.iconst 1, 39, 0, 0, [], .int 1) else none) else (if pc = 39 then some (.iadd, 40, 0, 0, [], .null) else none))) else (if pc < 46 then (if pc < 43 then (if pc = 40 then some (.putfield 189, 43, 10, 22, [], .null) else none) else (if pc = 43 then some (.goto (-38), 46, 5, 0, [], .null) else none)) else (if pc < 47 then (if pc = 46 then some (.aload_n 0, 47, 0, 0, [], .null) else none) else (if pc = 47 then some (.getfield 189, 50, 10, 22, [], .null) else none)))) else (if pc < 54 then (if pc < 52 then (if pc < 51 then (if pc = 50 then some (.iload_n 1, 51, 1, 0, [], .null) else none) else (if pc = 51 then some (.isub, 52, 0, 0, [], .null) else none)) else (if pc < 53 then (if pc = 52 then some (.istore_n 2, 53, 2, 0, [], .null) else none) else (if pc = 53 then some (.iload_n 2, 54, 2, 0, [], .null) else none))) else (if pc < 59 then (if pc < 56 then (if pc = 54 then some (.bipush 10, 56, 0, 0, [], .int 10) else none) else (if pc = 56 then some (.if_icmp .le 10, 59, 66, 0, [], .null) else none)) else (if pc < 60 then (if pc = 59 then some (.aload_n 0, 60, 0, 0, [], .null) else none) else (if pc < 61 then (if pc = 60 then some (.iconst 2, 61, 0, 0, [], .int 2) else none) else (if pc = 61 then some (.iload_n 1, 62, 1, 0, [], .null) else none))))))) else (if pc < 91 then (if pc < 76 then (if pc < 68 then (if pc < 66 then (if pc < 65 then (if pc = 62 then some (.invokevirtual 203, 65, 127, 3, [], .null) else none) else (if pc = 65 then some (.athrow, 66, 0, 0, [], .null) else none)) else (if pc < 67 then (if pc = 66 then some (.iconst 0, 67, 0, 0, [], .int 0) else none) else (if pc = 67 then some (.istore_n 3, 68, 3, 0, [], .null) else none))) else (if pc < 70 then (if pc < 69 then (if pc = 68 then some (.iload_n 3, 69, 3, 0, [], .null) else none) else (if pc = 69 then some (.aload_n 0, 70, 0, 0, [], .null) else none)) else (if pc < 73 then (if pc = 70 then some (.getfield 120, 73, 10, 5, [], .null) else none) else (if pc = 73 then some (.if_icmp .ge 88, 76, 161, 0, [], .null) else none)))) else (if pc < 82 then (if pc < 80 then (if pc < 77 then (if pc = 76 then some (.aload_n 0, 77, 0, 0, [], .null) else none) else (if pc = 77 then some (.getfield 13, 80, 10, 2, [], .null) else none)) else (if pc < 81 then (if pc = 80 then some (.iload_n 3, 81, 3, 0, [], .null) else none) else (if pc = 81 then some (.iaload, 82, 0, 0, [], .null) else none))) else (if pc < 86 then (if pc < 83 then (if pc = 82 then some (.iload_n 2, 83, 2, 0, [], .null) else none) else (if pc = 83 then some (.if_icmp .ne 7, 86, 90, 0, [], .null) else none)) else (if pc < 87 then (if pc = 86 then some (.iconst 1, 87, 0, 0, [], .int 1) else none) else (if pc < 90 then (if pc = 87 then some (.goto 4, 90, 91, 0, [], .null) else none) else (if pc = 90 then some (.iconst 0, 91, 0, 0, [], .int 0) else none)))))) else (if pc < 107 then (if pc < 98 then (if pc < 94 then (if pc < 93 then (if pc = 91 then some (.istore 4, 93, 4, 0, [], .null) else none) else (if pc = 93 then some (.iconst 0, 94, 0, 0, [], .int 0) else none)) else (if pc < 96 then (if pc = 94 then some (.istore 5, 96, 5, 0, [], .null) else none) else (if pc = 96 then some (.iload 5, 98, 5, 0, [], .null) else none))) else (if pc < 102 then (if pc < 99 then (if pc = 98 then some (.iload_n 2, 99, 2, 0, [], .null) else none) else (if pc = 99 then some (.if_icmp .ge 44, 102, 143, 0, [], .null) else none)) else (if pc < 104 then (if pc = 102 then some (.iload 4, 104, 4, 0, [], .null) else none) else (if pc = 104 then some (.ifCond .eq 39, 107, 143, 0, [], .null) else none)))) else (if pc < 114 then (if pc < 111 then (if pc < 108 then (if pc = 107 then some (.aload_n 0, 108, 0, 0, [], .null) else none) else (if pc = 108 then some (.getfield 7, 111, 10, 1, [], .null) else none)) else (if pc < 113 then (if pc = 111 then some (.bipush 10, 113, 0, 0, [], .int 10) else none) else (if pc = 113 then some (.iload_n 3, 114, 3, 0, [], .null) else none))) else (if pc < 117 then (if pc < 115 then (if pc = 114 then some (.imul, 115, 0, 0, [], .null) else none) else (if pc = 115 then some (.iload 5, 117, 5, 0, [], .null) else none)) else (if pc < 118 then (if pc = 117 then some (.iadd, 118, 0, 0, [], .null) else none) else (if pc < 119 then (if pc = 118 then some (.iaload, 119, 0, 0, [], .null) else none) else (if pc = 119 then some (.aload_n 0, 120, 0, 0, [], .null) else none)))))))) else (if pc < 182 then (if pc < 153 then (if pc < 135 then (if pc < 127 then (if pc < 123 then (if pc < 121 then (if pc = 120 then some (.iload_n 1, 121, 1, 0, [], .null) else none) else (if pc = 121 then some (.iload 5, 123, 5, 0, [], .null) else none)) else (if pc < 124 then (if pc = 123 then some (.iadd, 124, 0, 0, [], .null) else none) else (if pc = 124 then some (.invokevirtual 192, 127, 126, 2, [], .null) else none))) else (if pc < 131 then (if pc < 130 then (if pc = 127 then some (.if_icmp .ne 7, 130, 134, 0, [], .null) else none) else (if pc = 130 then some (.iconst 1, 131, 0, 0, [], .int 1) else none)) else (if pc < 134 then (if pc = 131 then some (.goto 4, 134, 135, 0, [], .null) else none) else (if pc = 134 then some (.iconst 0, 135, 0, 0, [], .int 0) else none)))) else (if pc < 145 then (if pc < 140 then (if pc < 137 then (if pc = 135 then some (.istore 4, 137, 4, 0, [], .null) else none) else (if pc = 137 then some (.iinc 5 1, 140, 5, 0, [], .int 1) else none)) else (if pc < 143 then (if pc = 140 then some (.goto (-44), 143, 96, 0, [], .null) else none) else (if pc = 143 then some (.iload 4, 145, 4, 0, [], .null) else none))) else (if pc < 151 then (if pc < 148 then (if pc = 145 then some (.ifCond .eq 10, 148, 155, 0, [], .null) else none) else (if pc = 148 then some (.ldc2_w 66, 151, 0, 0, [], .long (-1)) else none)) else (if pc < 152 then (if pc = 151 then some (.iload_n 3, 152, 3, 0, [], .null) else none) else (if pc = 152 then some (.i2l, 153, 0, 0, [], .null) else none))))) else (if pc < 171 then (if pc < 161 then (if pc < 155 then (if pc < 154 then (if pc = 153 then some (.lsub, 154, 0, 0, [], .null) else none) else (if pc = 154 then some (.lreturn, 155, 0, 0, [], .null) else none)) else (if pc < 158 then (if pc = 155 then some (.iinc 3 1, 158, 3, 0, [], .int 1) else none) else (if pc = 158 then some (.goto (-90), 161, 68, 0, [], .null) else none))) else (if pc < 165 then (if pc < 162 then (if pc = 161 then some (.aload_n 0, 162, 0, 0, [], .null) else none) else (if pc = 162 then some (.getfield 120, 165, 10, 5, [], .null) else none)) else (if pc < 168 then (if pc = 165 then some (.sipush 300, 168, 0, 0, [], .int 300) else none) else (if pc = 168 then some (.if_icmp .ne 10, 171, 178, 0, [], .null) else none)))) else (if pc < 177 then (if pc < 173 then (if pc < 172 then (if pc = 171 then some (.aload_n 0, 172, 0, 0, [], .null) else none) else (if pc = 172 then some (.iconst 3, 173, 0, 0, [], .int 3) else none)) else (if pc < 174 then (if pc = 173 then some (.iload_n 1, 174, 1, 0, [], .null) else none) else (if pc = 174 then some (.invokevirtual 203, 177, 127, 3, [], .null) else none))) else (if pc < 179 then (if pc < 178 then (if pc = 177 then some (.athrow, 178, 0, 0, [], .null) else none) else (if pc = 178 then some (.iconst 0, 179, 0, 0, [], .int 0) else none)) else (if pc < 180 then (if pc = 179 then some (.istore_n 3, 180, 3, 0, [], .null) else none) else (if pc < 181 then (if pc = 180 then some (.iload_n 3, 181, 3, 0, [], .null) else none) else (if pc = 181 then some (.iload_n 2, 182, 2, 0, [], .null) else none))))))) else (if pc < 212 then (if pc < 197 then (if pc < 191 then (if pc < 186 then (if pc < 185 then (if pc = 182 then some (.if_icmp .ge 30, 185, 212, 0, [], .null) else none) else (if pc = 185 then some (.aload_n 0, 186, 0, 0, [], .null) else none)) else (if pc < 189 then (if pc = 186 then some (.getfield 7, 189, 10, 1, [], .null) else none) else (if pc = 189 then some (.bipush 10, 191, 0, 0, [], .int 10) else none))) else (if pc < 195 then (if pc < 192 then (if pc = 191 then some (.aload_n 0, 192, 0, 0, [], .null) else none) else (if pc = 192 then some (.getfield 120, 195, 10, 5, [], .null) else none)) else (if pc < 196 then (if pc = 195 then some (.imul, 196, 0, 0, [], .null) else none) else (if pc = 196 then some (.iload_n 3, 197, 3, 0, [], .null) else none)))) else (if pc < 201 then (if pc < 199 then (if pc < 198 then (if pc = 197 then some (.iadd, 198, 0, 0, [], .null) else none) else (if pc = 198 then some (.aload_n 0, 199, 0, 0, [], .null) else none)) else (if pc < 200 then (if pc = 199 then some (.iload_n 1, 200, 1, 0, [], .null) else none) else (if pc = 200 then some (.iload_n 3, 201, 3, 0, [], .null) else none))) else (if pc < 205 then (if pc < 202 then (if pc = 201 then some (.iadd, 202, 0, 0, [], .null) else none) else (if pc = 202 then some (.invokevirtual 192, 205, 126, 2, [], .null) else none)) else (if pc < 206 then (if pc = 205 then some (.iastore, 206, 0, 0, [], .null) else none) else (if pc < 209 then (if pc = 206 then some (.iinc 3 1, 209, 3, 0, [], .int 1) else none) else (if pc = 209 then some (.goto (-29), 212, 180, 0, [], .null) else none)))))) else (if pc < 224 then (if pc < 220 then (if pc < 216 then (if pc < 213 then (if pc = 212 then some (.aload_n 0, 213, 0, 0, [], .null) else none) else (if pc = 213 then some (.getfield 13, 216, 10, 2, [], .null) else none)) else (if pc < 217 then (if pc = 216 then some (.aload_n 0, 217, 0, 0, [], .null) else none) else (if pc = 217 then some (.getfield 120, 220, 10, 5, [], .null) else none))) else (if pc < 222 then (if pc < 221 then (if pc = 220 then some (.iload_n 2, 221, 2, 0, [], .null) else none) else (if pc = 221 then some (.iastore, 222, 0, 0, [], .null) else none)) else (if pc < 223 then (if pc = 222 then some (.aload_n 0, 223, 0, 0, [], .null) else none) else (if pc = 223 then some (.dup, 224, 0, 0, [], .null) else none)))) else (if pc < 232 then (if pc < 228 then (if pc < 227 then (if pc = 224 then some (.getfield 120, 227, 10, 5, [], .null) else none) else (if pc = 227 then some (.iconst 1, 228, 0, 0, [], .int 1) else none)) else (if pc < 229 then (if pc = 228 then some (.iadd, 229, 0, 0, [], .null) else none) else (if pc = 229 then some (.putfield 120, 232, 10, 5, [], .null) else none))) else (if pc < 236 then (if pc < 233 then (if pc = 232 then some (.aload_n 0, 233, 0, 0, [], .null) else none) else (if pc = 233 then some (.getfield 120, 236, 10, 5, [], .null) else none)) else (if pc < 237 then (if pc = 236 then some (.i2l, 237, 0, 0, [], .null) else none) else (if pc < 238 then (if pc = 237 then some (.lneg, 238, 0, 0, [], .null) else none) else (if pc = 238 then some (.lreturn, 239, 0, 0, [], .null) else none))))))))) else none
set_option maxRecDepth 20000 in
def cdX10_number : PCode := fun pc => if pc < 139 then (if pc < 72 then (if pc < 34 then (if pc < 18 then (if pc < 6 then (if pc < 4 then (if pc < 1 then (if pc = 0 then some (.aload_n 0, 1, 0, 0, [], .null) else none) else (if pc = 1 then some (.getfield 189, 4, 10, 22, [], .null) else none)) else (if pc < 5 then (if pc = 4 then some (.istore_n 1, 5, 1, 0, [], .null) else none) else (if pc = 5 then some (.aload_n 0, 6, 0, 0, [], .null) else none))) else (if pc < 10 then (if pc < 7 then (if pc = 6 then some (.aload_n 0, 7, 0, 0, [], .null) else none) else (if pc = 7 then some (.getfield 189, 10, 10, 22, [], .null) else none)) else (if pc < 13 then (if pc = 10 then some (.invokevirtual 192, 13, 126, 2, [], .null) else none) else (if pc < 15 then (if pc = 13 then some (.bipush 45, 15, 0, 0, [], .int 45) else none) else (if pc = 15 then some (.if_icmp .ne 7, 18, 22, 0, [], .null) else none))))) else (if pc < 25 then (if pc < 22 then (if pc < 19 then (if pc = 18 then some (.iconst 1, 19, 0, 0, [], .int 1) else none) else (if pc = 19 then some (.goto 4, 22, 23, 0, [], .null) else none)) else (if pc < 23 then (if pc = 22 then some (.iconst 0, 23, 0, 0, [], .int 0) else none) else (if pc < 24 then (if pc = 23 then some (.istore_n 2, 24, 2, 0, [], .null) else none) else (if pc = 24 then some (.iload_n 2, 25, 2, 0, [], .null) else none)))) else (if pc < 29 then (if pc < 28 then (if pc = 25 then some (.ifCond .eq 13, 28, 38, 0, [], .null) else none) else (if pc = 28 then some (.aload_n 0, 29, 0, 0, [], .null) else none)) else (if pc < 30 then (if pc = 29 then some (.dup, 30, 0, 0, [], .null) else none) else (if pc < 33 then (if pc = 30 then some (.getfield 189, 33, 10, 22, [], .null) else none) else (if pc = 33 then some (.iconst 1, 34, 0, 0, [], .int 1) else none)))))) else (if pc < 54 then (if pc < 41 then (if pc < 38 then (if pc < 35 then (if pc = 34 then some (.iadd, 35, 0, 0, [], .null) else none) else (if pc = 35 then some (.putfield 189, 38, 10, 22, [], .null) else none)) else (if pc < 39 then (if pc = 38 then some (.lconst 0, 39, 0, 0, [], .long 0) else none) else (if pc < 40 then (if pc = 39 then some (.lstore_n 3, 40, 3, 0, [], .null) else none) else (if pc = 40 then some (.aload_n 0, 41, 0, 0, [], .null) else none)))) else (if pc < 45 then (if pc < 42 then (if pc = 41 then some (.aload_n 0, 42, 0, 0, [], .null) else none) else (if pc = 42 then some (.getfield 189, 45, 10, 22, [], .null) else none)) else (if pc < 48 then (if pc = 45 then some (.invokevirtual 192, 48, 126, 2, [], .null) else none) else (if pc < 51 then (if pc = 48 then some (.invokestatic 200, 51, 129, 1, [], .null) else none) else (if pc = 51 then some (.ifCond .eq 48, 54, 99, 0, [], .null) else none))))) else (if pc < 63 then (if pc < 58 then (if pc < 55 then (if pc = 54 then some (.lload_n 3, 55, 3, 0, [], .null) else none) else (if pc = 55 then some (.ldc2_w 207, 58, 0, 0, [], .long 3000000000) else none)) else (if pc < 59 then (if pc = 58 then some (.lcmp, 59, 0, 0, [], .null) else none) else (if pc < 62 then (if pc = 59 then some (.ifCond .le 7, 62, 66, 0, [], .null) else none) else (if pc = 62 then some (.lload_n 3, 63, 3, 0, [], .null) else none)))) else (if pc < 69 then (if pc < 66 then (if pc = 63 then some (.goto 22, 66, 85, 0, [], .null) else none) else (if pc = 66 then some (.ldc2_w 209, 69, 0, 0, [], .long 10) else none)) else (if pc < 70 then (if pc = 69 then some (.lload_n 3, 70, 3, 0, [], .null) else none) else (if pc < 71 then (if pc = 70 then some (.lmul, 71, 0, 0, [], .null) else none) else (if pc = 71 then some (.aload_n 0, 72, 0, 0, [], .null) else none))))))) else (if pc < 105 then (if pc < 87 then (if pc < 80 then (if pc < 76 then (if pc < 73 then (if pc = 72 then some (.aload_n 0, 73, 0, 0, [], .null) else none) else (if pc = 73 then some (.getfield 189, 76, 10, 22, [], .null) else none)) else (if pc < 79 then (if pc = 76 then some (.invokevirtual 192, 79, 126, 2, [], .null) else none) else (if pc = 79 then some (.i2l, 80, 0, 0, [], .null) else none))) else (if pc < 84 then (if pc < 81 then (if pc = 80 then some (.ladd, 81, 0, 0, [], .null) else none) else (if pc = 81 then some (.ldc2_w 211, 84, 0, 0, [], .long 48) else none)) else (if pc < 85 then (if pc = 84 then some (.lsub, 85, 0, 0, [], .null) else none) else (if pc < 86 then (if pc = 85 then some (.lstore_n 3, 86, 3, 0, [], .null) else none) else (if pc = 86 then some (.aload_n 0, 87, 0, 0, [], .null) else none))))) else (if pc < 96 then (if pc < 91 then (if pc < 88 then (if pc = 87 then some (.dup, 88, 0, 0, [], .null) else none) else (if pc = 88 then some (.getfield 189, 91, 10, 22, [], .null) else none)) else (if pc < 92 then (if pc = 91 then some (.iconst 1, 92, 0, 0, [], .int 1) else none) else (if pc < 93 then (if pc = 92 then some (.iadd, 93, 0, 0, [], .null) else none) else (if pc = 93 then some (.putfield 189, 96, 10, 22, [], .null) else none)))) else (if pc < 100 then (if pc < 99 then (if pc = 96 then some (.goto (-56), 99, 40, 0, [], .null) else none) else (if pc = 99 then some (.iload_n 2, 100, 2, 0, [], .null) else none)) else (if pc < 103 then (if pc = 100 then some (.ifCond .eq 8, 103, 108, 0, [], .null) else none) else (if pc < 104 then (if pc = 103 then some (.lload_n 3, 104, 3, 0, [], .null) else none) else (if pc = 104 then some (.lneg, 105, 0, 0, [], .null) else none)))))) else (if pc < 123 then (if pc < 114 then (if pc < 109 then (if pc < 108 then (if pc = 105 then some (.goto 4, 108, 109, 0, [], .null) else none) else (if pc = 108 then some (.lload_n 3, 109, 3, 0, [], .null) else none)) else (if pc < 110 then (if pc = 109 then some (.lstore_n 3, 110, 3, 0, [], .null) else none) else (if pc < 111 then (if pc = 110 then some (.lload_n 3, 111, 3, 0, [], .null) else none) else (if pc = 111 then some (.ldc2_w 213, 114, 0, 0, [], .long (-2147483648)) else none)))) else (if pc < 118 then (if pc < 115 then (if pc = 114 then some (.lcmp, 115, 0, 0, [], .null) else none) else (if pc = 115 then some (.ifCond .lt 11, 118, 126, 0, [], .null) else none)) else (if pc < 119 then (if pc = 118 then some (.lload_n 3, 119, 3, 0, [], .null) else none) else (if pc < 122 then (if pc = 119 then some (.ldc2_w 215, 122, 0, 0, [], .long 2147483647) else none) else (if pc = 122 then some (.lcmp, 123, 0, 0, [], .null) else none))))) else (if pc < 132 then (if pc < 127 then (if pc < 126 then (if pc = 123 then some (.ifCond .le 10, 126, 133, 0, [], .null) else none) else (if pc = 126 then some (.aload_n 0, 127, 0, 0, [], .null) else none)) else (if pc < 128 then (if pc = 127 then some (.iconst 2, 128, 0, 0, [], .int 2) else none) else (if pc < 129 then (if pc = 128 then some (.iload_n 1, 129, 1, 0, [], .null) else none) else (if pc = 129 then some (.invokevirtual 203, 132, 127, 3, [], .null) else none)))) else (if pc < 136 then (if pc < 133 then (if pc = 132 then some (.athrow, 133, 0, 0, [], .null) else none) else (if pc = 133 then some (.ldc2_w 217, 136, 0, 0, [], .long 1099511627776) else none)) else (if pc < 137 then (if pc = 136 then some (.lload_n 3, 137, 3, 0, [], .null) else none) else (if pc < 138 then (if pc = 137 then some (.ladd, 138, 0, 0, [], .null) else none) else (if pc = 138 then some (.lreturn, 139, 0, 0, [], .null) else none)))))))) else none
set_option maxRecDepth 20000 in
def cdX10_isAtom : PCode := fun pc => if pc < 51 then (if pc < 26 then (if pc < 10 then (if pc < 5 then (if pc < 1 then (if pc = 0 then some (.aload_n 0, 1, 0, 0, [], .null) else none) else (if pc < 2 then (if pc = 1 then some (.aload_n 0, 2, 0, 0, [], .null) else none) else (if pc = 2 then some (.getfield 189, 5, 10, 22, [], .null) else none))) else (if pc < 8 then (if pc = 5 then some (.invokevirtual 192, 8, 126, 2, [], .null) else none) else (if pc < 9 then (if pc = 8 then some (.istore_n 1, 9, 1, 0, [], .null) else none) else (if pc = 9 then some (.iload_n 1, 10, 1, 0, [], .null) else none)))) else (if pc < 17 then (if pc < 13 then (if pc = 10 then some (.invokestatic 196, 13, 128, 1, [], .null) else none) else (if pc < 16 then (if pc = 13 then some (.ifCond .ne 32, 16, 45, 0, [], .null) else none) else (if pc = 16 then some (.iload_n 1, 17, 1, 0, [], .null) else none))) else (if pc < 23 then (if pc < 20 then (if pc = 17 then some (.invokestatic 200, 20, 129, 1, [], .null) else none) else (if pc = 20 then some (.ifCond .ne 25, 23, 45, 0, [], .null) else none)) else (if pc < 24 then (if pc = 23 then some (.iload_n 1, 24, 1, 0, [], .null) else none) else (if pc = 24 then some (.bipush 45, 26, 0, 0, [], .int 45) else none))))) else (if pc < 36 then (if pc < 31 then (if pc < 29 then (if pc = 26 then some (.if_icmp .ne 23, 29, 49, 0, [], .null) else none) else (if pc < 30 then (if pc = 29 then some (.aload_n 0, 30, 0, 0, [], .null) else none) else (if pc = 30 then some (.aload_n 0, 31, 0, 0, [], .null) else none))) else (if pc < 34 then (if pc = 31 then some (.getfield 189, 34, 10, 22, [], .null) else none) else (if pc < 35 then (if pc = 34 then some (.iconst 1, 35, 0, 0, [], .int 1) else none) else (if pc = 35 then some (.iadd, 36, 0, 0, [], .null) else none)))) else (if pc < 45 then (if pc < 39 then (if pc = 36 then some (.invokevirtual 192, 39, 126, 2, [], .null) else none) else (if pc < 42 then (if pc = 39 then some (.invokestatic 200, 42, 129, 1, [], .null) else none) else (if pc = 42 then some (.ifCond .eq 7, 45, 49, 0, [], .null) else none))) else (if pc < 49 then (if pc < 46 then (if pc = 45 then some (.iconst 1, 46, 0, 0, [], .int 1) else none) else (if pc = 46 then some (.goto 4, 49, 50, 0, [], .null) else none)) else (if pc < 50 then (if pc = 49 then some (.iconst 0, 50, 0, 0, [], .int 0) else none) else (if pc = 50 then some (.ireturn, 51, 0, 0, [], .null) else none)))))) else none
set_option maxRecDepth 20000 in
def cdX10_mayBegin : PCode := fun pc => if pc < 28 then (if pc < 16 then (if pc < 8 then (if pc < 4 then (if pc < 1 then (if pc = 0 then some (.aload_n 0, 1, 0, 0, [], .null) else none) else (if pc = 1 then some (.getfield 219, 4, 10, 28, [], .null) else none)) else (if pc < 7 then (if pc = 4 then some (.ifCond .eq 18, 7, 22, 0, [], .null) else none) else (if pc = 7 then some (.aload_n 0, 8, 0, 0, [], .null) else none))) else (if pc < 12 then (if pc < 11 then (if pc = 8 then some (.getfield 63, 11, 10, 27, [], .null) else none) else (if pc = 11 then some (.aload_n 0, 12, 0, 0, [], .null) else none)) else (if pc < 15 then (if pc = 12 then some (.getfield 219, 15, 10, 28, [], .null) else none) else (if pc = 15 then some (.iconst 1, 16, 0, 0, [], .int 1) else none)))) else (if pc < 22 then (if pc < 18 then (if pc < 17 then (if pc = 16 then some (.isub, 17, 0, 0, [], .null) else none) else (if pc = 17 then some (.iaload, 18, 0, 0, [], .null) else none)) else (if pc < 19 then (if pc = 18 then some (.iconst 4, 19, 0, 0, [], .int 4) else none) else (if pc = 19 then some (.if_icmp .eq 7, 22, 26, 0, [], .null) else none))) else (if pc < 26 then (if pc < 23 then (if pc = 22 then some (.iconst 1, 23, 0, 0, [], .int 1) else none) else (if pc = 23 then some (.goto 4, 26, 27, 0, [], .null) else none)) else (if pc < 27 then (if pc = 26 then some (.iconst 0, 27, 0, 0, [], .int 0) else none) else (if pc = 27 then some (.ireturn, 28, 0, 0, [], .null) else none))))) else none
set_option maxRecDepth 20000 in
def cdX10_reads : PCode := fun pc => if pc < 377 then (if pc < 188 then (if pc < 93 then (if pc < 45 then (if pc < 22 then (if pc < 10 then (if pc < 5 then (if pc < 1 then (if pc = 0 then some (.aload_n 0, 1, 0, 0, [], .null) else none) else (if pc < 2 then (if pc = 1 then some (.iconst 0, 2, 0, 0, [], .int 0) else none) else (if pc = 2 then some (.putfield 153, 5, 10, 25, [], .null) else none))) else (if pc < 6 then (if pc = 5 then some (.aload_n 0, 6, 0, 0, [], .null) else none) else (if pc < 7 then (if pc = 6 then some (.iconst 0, 7, 0, 0, [], .int 0) else none) else (if pc = 7 then some (.putfield 219, 10, 10, 28, [], .null) else none)))) else (if pc < 15 then (if pc < 11 then (if pc = 10 then some (.aload_n 0, 11, 0, 0, [], .null) else none) else (if pc < 14 then (if pc = 11 then some (.invokevirtual 222, 14, 130, 1, [], .null) else none) else (if pc = 14 then some (.aload_n 0, 15, 0, 0, [], .null) else none))) else (if pc < 16 then (if pc = 15 then some (.aload_n 0, 16, 0, 0, [], .null) else none) else (if pc < 19 then (if pc = 16 then some (.getfield 189, 19, 10, 22, [], .null) else none) else (if pc = 19 then some (.invokevirtual 192, 22, 126, 2, [], .null) else none))))) else (if pc < 32 then (if pc < 27 then (if pc < 23 then (if pc = 22 then some (.istore_n 1, 23, 1, 0, [], .null) else none) else (if pc < 24 then (if pc = 23 then some (.aload_n 0, 24, 0, 0, [], .null) else none) else (if pc = 24 then some (.getfield 189, 27, 10, 22, [], .null) else none))) else (if pc < 28 then (if pc = 27 then some (.istore_n 2, 28, 2, 0, [], .null) else none) else (if pc < 29 then (if pc = 28 then some (.aload_n 0, 29, 0, 0, [], .null) else none) else (if pc = 29 then some (.getfield 189, 32, 10, 22, [], .null) else none)))) else (if pc < 39 then (if pc < 33 then (if pc = 32 then some (.aload_n 0, 33, 0, 0, [], .null) else none) else (if pc < 36 then (if pc = 33 then some (.getfield 186, 36, 10, 21, [], .null) else none) else (if pc = 36 then some (.if_icmp .ne 13, 39, 49, 0, [], .null) else none))) else (if pc < 41 then (if pc < 40 then (if pc = 39 then some (.aload_n 0, 40, 0, 0, [], .null) else none) else (if pc = 40 then some (.iconst 1, 41, 0, 0, [], .int 1) else none)) else (if pc < 42 then (if pc = 41 then some (.aload_n 0, 42, 0, 0, [], .null) else none) else (if pc = 42 then some (.getfield 189, 45, 10, 22, [], .null) else none)))))) else (if pc < 70 then (if pc < 56 then (if pc < 50 then (if pc < 48 then (if pc = 45 then some (.invokevirtual 203, 48, 127, 3, [], .null) else none) else (if pc < 49 then (if pc = 48 then some (.athrow, 49, 0, 0, [], .null) else none) else (if pc = 49 then some (.iload_n 1, 50, 1, 0, [], .null) else none))) else (if pc < 52 then (if pc = 50 then some (.bipush 41, 52, 0, 0, [], .int 41) else none) else (if pc < 55 then (if pc = 52 then some (.if_icmp .ne 11, 55, 63, 0, [], .null) else none) else (if pc = 55 then some (.aload_n 0, 56, 0, 0, [], .null) else none)))) else (if pc < 63 then (if pc < 59 then (if pc = 56 then some (.invokevirtual 225, 59, 137, 1, [], .null) else none) else (if pc < 60 then (if pc = 59 then some (.lstore_n 3, 60, 3, 0, [], .null) else none) else (if pc = 60 then some (.goto 213, 63, 273, 0, [], .null) else none))) else (if pc < 66 then (if pc < 64 then (if pc = 63 then some (.iload_n 1, 64, 1, 0, [], .null) else none) else (if pc = 64 then some (.bipush 46, 66, 0, 0, [], .int 46) else none)) else (if pc < 69 then (if pc = 66 then some (.if_icmp .ne 60, 69, 126, 0, [], .null) else none) else (if pc = 69 then some (.aload_n 0, 70, 0, 0, [], .null) else none))))) else (if pc < 84 then (if pc < 77 then (if pc < 73 then (if pc = 70 then some (.getfield 219, 73, 10, 28, [], .null) else none) else (if pc < 76 then (if pc = 73 then some (.ifCond .eq 18, 76, 91, 0, [], .null) else none) else (if pc = 76 then some (.aload_n 0, 77, 0, 0, [], .null) else none))) else (if pc < 80 then (if pc = 77 then some (.getfield 63, 80, 10, 27, [], .null) else none) else (if pc < 81 then (if pc = 80 then some (.aload_n 0, 81, 0, 0, [], .null) else none) else (if pc = 81 then some (.getfield 219, 84, 10, 28, [], .null) else none)))) else (if pc < 87 then (if pc < 85 then (if pc = 84 then some (.iconst 1, 85, 0, 0, [], .int 1) else none) else (if pc < 86 then (if pc = 85 then some (.isub, 86, 0, 0, [], .null) else none) else (if pc = 86 then some (.iaload, 87, 0, 0, [], .null) else none))) else (if pc < 91 then (if pc < 88 then (if pc = 87 then some (.iconst 2, 88, 0, 0, [], .int 2) else none) else (if pc = 88 then some (.if_icmp .eq 13, 91, 101, 0, [], .null) else none)) else (if pc < 92 then (if pc = 91 then some (.aload_n 0, 92, 0, 0, [], .null) else none) else (if pc = 92 then some (.iconst 1, 93, 0, 0, [], .int 1) else none))))))) else (if pc < 139 then (if pc < 114 then (if pc < 105 then (if pc < 100 then (if pc < 94 then (if pc = 93 then some (.aload_n 0, 94, 0, 0, [], .null) else none) else (if pc < 97 then (if pc = 94 then some (.getfield 189, 97, 10, 22, [], .null) else none) else (if pc = 97 then some (.invokevirtual 203, 100, 127, 3, [], .null) else none))) else (if pc < 101 then (if pc = 100 then some (.athrow, 101, 0, 0, [], .null) else none) else (if pc < 102 then (if pc = 101 then some (.aload_n 0, 102, 0, 0, [], .null) else none) else (if pc = 102 then some (.getfield 63, 105, 10, 27, [], .null) else none)))) else (if pc < 110 then (if pc < 106 then (if pc = 105 then some (.aload_n 0, 106, 0, 0, [], .null) else none) else (if pc < 109 then (if pc = 106 then some (.getfield 219, 109, 10, 28, [], .null) else none) else (if pc = 109 then some (.iconst 1, 110, 0, 0, [], .int 1) else none))) else (if pc < 112 then (if pc < 111 then (if pc = 110 then some (.isub, 111, 0, 0, [], .null) else none) else (if pc = 111 then some (.iconst 3, 112, 0, 0, [], .int 3) else none)) else (if pc < 113 then (if pc = 112 then some (.iastore, 113, 0, 0, [], .null) else none) else (if pc = 113 then some (.aload_n 0, 114, 0, 0, [], .null) else none))))) else (if pc < 126 then (if pc < 119 then (if pc < 115 then (if pc = 114 then some (.dup, 115, 0, 0, [], .null) else none) else (if pc < 118 then (if pc = 115 then some (.getfield 189, 118, 10, 22, [], .null) else none) else (if pc = 118 then some (.iconst 1, 119, 0, 0, [], .int 1) else none))) else (if pc < 120 then (if pc = 119 then some (.iadd, 120, 0, 0, [], .null) else none) else (if pc < 123 then (if pc = 120 then some (.putfield 189, 123, 10, 22, [], .null) else none) else (if pc = 123 then some (.goto (-113), 126, 10, 0, [], .null) else none)))) else (if pc < 132 then (if pc < 127 then (if pc = 126 then some (.iload_n 1, 127, 1, 0, [], .null) else none) else (if pc < 129 then (if pc = 127 then some (.bipush 40, 129, 0, 0, [], .int 40) else none) else (if pc = 129 then some (.if_icmp .eq 9, 132, 138, 0, [], .null) else none))) else (if pc < 135 then (if pc < 133 then (if pc = 132 then some (.iload_n 1, 133, 1, 0, [], .null) else none) else (if pc = 133 then some (.bipush 39, 135, 0, 0, [], .int 39) else none)) else (if pc < 138 then (if pc = 135 then some (.if_icmp .ne 95, 138, 230, 0, [], .null) else none) else (if pc = 138 then some (.aload_n 0, 139, 0, 0, [], .null) else none)))))) else (if pc < 165 then (if pc < 151 then (if pc < 146 then (if pc < 142 then (if pc = 139 then some (.invokevirtual 229, 142, 134, 1, [], .null) else none) else (if pc < 145 then (if pc = 142 then some (.ifCond .ne 13, 145, 155, 0, [], .null) else none) else (if pc = 145 then some (.aload_n 0, 146, 0, 0, [], .null) else none))) else (if pc < 147 then (if pc = 146 then some (.iconst 1, 147, 0, 0, [], .int 1) else none) else (if pc < 148 then (if pc = 147 then some (.aload_n 0, 148, 0, 0, [], .null) else none) else (if pc = 148 then some (.getfield 189, 151, 10, 22, [], .null) else none)))) else (if pc < 156 then (if pc < 154 then (if pc = 151 then some (.invokevirtual 203, 154, 127, 3, [], .null) else none) else (if pc < 155 then (if pc = 154 then some (.athrow, 155, 0, 0, [], .null) else none) else (if pc = 155 then some (.aload_n 0, 156, 0, 0, [], .null) else none))) else (if pc < 161 then (if pc < 159 then (if pc = 156 then some (.getfield 219, 159, 10, 28, [], .null) else none) else (if pc = 159 then some (.bipush 60, 161, 0, 0, [], .int 60) else none)) else (if pc < 164 then (if pc = 161 then some (.if_icmp .ne 13, 164, 174, 0, [], .null) else none) else (if pc = 164 then some (.aload_n 0, 165, 0, 0, [], .null) else none))))) else (if pc < 175 then (if pc < 170 then (if pc < 166 then (if pc = 165 then some (.iconst 4, 166, 0, 0, [], .int 4) else none) else (if pc < 167 then (if pc = 166 then some (.aload_n 0, 167, 0, 0, [], .null) else none) else (if pc = 167 then some (.getfield 189, 170, 10, 22, [], .null) else none))) else (if pc < 173 then (if pc = 170 then some (.invokevirtual 203, 173, 127, 3, [], .null) else none) else (if pc < 174 then (if pc = 173 then some (.athrow, 174, 0, 0, [], .null) else none) else (if pc = 174 then some (.aload_n 0, 175, 0, 0, [], .null) else none)))) else (if pc < 182 then (if pc < 178 then (if pc = 175 then some (.getfield 60, 178, 10, 26, [], .null) else none) else (if pc < 179 then (if pc = 178 then some (.aload_n 0, 179, 0, 0, [], .null) else none) else (if pc = 179 then some (.getfield 219, 182, 10, 28, [], .null) else none))) else (if pc < 186 then (if pc < 183 then (if pc = 182 then some (.aload_n 0, 183, 0, 0, [], .null) else none) else (if pc = 183 then some (.getfield 153, 186, 10, 25, [], .null) else none)) else (if pc < 187 then (if pc = 186 then some (.iastore, 187, 0, 0, [], .null) else none) else (if pc = 187 then some (.aload_n 0, 188, 0, 0, [], .null) else none)))))))) else (if pc < 289 then (if pc < 237 then (if pc < 212 then (if pc < 201 then (if pc < 195 then (if pc < 191 then (if pc = 188 then some (.getfield 63, 191, 10, 27, [], .null) else none) else (if pc < 192 then (if pc = 191 then some (.aload_n 0, 192, 0, 0, [], .null) else none) else (if pc = 192 then some (.getfield 219, 195, 10, 28, [], .null) else none))) else (if pc < 196 then (if pc = 195 then some (.iload_n 1, 196, 1, 0, [], .null) else none) else (if pc < 198 then (if pc = 196 then some (.bipush 40, 198, 0, 0, [], .int 40) else none) else (if pc = 198 then some (.if_icmp .ne 7, 201, 205, 0, [], .null) else none)))) else (if pc < 206 then (if pc < 202 then (if pc = 201 then some (.iconst 1, 202, 0, 0, [], .int 1) else none) else (if pc < 205 then (if pc = 202 then some (.goto 4, 205, 206, 0, [], .null) else none) else (if pc = 205 then some (.iconst 0, 206, 0, 0, [], .int 0) else none))) else (if pc < 208 then (if pc < 207 then (if pc = 206 then some (.iastore, 207, 0, 0, [], .null) else none) else (if pc = 207 then some (.aload_n 0, 208, 0, 0, [], .null) else none)) else (if pc < 209 then (if pc = 208 then some (.dup, 209, 0, 0, [], .null) else none) else (if pc = 209 then some (.getfield 219, 212, 10, 28, [], .null) else none))))) else (if pc < 222 then (if pc < 217 then (if pc < 213 then (if pc = 212 then some (.iconst 1, 213, 0, 0, [], .int 1) else none) else (if pc < 214 then (if pc = 213 then some (.iadd, 214, 0, 0, [], .null) else none) else (if pc = 214 then some (.putfield 219, 217, 10, 28, [], .null) else none))) else (if pc < 218 then (if pc = 217 then some (.aload_n 0, 218, 0, 0, [], .null) else none) else (if pc < 219 then (if pc = 218 then some (.dup, 219, 0, 0, [], .null) else none) else (if pc = 219 then some (.getfield 189, 222, 10, 22, [], .null) else none)))) else (if pc < 227 then (if pc < 223 then (if pc = 222 then some (.iconst 1, 223, 0, 0, [], .int 1) else none) else (if pc < 224 then (if pc = 223 then some (.iadd, 224, 0, 0, [], .null) else none) else (if pc = 224 then some (.putfield 189, 227, 10, 22, [], .null) else none))) else (if pc < 231 then (if pc < 230 then (if pc = 227 then some (.goto (-217), 230, 10, 0, [], .null) else none) else (if pc = 230 then some (.aload_n 0, 231, 0, 0, [], .null) else none)) else (if pc < 234 then (if pc = 231 then some (.invokevirtual 233, 234, 133, 1, [], .null) else none) else (if pc = 234 then some (.ifCond .eq 10, 237, 244, 0, [], .null) else none)))))) else (if pc < 262 then (if pc < 247 then (if pc < 244 then (if pc < 238 then (if pc = 237 then some (.aload_n 0, 238, 0, 0, [], .null) else none) else (if pc < 241 then (if pc = 238 then some (.invokevirtual 229, 241, 134, 1, [], .null) else none) else (if pc = 241 then some (.ifCond .ne 13, 244, 254, 0, [], .null) else none))) else (if pc < 245 then (if pc = 244 then some (.aload_n 0, 245, 0, 0, [], .null) else none) else (if pc < 246 then (if pc = 245 then some (.iconst 1, 246, 0, 0, [], .int 1) else none) else (if pc = 246 then some (.aload_n 0, 247, 0, 0, [], .null) else none)))) else (if pc < 254 then (if pc < 250 then (if pc = 247 then some (.getfield 189, 250, 10, 22, [], .null) else none) else (if pc < 253 then (if pc = 250 then some (.invokevirtual 203, 253, 127, 3, [], .null) else none) else (if pc = 253 then some (.athrow, 254, 0, 0, [], .null) else none))) else (if pc < 258 then (if pc < 255 then (if pc = 254 then some (.iload_n 1, 255, 1, 0, [], .null) else none) else (if pc = 255 then some (.invokestatic 196, 258, 128, 1, [], .null) else none)) else (if pc < 261 then (if pc = 258 then some (.ifCond .eq 10, 261, 268, 0, [], .null) else none) else (if pc = 261 then some (.aload_n 0, 262, 0, 0, [], .null) else none))))) else (if pc < 274 then (if pc < 269 then (if pc < 265 then (if pc = 262 then some (.invokevirtual 236, 265, 131, 1, [], .null) else none) else (if pc < 268 then (if pc = 265 then some (.goto 7, 268, 272, 0, [], .null) else none) else (if pc = 268 then some (.aload_n 0, 269, 0, 0, [], .null) else none))) else (if pc < 272 then (if pc = 269 then some (.invokevirtual 239, 272, 132, 1, [], .null) else none) else (if pc < 273 then (if pc = 272 then some (.lstore_n 3, 273, 3, 0, [], .null) else none) else (if pc = 273 then some (.aload_n 0, 274, 0, 0, [], .null) else none)))) else (if pc < 281 then (if pc < 277 then (if pc = 274 then some (.getfield 219, 277, 10, 28, [], .null) else none) else (if pc < 280 then (if pc = 277 then some (.ifCond .le 37, 280, 314, 0, [], .null) else none) else (if pc = 280 then some (.aload_n 0, 281, 0, 0, [], .null) else none))) else (if pc < 285 then (if pc < 284 then (if pc = 281 then some (.getfield 63, 284, 10, 27, [], .null) else none) else (if pc = 284 then some (.aload_n 0, 285, 0, 0, [], .null) else none)) else (if pc < 288 then (if pc = 285 then some (.getfield 219, 288, 10, 28, [], .null) else none) else (if pc = 288 then some (.iconst 1, 289, 0, 0, [], .int 1) else none))))))) else (if pc < 333 then (if pc < 310 then (if pc < 299 then (if pc < 294 then (if pc < 290 then (if pc = 289 then some (.isub, 290, 0, 0, [], .null) else none) else (if pc < 291 then (if pc = 290 then some (.iaload, 291, 0, 0, [], .null) else none) else (if pc = 291 then some (.ifCond .ne 23, 294, 314, 0, [], .null) else none))) else (if pc < 295 then (if pc = 294 then some (.aload_n 0, 295, 0, 0, [], .null) else none) else (if pc < 296 then (if pc = 295 then some (.dup, 296, 0, 0, [], .null) else none) else (if pc = 296 then some (.getfield 219, 299, 10, 28, [], .null) else none)))) else (if pc < 304 then (if pc < 300 then (if pc = 299 then some (.iconst 1, 300, 0, 0, [], .int 1) else none) else (if pc < 301 then (if pc = 300 then some (.isub, 301, 0, 0, [], .null) else none) else (if pc = 301 then some (.putfield 219, 304, 10, 28, [], .null) else none))) else (if pc < 306 then (if pc < 305 then (if pc = 304 then some (.aload_n 0, 305, 0, 0, [], .null) else none) else (if pc = 305 then some (.lload_n 3, 306, 3, 0, [], .null) else none)) else (if pc < 307 then (if pc = 306 then some (.iload_n 2, 307, 2, 0, [], .null) else none) else (if pc = 307 then some (.invokevirtual 242, 310, 136, 3, [], .null) else none))))) else (if pc < 322 then (if pc < 315 then (if pc < 311 then (if pc = 310 then some (.lstore_n 3, 311, 3, 0, [], .null) else none) else (if pc < 314 then (if pc = 311 then some (.goto (-38), 314, 273, 0, [], .null) else none) else (if pc = 314 then some (.aload_n 0, 315, 0, 0, [], .null) else none))) else (if pc < 318 then (if pc = 315 then some (.getfield 219, 318, 10, 28, [], .null) else none) else (if pc < 321 then (if pc = 318 then some (.ifCond .ne 5, 321, 323, 0, [], .null) else none) else (if pc = 321 then some (.lload_n 3, 322, 3, 0, [], .null) else none)))) else (if pc < 327 then (if pc < 323 then (if pc = 322 then some (.lreturn, 323, 0, 0, [], .null) else none) else (if pc < 324 then (if pc = 323 then some (.aload_n 0, 324, 0, 0, [], .null) else none) else (if pc = 324 then some (.getfield 57, 327, 10, 24, [], .null) else none))) else (if pc < 331 then (if pc < 328 then (if pc = 327 then some (.aload_n 0, 328, 0, 0, [], .null) else none) else (if pc = 328 then some (.getfield 153, 331, 10, 25, [], .null) else none)) else (if pc < 332 then (if pc = 331 then some (.lload_n 3, 332, 3, 0, [], .null) else none) else (if pc = 332 then some (.lastore, 333, 0, 0, [], .null) else none)))))) else (if pc < 354 then (if pc < 343 then (if pc < 338 then (if pc < 334 then (if pc = 333 then some (.aload_n 0, 334, 0, 0, [], .null) else none) else (if pc < 335 then (if pc = 334 then some (.dup, 335, 0, 0, [], .null) else none) else (if pc = 335 then some (.getfield 153, 338, 10, 25, [], .null) else none))) else (if pc < 339 then (if pc = 338 then some (.iconst 1, 339, 0, 0, [], .int 1) else none) else (if pc < 340 then (if pc = 339 then some (.iadd, 340, 0, 0, [], .null) else none) else (if pc = 340 then some (.putfield 153, 343, 10, 25, [], .null) else none)))) else (if pc < 348 then (if pc < 344 then (if pc = 343 then some (.aload_n 0, 344, 0, 0, [], .null) else none) else (if pc < 347 then (if pc = 344 then some (.getfield 63, 347, 10, 27, [], .null) else none) else (if pc = 347 then some (.aload_n 0, 348, 0, 0, [], .null) else none))) else (if pc < 352 then (if pc < 351 then (if pc = 348 then some (.getfield 219, 351, 10, 28, [], .null) else none) else (if pc = 351 then some (.iconst 1, 352, 0, 0, [], .int 1) else none)) else (if pc < 353 then (if pc = 352 then some (.isub, 353, 0, 0, [], .null) else none) else (if pc = 353 then some (.aload_n 0, 354, 0, 0, [], .null) else none))))) else (if pc < 364 then (if pc < 361 then (if pc < 357 then (if pc = 354 then some (.getfield 63, 357, 10, 27, [], .null) else none) else (if pc < 358 then (if pc = 357 then some (.aload_n 0, 358, 0, 0, [], .null) else none) else (if pc = 358 then some (.getfield 219, 361, 10, 28, [], .null) else none))) else (if pc < 362 then (if pc = 361 then some (.iconst 1, 362, 0, 0, [], .int 1) else none) else (if pc < 363 then (if pc = 362 then some (.isub, 363, 0, 0, [], .null) else none) else (if pc = 363 then some (.iaload, 364, 0, 0, [], .null) else none)))) else (if pc < 369 then (if pc < 365 then (if pc = 364 then some (.iconst 3, 365, 0, 0, [], .int 3) else none) else (if pc < 368 then (if pc = 365 then some (.if_icmp .ne 7, 368, 372, 0, [], .null) else none) else (if pc = 368 then some (.iconst 4, 369, 0, 0, [], .int 4) else none))) else (if pc < 373 then (if pc < 372 then (if pc = 369 then some (.goto 4, 372, 373, 0, [], .null) else none) else (if pc = 372 then some (.iconst 2, 373, 0, 0, [], .int 2) else none)) else (if pc < 374 then (if pc = 373 then some (.iastore, 374, 0, 0, [], .null) else none) else (if pc = 374 then some (.goto (-364), 377, 10, 0, [], .null) else none))))))))) else none
set_option maxRecDepth 20000 in
def cdX10_quotes : PCode := fun pc => if pc < 36 then (if pc < 19 then (if pc < 8 then (if pc < 2 then (if pc < 1 then (if pc = 0 then some (.aload_n 0, 1, 0, 0, [], .null) else none) else (if pc = 1 then some (.lload_n 1, 2, 1, 0, [], .null) else none)) else (if pc < 5 then (if pc = 2 then some (.ldc2_w 66, 5, 0, 0, [], .long (-1)) else none) else (if pc = 5 then some (.ldc2_w 66, 8, 0, 0, [], .long (-1)) else none))) else (if pc < 13 then (if pc < 11 then (if pc = 8 then some (.invokevirtual 246, 11, 121, 4, [], .null) else none) else (if pc = 11 then some (.lstore 4, 13, 4, 0, [], .null) else none)) else (if pc < 14 then (if pc = 13 then some (.aload_n 0, 14, 0, 0, [], .null) else none) else (if pc < 17 then (if pc = 14 then some (.ldc2_w 250, 17, 0, 0, [], .long (-3)) else none) else (if pc = 17 then some (.lload 4, 19, 4, 0, [], .null) else none))))) else (if pc < 28 then (if pc < 25 then (if pc < 22 then (if pc = 19 then some (.ldc2_w 66, 22, 0, 0, [], .long (-1)) else none) else (if pc = 22 then some (.invokevirtual 246, 25, 121, 4, [], .null) else none)) else (if pc < 26 then (if pc = 25 then some (.lreturn, 26, 0, 0, [], .null) else none) else (if pc = 26 then some (.astore 4, 28, 4, 0, [], .null) else none))) else (if pc < 31 then (if pc < 29 then (if pc = 28 then some (.aload_n 0, 29, 0, 0, [], .null) else none) else (if pc = 29 then some (.bipush 8, 31, 0, 0, [], .int 8) else none)) else (if pc < 32 then (if pc = 31 then some (.iload_n 3, 32, 3, 0, [], .null) else none) else (if pc < 35 then (if pc = 32 then some (.invokevirtual 203, 35, 127, 3, [], .null) else none) else (if pc = 35 then some (.athrow, 36, 0, 0, [], .null) else none)))))) else none
set_option maxRecDepth 20000 in
def cdX10_closes : PCode := fun pc => if pc < 162 then (if pc < 81 then (if pc < 41 then (if pc < 21 then (if pc < 11 then (if pc < 4 then (if pc < 1 then (if pc = 0 then some (.aload_n 0, 1, 0, 0, [], .null) else none) else (if pc = 1 then some (.getfield 219, 4, 10, 28, [], .null) else none)) else (if pc < 7 then (if pc = 4 then some (.ifCond .ne 7, 7, 11, 0, [], .null) else none) else (if pc < 8 then (if pc = 7 then some (.iconst 0, 8, 0, 0, [], .int 0) else none) else (if pc = 8 then some (.goto 14, 11, 22, 0, [], .null) else none)))) else (if pc < 16 then (if pc < 12 then (if pc = 11 then some (.aload_n 0, 12, 0, 0, [], .null) else none) else (if pc < 15 then (if pc = 12 then some (.getfield 63, 15, 10, 27, [], .null) else none) else (if pc = 15 then some (.aload_n 0, 16, 0, 0, [], .null) else none))) else (if pc < 19 then (if pc = 16 then some (.getfield 219, 19, 10, 28, [], .null) else none) else (if pc < 20 then (if pc = 19 then some (.iconst 1, 20, 0, 0, [], .int 1) else none) else (if pc = 20 then some (.isub, 21, 0, 0, [], .null) else none))))) else (if pc < 29 then (if pc < 24 then (if pc < 22 then (if pc = 21 then some (.iaload, 22, 0, 0, [], .null) else none) else (if pc < 23 then (if pc = 22 then some (.istore_n 1, 23, 1, 0, [], .null) else none) else (if pc = 23 then some (.iload_n 1, 24, 1, 0, [], .null) else none))) else (if pc < 27 then (if pc = 24 then some (.ifCond .eq 8, 27, 32, 0, [], .null) else none) else (if pc < 28 then (if pc = 27 then some (.iload_n 1, 28, 1, 0, [], .null) else none) else (if pc = 28 then some (.iconst 3, 29, 0, 0, [], .int 3) else none)))) else (if pc < 34 then (if pc < 32 then (if pc = 29 then some (.if_icmp .ne 13, 32, 42, 0, [], .null) else none) else (if pc < 33 then (if pc = 32 then some (.aload_n 0, 33, 0, 0, [], .null) else none) else (if pc = 33 then some (.iconst 1, 34, 0, 0, [], .int 1) else none))) else (if pc < 35 then (if pc = 34 then some (.aload_n 0, 35, 0, 0, [], .null) else none) else (if pc < 38 then (if pc = 35 then some (.getfield 189, 38, 10, 22, [], .null) else none) else (if pc = 38 then some (.invokevirtual 203, 41, 127, 3, [], .null) else none)))))) else (if pc < 59 then (if pc < 51 then (if pc < 46 then (if pc < 42 then (if pc = 41 then some (.athrow, 42, 0, 0, [], .null) else none) else (if pc < 43 then (if pc = 42 then some (.aload_n 0, 43, 0, 0, [], .null) else none) else (if pc = 43 then some (.getfield 60, 46, 10, 26, [], .null) else none))) else (if pc < 47 then (if pc = 46 then some (.aload_n 0, 47, 0, 0, [], .null) else none) else (if pc < 50 then (if pc = 47 then some (.getfield 219, 50, 10, 28, [], .null) else none) else (if pc = 50 then some (.iconst 1, 51, 0, 0, [], .int 1) else none)))) else (if pc < 54 then (if pc < 52 then (if pc = 51 then some (.isub, 52, 0, 0, [], .null) else none) else (if pc < 53 then (if pc = 52 then some (.iaload, 53, 0, 0, [], .null) else none) else (if pc = 53 then some (.istore_n 2, 54, 2, 0, [], .null) else none))) else (if pc < 57 then (if pc = 54 then some (.ldc2_w 66, 57, 0, 0, [], .long (-1)) else none) else (if pc < 58 then (if pc = 57 then some (.lstore_n 3, 58, 3, 0, [], .null) else none) else (if pc = 58 then some (.iload_n 1, 59, 1, 0, [], .null) else none))))) else (if pc < 69 then (if pc < 64 then (if pc < 60 then (if pc = 59 then some (.iconst 4, 60, 0, 0, [], .int 4) else none) else (if pc < 63 then (if pc = 60 then some (.if_icmp .ne 23, 63, 83, 0, [], .null) else none) else (if pc = 63 then some (.aload_n 0, 64, 0, 0, [], .null) else none))) else (if pc < 65 then (if pc = 64 then some (.dup, 65, 0, 0, [], .null) else none) else (if pc < 68 then (if pc = 65 then some (.getfield 153, 68, 10, 25, [], .null) else none) else (if pc = 68 then some (.iconst 1, 69, 0, 0, [], .int 1) else none)))) else (if pc < 74 then (if pc < 70 then (if pc = 69 then some (.isub, 70, 0, 0, [], .null) else none) else (if pc < 73 then (if pc = 70 then some (.putfield 153, 73, 10, 25, [], .null) else none) else (if pc = 73 then some (.aload_n 0, 74, 0, 0, [], .null) else none))) else (if pc < 77 then (if pc = 74 then some (.getfield 57, 77, 10, 24, [], .null) else none) else (if pc < 78 then (if pc = 77 then some (.aload_n 0, 78, 0, 0, [], .null) else none) else (if pc = 78 then some (.getfield 153, 81, 10, 25, [], .null) else none))))))) else (if pc < 118 then (if pc < 100 then (if pc < 88 then (if pc < 83 then (if pc < 82 then (if pc = 81 then some (.laload, 82, 0, 0, [], .null) else none) else (if pc = 82 then some (.lstore_n 3, 83, 3, 0, [], .null) else none)) else (if pc < 84 then (if pc = 83 then some (.aload_n 0, 84, 0, 0, [], .null) else none) else (if pc < 87 then (if pc = 84 then some (.getfield 153, 87, 10, 25, [], .null) else none) else (if pc = 87 then some (.iload_n 2, 88, 2, 0, [], .null) else none)))) else (if pc < 93 then (if pc < 91 then (if pc = 88 then some (.if_icmp .le 36, 91, 124, 0, [], .null) else none) else (if pc < 92 then (if pc = 91 then some (.aload_n 0, 92, 0, 0, [], .null) else none) else (if pc = 92 then some (.aload_n 0, 93, 0, 0, [], .null) else none))) else (if pc < 96 then (if pc = 93 then some (.getfield 57, 96, 10, 24, [], .null) else none) else (if pc < 97 then (if pc = 96 then some (.aload_n 0, 97, 0, 0, [], .null) else none) else (if pc = 97 then some (.getfield 153, 100, 10, 25, [], .null) else none))))) else (if pc < 110 then (if pc < 103 then (if pc < 101 then (if pc = 100 then some (.iconst 1, 101, 0, 0, [], .int 1) else none) else (if pc < 102 then (if pc = 101 then some (.isub, 102, 0, 0, [], .null) else none) else (if pc = 102 then some (.laload, 103, 0, 0, [], .null) else none))) else (if pc < 104 then (if pc = 103 then some (.lload_n 3, 104, 3, 0, [], .null) else none) else (if pc < 107 then (if pc = 104 then some (.ldc2_w 66, 107, 0, 0, [], .long (-1)) else none) else (if pc = 107 then some (.invokevirtual 246, 110, 121, 4, [], .null) else none)))) else (if pc < 113 then (if pc < 111 then (if pc = 110 then some (.lstore_n 3, 111, 3, 0, [], .null) else none) else (if pc < 112 then (if pc = 111 then some (.aload_n 0, 112, 0, 0, [], .null) else none) else (if pc = 112 then some (.dup, 113, 0, 0, [], .null) else none))) else (if pc < 116 then (if pc = 113 then some (.getfield 153, 116, 10, 25, [], .null) else none) else (if pc < 117 then (if pc = 116 then some (.iconst 1, 117, 0, 0, [], .int 1) else none) else (if pc = 117 then some (.isub, 118, 0, 0, [], .null) else none)))))) else (if pc < 142 then (if pc < 132 then (if pc < 127 then (if pc < 121 then (if pc = 118 then some (.putfield 153, 121, 10, 25, [], .null) else none) else (if pc < 124 then (if pc = 121 then some (.goto (-38), 124, 83, 0, [], .null) else none) else (if pc = 124 then some (.goto 16, 127, 140, 0, [], .null) else none))) else (if pc < 129 then (if pc = 127 then some (.astore 5, 129, 5, 0, [], .null) else none) else (if pc < 130 then (if pc = 129 then some (.aload_n 0, 130, 0, 0, [], .null) else none) else (if pc = 130 then some (.bipush 8, 132, 0, 0, [], .int 8) else none)))) else (if pc < 139 then (if pc < 133 then (if pc = 132 then some (.aload_n 0, 133, 0, 0, [], .null) else none) else (if pc < 136 then (if pc = 133 then some (.getfield 189, 136, 10, 22, [], .null) else none) else (if pc = 136 then some (.invokevirtual 203, 139, 127, 3, [], .null) else none))) else (if pc < 140 then (if pc = 139 then some (.athrow, 140, 0, 0, [], .null) else none) else (if pc < 141 then (if pc = 140 then some (.aload_n 0, 141, 0, 0, [], .null) else none) else (if pc = 141 then some (.dup, 142, 0, 0, [], .null) else none))))) else (if pc < 152 then (if pc < 147 then (if pc < 145 then (if pc = 142 then some (.getfield 219, 145, 10, 28, [], .null) else none) else (if pc < 146 then (if pc = 145 then some (.iconst 1, 146, 0, 0, [], .int 1) else none) else (if pc = 146 then some (.isub, 147, 0, 0, [], .null) else none))) else (if pc < 150 then (if pc = 147 then some (.putfield 219, 150, 10, 28, [], .null) else none) else (if pc < 151 then (if pc = 150 then some (.aload_n 0, 151, 0, 0, [], .null) else none) else (if pc = 151 then some (.dup, 152, 0, 0, [], .null) else none)))) else (if pc < 157 then (if pc < 155 then (if pc = 152 then some (.getfield 189, 155, 10, 22, [], .null) else none) else (if pc < 156 then (if pc = 155 then some (.iconst 1, 156, 0, 0, [], .int 1) else none) else (if pc = 156 then some (.iadd, 157, 0, 0, [], .null) else none))) else (if pc < 160 then (if pc = 157 then some (.putfield 189, 160, 10, 22, [], .null) else none) else (if pc < 161 then (if pc = 160 then some (.lload_n 3, 161, 3, 0, [], .null) else none) else (if pc = 161 then some (.lreturn, 162, 0, 0, [], .null) else none)))))))) else none
end
section
/-! resolved code, part 4 -/
set_option maxRecDepth 20000 in
def cdX10_nothing : PCode := fun pc => if pc < 39 then (if pc < 21 then (if pc < 8 then (if pc < 4 then (if pc < 1 then (if pc = 0 then some (.aload_n 0, 1, 0, 0, [], .null) else none) else (if pc = 1 then some (.ldc2_w 66, 4, 0, 0, [], .long (-1)) else none)) else (if pc < 7 then (if pc = 4 then some (.putfield 68, 7, 10, 29, [], .null) else none) else (if pc = 7 then some (.aload_n 0, 8, 0, 0, [], .null) else none))) else (if pc < 14 then (if pc < 11 then (if pc = 8 then some (.ldc2_w 66, 11, 0, 0, [], .long (-1)) else none) else (if pc = 11 then some (.putfield 72, 14, 10, 30, [], .null) else none)) else (if pc < 15 then (if pc = 14 then some (.aload_n 0, 15, 0, 0, [], .null) else none) else (if pc < 18 then (if pc = 15 then some (.ldc2_w 66, 18, 0, 0, [], .long (-1)) else none) else (if pc = 18 then some (.putfield 75, 21, 10, 31, [], .null) else none))))) else (if pc < 30 then (if pc < 25 then (if pc < 22 then (if pc = 21 then some (.aload_n 0, 22, 0, 0, [], .null) else none) else (if pc = 22 then some (.ldc2_w 66, 25, 0, 0, [], .long (-1)) else none)) else (if pc < 28 then (if pc = 25 then some (.putfield 78, 28, 10, 32, [], .null) else none) else (if pc < 29 then (if pc = 28 then some (.aload_n 0, 29, 0, 0, [], .null) else none) else (if pc = 29 then some (.iconst 0, 30, 0, 0, [], .int 0) else none)))) else (if pc < 34 then (if pc < 33 then (if pc = 30 then some (.putfield 156, 33, 10, 34, [], .null) else none) else (if pc = 33 then some (.aload_n 0, 34, 0, 0, [], .null) else none)) else (if pc < 35 then (if pc = 34 then some (.iconst 0, 35, 0, 0, [], .int 0) else none) else (if pc < 38 then (if pc = 35 then some (.putfield 159, 38, 10, 41, [], .null) else none) else (if pc = 38 then some (.return_, 39, 0, 0, [], .null) else none)))))) else none
set_option maxRecDepth 20000 in
def cdX10_burn : PCode := fun pc => if pc < 29 then (if pc < 17 then (if pc < 8 then (if pc < 4 then (if pc < 1 then (if pc = 0 then some (.aload_n 0, 1, 0, 0, [], .null) else none) else (if pc = 1 then some (.getfield 252, 4, 10, 44, [], .null) else none)) else (if pc < 5 then (if pc = 4 then some (.aload_n 0, 5, 0, 0, [], .null) else none) else (if pc = 5 then some (.getfield 255, 8, 10, 43, [], .null) else none))) else (if pc < 12 then (if pc < 11 then (if pc = 8 then some (.if_icmp .ne 10, 11, 18, 0, [], .null) else none) else (if pc = 11 then some (.aload_n 0, 12, 0, 0, [], .null) else none)) else (if pc < 14 then (if pc = 12 then some (.bipush 7, 14, 0, 0, [], .int 7) else none) else (if pc = 14 then some (.invokevirtual 172, 17, 116, 2, [], .null) else none)))) else (if pc < 23 then (if pc < 19 then (if pc < 18 then (if pc = 17 then some (.athrow, 18, 0, 0, [], .null) else none) else (if pc = 18 then some (.aload_n 0, 19, 0, 0, [], .null) else none)) else (if pc < 20 then (if pc = 19 then some (.dup, 20, 0, 0, [], .null) else none) else (if pc = 20 then some (.getfield 252, 23, 10, 44, [], .null) else none))) else (if pc < 25 then (if pc < 24 then (if pc = 23 then some (.iconst 1, 24, 0, 0, [], .int 1) else none) else (if pc = 24 then some (.iadd, 25, 0, 0, [], .null) else none)) else (if pc < 28 then (if pc = 25 then some (.putfield 252, 28, 10, 44, [], .null) else none) else (if pc = 28 then some (.return_, 29, 0, 0, [], .null) else none))))) else none
set_option maxRecDepth 20000 in
def cdX10_pairOf : PCode := fun pc => if pc < 64 then (if pc < 31 then (if pc < 16 then (if pc < 6 then (if pc < 4 then (if pc < 1 then (if pc = 0 then some (.aload_n 0, 1, 0, 0, [], .null) else none) else (if pc = 1 then some (.getfield 72, 4, 10, 30, [], .null) else none)) else (if pc < 5 then (if pc = 4 then some (.lstore_n 3, 5, 3, 0, [], .null) else none) else (if pc = 5 then some (.lload_n 3, 6, 3, 0, [], .null) else none))) else (if pc < 12 then (if pc < 9 then (if pc = 6 then some (.invokestatic 133, 9, 114, 1, [], .null) else none) else (if pc = 9 then some (.ifCond .eq 37, 12, 46, 0, [], .null) else none)) else (if pc < 13 then (if pc = 12 then some (.aload_n 0, 13, 0, 0, [], .null) else none) else (if pc = 13 then some (.invokevirtual 258, 16, 139, 1, [], .null) else none)))) else (if pc < 23 then (if pc < 18 then (if pc < 17 then (if pc = 16 then some (.aload_n 0, 17, 0, 0, [], .null) else none) else (if pc = 17 then some (.lload_n 3, 18, 3, 0, [], .null) else none)) else (if pc < 21 then (if pc = 18 then some (.invokevirtual 183, 21, 122, 2, [], .null) else none) else (if pc = 21 then some (.lstore 5, 23, 5, 0, [], .null) else none))) else (if pc < 26 then (if pc < 24 then (if pc = 23 then some (.aload_n 0, 24, 0, 0, [], .null) else none) else (if pc = 24 then some (.lload 5, 26, 5, 0, [], .null) else none)) else (if pc < 29 then (if pc = 26 then some (.invokevirtual 183, 29, 122, 2, [], .null) else none) else (if pc < 30 then (if pc = 29 then some (.lload_n 1, 30, 1, 0, [], .null) else none) else (if pc = 30 then some (.lcmp, 31, 0, 0, [], .null) else none)))))) else (if pc < 47 then (if pc < 38 then (if pc < 36 then (if pc < 34 then (if pc = 31 then some (.ifCond .ne 6, 34, 37, 0, [], .null) else none) else (if pc = 34 then some (.lload 5, 36, 5, 0, [], .null) else none)) else (if pc < 37 then (if pc = 36 then some (.lreturn, 37, 0, 0, [], .null) else none) else (if pc = 37 then some (.aload_n 0, 38, 0, 0, [], .null) else none))) else (if pc < 42 then (if pc < 39 then (if pc = 38 then some (.lload_n 3, 39, 3, 0, [], .null) else none) else (if pc = 39 then some (.invokevirtual 179, 42, 123, 2, [], .null) else none)) else (if pc < 43 then (if pc = 42 then some (.lstore_n 3, 43, 3, 0, [], .null) else none) else (if pc < 46 then (if pc = 43 then some (.goto (-38), 46, 5, 0, [], .null) else none) else (if pc = 46 then some (.lload_n 3, 47, 3, 0, [], .null) else none))))) else (if pc < 55 then (if pc < 51 then (if pc < 50 then (if pc = 47 then some (.ldc2_w 66, 50, 0, 0, [], .long (-1)) else none) else (if pc = 50 then some (.lcmp, 51, 0, 0, [], .null) else none)) else (if pc < 54 then (if pc = 51 then some (.ifCond .eq 9, 54, 60, 0, [], .null) else none) else (if pc = 54 then some (.aload_n 0, 55, 0, 0, [], .null) else none))) else (if pc < 59 then (if pc < 56 then (if pc = 55 then some (.iconst 5, 56, 0, 0, [], .int 5) else none) else (if pc = 56 then some (.invokevirtual 172, 59, 116, 2, [], .null) else none)) else (if pc < 60 then (if pc = 59 then some (.athrow, 60, 0, 0, [], .null) else none) else (if pc < 63 then (if pc = 60 then some (.ldc2_w 66, 63, 0, 0, [], .long (-1)) else none) else (if pc = 63 then some (.lreturn, 64, 0, 0, [], .null) else none))))))) else none
set_option maxRecDepth 20000 in
def cdX10_frame : PCode := fun pc => if pc < 108 then (if pc < 54 then (if pc < 27 then (if pc < 16 then (if pc < 7 then (if pc < 1 then (if pc = 0 then some (.aload_n 0, 1, 0, 0, [], .null) else none) else (if pc < 4 then (if pc = 1 then some (.getfield 159, 4, 10, 41, [], .null) else none) else (if pc = 4 then some (.sipush 200, 7, 0, 0, [], .int 200) else none))) else (if pc < 11 then (if pc < 10 then (if pc = 7 then some (.if_icmp .ne 10, 10, 17, 0, [], .null) else none) else (if pc = 10 then some (.aload_n 0, 11, 0, 0, [], .null) else none)) else (if pc < 13 then (if pc = 11 then some (.bipush 12, 13, 0, 0, [], .int 12) else none) else (if pc = 13 then some (.invokevirtual 172, 16, 116, 2, [], .null) else none)))) else (if pc < 21 then (if pc < 17 then (if pc = 16 then some (.athrow, 17, 0, 0, [], .null) else none) else (if pc < 18 then (if pc = 17 then some (.aload_n 0, 18, 0, 0, [], .null) else none) else (if pc = 18 then some (.getfield 84, 21, 10, 35, [], .null) else none))) else (if pc < 25 then (if pc < 22 then (if pc = 21 then some (.aload_n 0, 22, 0, 0, [], .null) else none) else (if pc = 22 then some (.getfield 159, 25, 10, 41, [], .null) else none)) else (if pc < 26 then (if pc = 25 then some (.iload_n 1, 26, 1, 0, [], .null) else none) else (if pc = 26 then some (.bastore, 27, 0, 0, [], .null) else none))))) else (if pc < 38 then (if pc < 32 then (if pc < 28 then (if pc = 27 then some (.aload_n 0, 28, 0, 0, [], .null) else none) else (if pc < 31 then (if pc = 28 then some (.getfield 87, 31, 10, 36, [], .null) else none) else (if pc = 31 then some (.aload_n 0, 32, 0, 0, [], .null) else none))) else (if pc < 36 then (if pc < 35 then (if pc = 32 then some (.getfield 159, 35, 10, 41, [], .null) else none) else (if pc = 35 then some (.lload_n 2, 36, 2, 0, [], .null) else none)) else (if pc < 37 then (if pc = 36 then some (.lastore, 37, 0, 0, [], .null) else none) else (if pc = 37 then some (.aload_n 0, 38, 0, 0, [], .null) else none)))) else (if pc < 46 then (if pc < 42 then (if pc < 41 then (if pc = 38 then some (.getfield 90, 41, 10, 37, [], .null) else none) else (if pc = 41 then some (.aload_n 0, 42, 0, 0, [], .null) else none)) else (if pc < 45 then (if pc = 42 then some (.getfield 159, 45, 10, 41, [], .null) else none) else (if pc = 45 then some (.aload_n 0, 46, 0, 0, [], .null) else none))) else (if pc < 50 then (if pc < 49 then (if pc = 46 then some (.getfield 72, 49, 10, 30, [], .null) else none) else (if pc = 49 then some (.lastore, 50, 0, 0, [], .null) else none)) else (if pc < 51 then (if pc = 50 then some (.aload_n 0, 51, 0, 0, [], .null) else none) else (if pc = 51 then some (.getfield 93, 54, 10, 38, [], .null) else none)))))) else (if pc < 77 then (if pc < 66 then (if pc < 60 then (if pc < 55 then (if pc = 54 then some (.aload_n 0, 55, 0, 0, [], .null) else none) else (if pc < 58 then (if pc = 55 then some (.getfield 159, 58, 10, 41, [], .null) else none) else (if pc = 58 then some (.lload 4, 60, 4, 0, [], .null) else none))) else (if pc < 62 then (if pc < 61 then (if pc = 60 then some (.lastore, 61, 0, 0, [], .null) else none) else (if pc = 61 then some (.aload_n 0, 62, 0, 0, [], .null) else none)) else (if pc < 65 then (if pc = 62 then some (.getfield 99, 65, 10, 40, [], .null) else none) else (if pc = 65 then some (.aload_n 0, 66, 0, 0, [], .null) else none)))) else (if pc < 71 then (if pc < 69 then (if pc = 66 then some (.getfield 159, 69, 10, 41, [], .null) else none) else (if pc < 70 then (if pc = 69 then some (.iconst 0, 70, 0, 0, [], .int 0) else none) else (if pc = 70 then some (.iastore, 71, 0, 0, [], .null) else none))) else (if pc < 73 then (if pc < 72 then (if pc = 71 then some (.aload_n 0, 72, 0, 0, [], .null) else none) else (if pc = 72 then some (.dup, 73, 0, 0, [], .null) else none)) else (if pc < 76 then (if pc = 73 then some (.getfield 159, 76, 10, 41, [], .null) else none) else (if pc = 76 then some (.iconst 1, 77, 0, 0, [], .int 1) else none))))) else (if pc < 90 then (if pc < 82 then (if pc < 78 then (if pc = 77 then some (.iadd, 78, 0, 0, [], .null) else none) else (if pc < 81 then (if pc = 78 then some (.putfield 159, 81, 10, 41, [], .null) else none) else (if pc = 81 then some (.aload_n 0, 82, 0, 0, [], .null) else none))) else (if pc < 86 then (if pc < 83 then (if pc = 82 then some (.aload_n 0, 83, 0, 0, [], .null) else none) else (if pc = 83 then some (.getfield 159, 86, 10, 41, [], .null) else none)) else (if pc < 87 then (if pc = 86 then some (.aload_n 0, 87, 0, 0, [], .null) else none) else (if pc = 87 then some (.getfield 261, 90, 10, 42, [], .null) else none)))) else (if pc < 100 then (if pc < 94 then (if pc < 93 then (if pc = 90 then some (.if_icmp .le 10, 93, 100, 0, [], .null) else none) else (if pc = 93 then some (.aload_n 0, 94, 0, 0, [], .null) else none)) else (if pc < 97 then (if pc = 94 then some (.getfield 159, 97, 10, 41, [], .null) else none) else (if pc = 97 then some (.goto 7, 100, 104, 0, [], .null) else none))) else (if pc < 104 then (if pc < 101 then (if pc = 100 then some (.aload_n 0, 101, 0, 0, [], .null) else none) else (if pc = 101 then some (.getfield 261, 104, 10, 42, [], .null) else none)) else (if pc < 107 then (if pc = 104 then some (.putfield 261, 107, 10, 42, [], .null) else none) else (if pc = 107 then some (.return_, 108, 0, 0, [], .null) else none))))))) else none
set_option maxRecDepth 20000 in
def cdX10_evaluates : PCode := fun pc => if pc < 289 then (if pc < 148 then (if pc < 77 then (if pc < 41 then (if pc < 21 then (if pc < 10 then (if pc < 4 then (if pc < 1 then (if pc = 0 then some (.aload_n 0, 1, 0, 0, [], .null) else none) else (if pc = 1 then some (.getfield 68, 4, 10, 29, [], .null) else none)) else (if pc < 7 then (if pc = 4 then some (.invokestatic 264, 7, 113, 1, [], .null) else none) else (if pc = 7 then some (.ifCond .ne 25, 10, 32, 0, [], .null) else none))) else (if pc < 14 then (if pc < 11 then (if pc = 10 then some (.aload_n 0, 11, 0, 0, [], .null) else none) else (if pc = 11 then some (.getfield 68, 14, 10, 29, [], .null) else none)) else (if pc < 17 then (if pc = 14 then some (.ldc2_w 66, 17, 0, 0, [], .long (-1)) else none) else (if pc < 18 then (if pc = 17 then some (.lcmp, 18, 0, 0, [], .null) else none) else (if pc = 18 then some (.ifCond .eq 14, 21, 32, 0, [], .null) else none))))) else (if pc < 32 then (if pc < 25 then (if pc < 22 then (if pc = 21 then some (.aload_n 0, 22, 0, 0, [], .null) else none) else (if pc = 22 then some (.getfield 68, 25, 10, 29, [], .null) else none)) else (if pc < 28 then (if pc = 25 then some (.ldc2_w 267, 28, 0, 0, [], .long (-2)) else none) else (if pc < 29 then (if pc = 28 then some (.lcmp, 29, 0, 0, [], .null) else none) else (if pc = 29 then some (.ifCond .ne 13, 32, 42, 0, [], .null) else none)))) else (if pc < 34 then (if pc < 33 then (if pc = 32 then some (.aload_n 0, 33, 0, 0, [], .null) else none) else (if pc = 33 then some (.aload_n 0, 34, 0, 0, [], .null) else none)) else (if pc < 37 then (if pc = 34 then some (.getfield 68, 37, 10, 29, [], .null) else none) else (if pc < 40 then (if pc = 37 then some (.putfield 78, 40, 10, 32, [], .null) else none) else (if pc = 40 then some (.iconst 1, 41, 0, 0, [], .int 1) else none)))))) else (if pc < 60 then (if pc < 49 then (if pc < 43 then (if pc < 42 then (if pc = 41 then some (.ireturn, 42, 0, 0, [], .null) else none) else (if pc = 42 then some (.aload_n 0, 43, 0, 0, [], .null) else none)) else (if pc < 46 then (if pc = 43 then some (.getfield 68, 46, 10, 29, [], .null) else none) else (if pc = 46 then some (.invokestatic 269, 49, 112, 1, [], .null) else none))) else (if pc < 53 then (if pc < 52 then (if pc = 49 then some (.ifCond .eq 38, 52, 87, 0, [], .null) else none) else (if pc = 52 then some (.aload_n 0, 53, 0, 0, [], .null) else none)) else (if pc < 54 then (if pc = 53 then some (.aload_n 0, 54, 0, 0, [], .null) else none) else (if pc < 57 then (if pc = 54 then some (.getfield 68, 57, 10, 29, [], .null) else none) else (if pc = 57 then some (.invokevirtual 272, 60, 140, 2, [], .null) else none))))) else (if pc < 69 then (if pc < 62 then (if pc < 61 then (if pc = 60 then some (.lstore_n 1, 61, 1, 0, [], .null) else none) else (if pc = 61 then some (.lload_n 1, 62, 1, 0, [], .null) else none)) else (if pc < 65 then (if pc = 62 then some (.ldc2_w 66, 65, 0, 0, [], .long (-1)) else none) else (if pc < 66 then (if pc = 65 then some (.lcmp, 66, 0, 0, [], .null) else none) else (if pc = 66 then some (.ifCond .ne 10, 69, 76, 0, [], .null) else none)))) else (if pc < 72 then (if pc < 70 then (if pc = 69 then some (.aload_n 0, 70, 0, 0, [], .null) else none) else (if pc = 70 then some (.bipush 6, 72, 0, 0, [], .int 6) else none)) else (if pc < 75 then (if pc = 72 then some (.invokevirtual 172, 75, 116, 2, [], .null) else none) else (if pc < 76 then (if pc = 75 then some (.athrow, 76, 0, 0, [], .null) else none) else (if pc = 76 then some (.aload_n 0, 77, 0, 0, [], .null) else none))))))) else (if pc < 110 then (if pc < 92 then (if pc < 85 then (if pc < 79 then (if pc < 78 then (if pc = 77 then some (.aload_n 0, 78, 0, 0, [], .null) else none) else (if pc = 78 then some (.lload_n 1, 79, 1, 0, [], .null) else none)) else (if pc < 82 then (if pc = 79 then some (.invokevirtual 179, 82, 123, 2, [], .null) else none) else (if pc = 82 then some (.putfield 78, 85, 10, 32, [], .null) else none))) else (if pc < 87 then (if pc < 86 then (if pc = 85 then some (.iconst 1, 86, 0, 0, [], .int 1) else none) else (if pc = 86 then some (.ireturn, 87, 0, 0, [], .null) else none)) else (if pc < 88 then (if pc = 87 then some (.aload_n 0, 88, 0, 0, [], .null) else none) else (if pc < 89 then (if pc = 88 then some (.aload_n 0, 89, 0, 0, [], .null) else none) else (if pc = 89 then some (.getfield 68, 92, 10, 29, [], .null) else none))))) else (if pc < 101 then (if pc < 96 then (if pc < 95 then (if pc = 92 then some (.invokevirtual 183, 95, 122, 2, [], .null) else none) else (if pc = 95 then some (.lstore_n 1, 96, 1, 0, [], .null) else none)) else (if pc < 97 then (if pc = 96 then some (.lload_n 1, 97, 1, 0, [], .null) else none) else (if pc < 100 then (if pc = 97 then some (.ldc2_w 250, 100, 0, 0, [], .long (-3)) else none) else (if pc = 100 then some (.lcmp, 101, 0, 0, [], .null) else none)))) else (if pc < 105 then (if pc < 104 then (if pc = 101 then some (.ifCond .ne 17, 104, 118, 0, [], .null) else none) else (if pc = 104 then some (.aload_n 0, 105, 0, 0, [], .null) else none)) else (if pc < 106 then (if pc = 105 then some (.aload_n 0, 106, 0, 0, [], .null) else none) else (if pc < 107 then (if pc = 106 then some (.aload_n 0, 107, 0, 0, [], .null) else none) else (if pc = 107 then some (.getfield 68, 110, 10, 29, [], .null) else none)))))) else (if pc < 127 then (if pc < 118 then (if pc < 116 then (if pc < 113 then (if pc = 110 then some (.invokevirtual 275, 113, 124, 2, [], .null) else none) else (if pc = 113 then some (.putfield 78, 116, 10, 32, [], .null) else none)) else (if pc < 117 then (if pc = 116 then some (.iconst 1, 117, 0, 0, [], .int 1) else none) else (if pc = 117 then some (.ireturn, 118, 0, 0, [], .null) else none))) else (if pc < 120 then (if pc < 119 then (if pc = 118 then some (.aload_n 0, 119, 0, 0, [], .null) else none) else (if pc = 119 then some (.aload_n 0, 120, 0, 0, [], .null) else none)) else (if pc < 123 then (if pc = 120 then some (.getfield 68, 123, 10, 29, [], .null) else none) else (if pc < 126 then (if pc = 123 then some (.invokevirtual 179, 126, 123, 2, [], .null) else none) else (if pc = 126 then some (.lstore_n 3, 127, 3, 0, [], .null) else none))))) else (if pc < 136 then (if pc < 131 then (if pc < 128 then (if pc = 127 then some (.lload_n 1, 128, 1, 0, [], .null) else none) else (if pc = 128 then some (.ldc2_w 278, 131, 0, 0, [], .long (-4)) else none)) else (if pc < 132 then (if pc = 131 then some (.lcmp, 132, 0, 0, [], .null) else none) else (if pc < 135 then (if pc = 132 then some (.ifCond .ne 41, 135, 173, 0, [], .null) else none) else (if pc = 135 then some (.lload_n 3, 136, 3, 0, [], .null) else none)))) else (if pc < 142 then (if pc < 139 then (if pc = 136 then some (.invokestatic 133, 139, 114, 1, [], .null) else none) else (if pc = 139 then some (.ifCond .ne 10, 142, 149, 0, [], .null) else none)) else (if pc < 143 then (if pc = 142 then some (.aload_n 0, 143, 0, 0, [], .null) else none) else (if pc < 145 then (if pc = 143 then some (.bipush 9, 145, 0, 0, [], .int 9) else none) else (if pc = 145 then some (.invokevirtual 172, 148, 116, 2, [], .null) else none)))))))) else (if pc < 221 then (if pc < 181 then (if pc < 161 then (if pc < 152 then (if pc < 150 then (if pc < 149 then (if pc = 148 then some (.athrow, 149, 0, 0, [], .null) else none) else (if pc = 149 then some (.aload_n 0, 150, 0, 0, [], .null) else none)) else (if pc < 151 then (if pc = 150 then some (.iconst 1, 151, 0, 0, [], .int 1) else none) else (if pc = 151 then some (.lload_n 3, 152, 3, 0, [], .null) else none))) else (if pc < 158 then (if pc < 155 then (if pc = 152 then some (.ldc2_w 66, 155, 0, 0, [], .long (-1)) else none) else (if pc = 155 then some (.invokevirtual 280, 158, 141, 4, [], .null) else none)) else (if pc < 159 then (if pc = 158 then some (.aload_n 0, 159, 0, 0, [], .null) else none) else (if pc < 160 then (if pc = 159 then some (.aload_n 0, 160, 0, 0, [], .null) else none) else (if pc = 160 then some (.aload_n 0, 161, 0, 0, [], .null) else none))))) else (if pc < 172 then (if pc < 165 then (if pc < 162 then (if pc = 161 then some (.lload_n 3, 162, 3, 0, [], .null) else none) else (if pc = 162 then some (.invokevirtual 183, 165, 122, 2, [], .null) else none)) else (if pc < 168 then (if pc = 165 then some (.invokevirtual 183, 168, 122, 2, [], .null) else none) else (if pc < 171 then (if pc = 168 then some (.putfield 68, 171, 10, 29, [], .null) else none) else (if pc = 171 then some (.iconst 0, 172, 0, 0, [], .int 0) else none)))) else (if pc < 174 then (if pc < 173 then (if pc = 172 then some (.ireturn, 173, 0, 0, [], .null) else none) else (if pc = 173 then some (.lload_n 1, 174, 1, 0, [], .null) else none)) else (if pc < 177 then (if pc = 174 then some (.ldc2_w 284, 177, 0, 0, [], .long (-5)) else none) else (if pc < 178 then (if pc = 177 then some (.lcmp, 178, 0, 0, [], .null) else none) else (if pc = 178 then some (.ifCond .ne 60, 181, 238, 0, [], .null) else none)))))) else (if pc < 199 then (if pc < 189 then (if pc < 183 then (if pc < 182 then (if pc = 181 then some (.aload_n 0, 182, 0, 0, [], .null) else none) else (if pc = 182 then some (.aload_n 0, 183, 0, 0, [], .null) else none)) else (if pc < 186 then (if pc = 183 then some (.getfield 68, 186, 10, 29, [], .null) else none) else (if pc = 186 then some (.invokevirtual 275, 189, 124, 2, [], .null) else none))) else (if pc < 192 then (if pc < 191 then (if pc = 189 then some (.lstore 5, 191, 5, 0, [], .null) else none) else (if pc = 191 then some (.aload_n 0, 192, 0, 0, [], .null) else none)) else (if pc < 193 then (if pc = 192 then some (.aload_n 0, 193, 0, 0, [], .null) else none) else (if pc < 196 then (if pc = 193 then some (.getfield 72, 196, 10, 30, [], .null) else none) else (if pc = 196 then some (.ldc2_w 66, 199, 0, 0, [], .long (-1)) else none))))) else (if pc < 210 then (if pc < 205 then (if pc < 202 then (if pc = 199 then some (.ldc2_w 66, 202, 0, 0, [], .long (-1)) else none) else (if pc = 202 then some (.invokevirtual 246, 205, 121, 4, [], .null) else none)) else (if pc < 207 then (if pc = 205 then some (.lstore 7, 207, 7, 0, [], .null) else none) else (if pc < 208 then (if pc = 207 then some (.aload_n 0, 208, 0, 0, [], .null) else none) else (if pc = 208 then some (.lload 5, 210, 5, 0, [], .null) else none)))) else (if pc < 215 then (if pc < 212 then (if pc = 210 then some (.lload 7, 212, 7, 0, [], .null) else none) else (if pc = 212 then some (.ldc2_w 66, 215, 0, 0, [], .long (-1)) else none)) else (if pc < 218 then (if pc = 215 then some (.invokevirtual 246, 218, 121, 4, [], .null) else none) else (if pc < 220 then (if pc = 218 then some (.lstore 7, 220, 7, 0, [], .null) else none) else (if pc = 220 then some (.aload_n 0, 221, 0, 0, [], .null) else none))))))) else (if pc < 259 then (if pc < 239 then (if pc < 230 then (if pc < 225 then (if pc < 222 then (if pc = 221 then some (.aload_n 0, 222, 0, 0, [], .null) else none) else (if pc = 222 then some (.ldc2_w 286, 225, 0, 0, [], .long (-8)) else none)) else (if pc < 227 then (if pc = 225 then some (.lload 7, 227, 7, 0, [], .null) else none) else (if pc = 227 then some (.ldc2_w 66, 230, 0, 0, [], .long (-1)) else none))) else (if pc < 236 then (if pc < 233 then (if pc = 230 then some (.invokevirtual 246, 233, 121, 4, [], .null) else none) else (if pc = 233 then some (.putfield 78, 236, 10, 32, [], .null) else none)) else (if pc < 237 then (if pc = 236 then some (.iconst 1, 237, 0, 0, [], .int 1) else none) else (if pc < 238 then (if pc = 237 then some (.ireturn, 238, 0, 0, [], .null) else none) else (if pc = 238 then some (.lload_n 3, 239, 3, 0, [], .null) else none))))) else (if pc < 250 then (if pc < 245 then (if pc < 242 then (if pc = 239 then some (.invokestatic 133, 242, 114, 1, [], .null) else none) else (if pc = 242 then some (.ifCond .ne 29, 245, 271, 0, [], .null) else none)) else (if pc < 246 then (if pc = 245 then some (.lload_n 3, 246, 3, 0, [], .null) else none) else (if pc < 249 then (if pc = 246 then some (.ldc2_w 66, 249, 0, 0, [], .long (-1)) else none) else (if pc = 249 then some (.lcmp, 250, 0, 0, [], .null) else none)))) else (if pc < 254 then (if pc < 253 then (if pc = 250 then some (.ifCond .eq 9, 253, 259, 0, [], .null) else none) else (if pc = 253 then some (.aload_n 0, 254, 0, 0, [], .null) else none)) else (if pc < 255 then (if pc = 254 then some (.iconst 5, 255, 0, 0, [], .int 5) else none) else (if pc < 258 then (if pc = 255 then some (.invokevirtual 172, 258, 116, 2, [], .null) else none) else (if pc = 258 then some (.athrow, 259, 0, 0, [], .null) else none)))))) else (if pc < 273 then (if pc < 266 then (if pc < 261 then (if pc < 260 then (if pc = 259 then some (.aload_n 0, 260, 0, 0, [], .null) else none) else (if pc = 260 then some (.lload_n 1, 261, 1, 0, [], .null) else none)) else (if pc < 264 then (if pc = 261 then some (.putfield 75, 264, 10, 31, [], .null) else none) else (if pc < 265 then (if pc = 264 then some (.aload_n 0, 265, 0, 0, [], .null) else none) else (if pc = 265 then some (.iconst 0, 266, 0, 0, [], .int 0) else none)))) else (if pc < 270 then (if pc < 269 then (if pc = 266 then some (.putfield 156, 269, 10, 34, [], .null) else none) else (if pc = 269 then some (.iconst 2, 270, 0, 0, [], .int 2) else none)) else (if pc < 271 then (if pc = 270 then some (.ireturn, 271, 0, 0, [], .null) else none) else (if pc < 272 then (if pc = 271 then some (.aload_n 0, 272, 0, 0, [], .null) else none) else (if pc = 272 then some (.iconst 0, 273, 0, 0, [], .int 0) else none))))) else (if pc < 280 then (if pc < 275 then (if pc < 274 then (if pc = 273 then some (.lload_n 3, 274, 3, 0, [], .null) else none) else (if pc = 274 then some (.lload_n 1, 275, 1, 0, [], .null) else none)) else (if pc < 278 then (if pc = 275 then some (.invokevirtual 280, 278, 141, 4, [], .null) else none) else (if pc < 279 then (if pc = 278 then some (.aload_n 0, 279, 0, 0, [], .null) else none) else (if pc = 279 then some (.aload_n 0, 280, 0, 0, [], .null) else none)))) else (if pc < 284 then (if pc < 281 then (if pc = 280 then some (.lload_n 3, 281, 3, 0, [], .null) else none) else (if pc = 281 then some (.invokevirtual 183, 284, 122, 2, [], .null) else none)) else (if pc < 287 then (if pc = 284 then some (.putfield 68, 287, 10, 29, [], .null) else none) else (if pc < 288 then (if pc = 287 then some (.iconst 0, 288, 0, 0, [], .int 0) else none) else (if pc = 288 then some (.ireturn, 289, 0, 0, [], .null) else none))))))))) else none
set_option maxRecDepth 20000 in
def cdX10_returns : PCode := fun pc => if pc < 318 then (if pc < 164 then (if pc < 80 then (if pc < 41 then (if pc < 17 then (if pc < 9 then (if pc < 4 then (if pc < 1 then (if pc = 0 then some (.aload_n 0, 1, 0, 0, [], .null) else none) else (if pc = 1 then some (.getfield 159, 4, 10, 41, [], .null) else none)) else (if pc < 7 then (if pc = 4 then some (.ifCond .ne 5, 7, 9, 0, [], .null) else none) else (if pc < 8 then (if pc = 7 then some (.iconst 3, 8, 0, 0, [], .int 3) else none) else (if pc = 8 then some (.ireturn, 9, 0, 0, [], .null) else none)))) else (if pc < 14 then (if pc < 10 then (if pc = 9 then some (.aload_n 0, 10, 0, 0, [], .null) else none) else (if pc < 13 then (if pc = 10 then some (.getfield 159, 13, 10, 41, [], .null) else none) else (if pc = 13 then some (.iconst 1, 14, 0, 0, [], .int 1) else none))) else (if pc < 15 then (if pc = 14 then some (.isub, 15, 0, 0, [], .null) else none) else (if pc < 16 then (if pc = 15 then some (.istore_n 1, 16, 1, 0, [], .null) else none) else (if pc = 16 then some (.aload_n 0, 17, 0, 0, [], .null) else none))))) else (if pc < 29 then (if pc < 22 then (if pc < 20 then (if pc = 17 then some (.getfield 84, 20, 10, 35, [], .null) else none) else (if pc < 21 then (if pc = 20 then some (.iload_n 1, 21, 1, 0, [], .null) else none) else (if pc = 21 then some (.baload, 22, 0, 0, [], .null) else none))) else (if pc < 25 then (if pc = 22 then some (.ifCond .eq 110, 25, 132, 0, [], .null) else none) else (if pc < 26 then (if pc = 25 then some (.aload_n 0, 26, 0, 0, [], .null) else none) else (if pc = 26 then some (.getfield 78, 29, 10, 32, [], .null) else none)))) else (if pc < 36 then (if pc < 32 then (if pc = 29 then some (.ldc2_w 66, 32, 0, 0, [], .long (-1)) else none) else (if pc < 33 then (if pc = 32 then some (.lcmp, 33, 0, 0, [], .null) else none) else (if pc = 33 then some (.ifCond .ne 59, 36, 92, 0, [], .null) else none))) else (if pc < 37 then (if pc = 36 then some (.aload_n 0, 37, 0, 0, [], .null) else none) else (if pc < 40 then (if pc = 37 then some (.getfield 87, 40, 10, 36, [], .null) else none) else (if pc = 40 then some (.iload_n 1, 41, 1, 0, [], .null) else none)))))) else (if pc < 61 then (if pc < 51 then (if pc < 46 then (if pc < 42 then (if pc = 41 then some (.aload_n 0, 42, 0, 0, [], .null) else none) else (if pc < 43 then (if pc = 42 then some (.aload_n 0, 43, 0, 0, [], .null) else none) else (if pc = 43 then some (.getfield 87, 46, 10, 36, [], .null) else none))) else (if pc < 47 then (if pc = 46 then some (.iload_n 1, 47, 1, 0, [], .null) else none) else (if pc < 48 then (if pc = 47 then some (.laload, 48, 0, 0, [], .null) else none) else (if pc = 48 then some (.invokevirtual 179, 51, 123, 2, [], .null) else none)))) else (if pc < 56 then (if pc < 52 then (if pc = 51 then some (.lastore, 52, 0, 0, [], .null) else none) else (if pc < 53 then (if pc = 52 then some (.aload_n 0, 53, 0, 0, [], .null) else none) else (if pc = 53 then some (.getfield 87, 56, 10, 36, [], .null) else none))) else (if pc < 57 then (if pc = 56 then some (.iload_n 1, 57, 1, 0, [], .null) else none) else (if pc < 58 then (if pc = 57 then some (.laload, 58, 0, 0, [], .null) else none) else (if pc = 58 then some (.invokestatic 133, 61, 114, 1, [], .null) else none))))) else (if pc < 72 then (if pc < 67 then (if pc < 64 then (if pc = 61 then some (.ifCond .ne 10, 64, 71, 0, [], .null) else none) else (if pc < 65 then (if pc = 64 then some (.aload_n 0, 65, 0, 0, [], .null) else none) else (if pc = 65 then some (.bipush 9, 67, 0, 0, [], .int 9) else none))) else (if pc < 70 then (if pc = 67 then some (.invokevirtual 172, 70, 116, 2, [], .null) else none) else (if pc < 71 then (if pc = 70 then some (.athrow, 71, 0, 0, [], .null) else none) else (if pc = 71 then some (.aload_n 0, 72, 0, 0, [], .null) else none)))) else (if pc < 75 then (if pc < 73 then (if pc = 72 then some (.aload_n 0, 73, 0, 0, [], .null) else none) else (if pc < 74 then (if pc = 73 then some (.aload_n 0, 74, 0, 0, [], .null) else none) else (if pc = 74 then some (.aload_n 0, 75, 0, 0, [], .null) else none))) else (if pc < 78 then (if pc = 75 then some (.getfield 87, 78, 10, 36, [], .null) else none) else (if pc < 79 then (if pc = 78 then some (.iload_n 1, 79, 1, 0, [], .null) else none) else (if pc = 79 then some (.laload, 80, 0, 0, [], .null) else none))))))) else (if pc < 125 then (if pc < 103 then (if pc < 93 then (if pc < 86 then (if pc < 83 then (if pc = 80 then some (.invokevirtual 183, 83, 122, 2, [], .null) else none) else (if pc = 83 then some (.invokevirtual 183, 86, 122, 2, [], .null) else none)) else (if pc < 89 then (if pc = 86 then some (.putfield 68, 89, 10, 29, [], .null) else none) else (if pc < 92 then (if pc = 89 then some (.goto 31, 92, 120, 0, [], .null) else none) else (if pc = 92 then some (.aload_n 0, 93, 0, 0, [], .null) else none)))) else (if pc < 98 then (if pc < 94 then (if pc = 93 then some (.dup, 94, 0, 0, [], .null) else none) else (if pc < 97 then (if pc = 94 then some (.getfield 159, 97, 10, 41, [], .null) else none) else (if pc = 97 then some (.iconst 1, 98, 0, 0, [], .int 1) else none))) else (if pc < 99 then (if pc = 98 then some (.isub, 99, 0, 0, [], .null) else none) else (if pc < 102 then (if pc = 99 then some (.putfield 159, 102, 10, 41, [], .null) else none) else (if pc = 102 then some (.aload_n 0, 103, 0, 0, [], .null) else none))))) else (if pc < 111 then (if pc < 106 then (if pc < 104 then (if pc = 103 then some (.aload_n 0, 104, 0, 0, [], .null) else none) else (if pc < 105 then (if pc = 104 then some (.aload_n 0, 105, 0, 0, [], .null) else none) else (if pc = 105 then some (.aload_n 0, 106, 0, 0, [], .null) else none))) else (if pc < 109 then (if pc = 106 then some (.getfield 87, 109, 10, 36, [], .null) else none) else (if pc < 110 then (if pc = 109 then some (.iload_n 1, 110, 1, 0, [], .null) else none) else (if pc = 110 then some (.laload, 111, 0, 0, [], .null) else none)))) else (if pc < 120 then (if pc < 114 then (if pc = 111 then some (.invokevirtual 183, 114, 122, 2, [], .null) else none) else (if pc < 117 then (if pc = 114 then some (.invokevirtual 275, 117, 124, 2, [], .null) else none) else (if pc = 117 then some (.putfield 68, 120, 10, 29, [], .null) else none))) else (if pc < 121 then (if pc = 120 then some (.aload_n 0, 121, 0, 0, [], .null) else none) else (if pc < 122 then (if pc = 121 then some (.aload_n 0, 122, 0, 0, [], .null) else none) else (if pc = 122 then some (.getfield 90, 125, 10, 37, [], .null) else none)))))) else (if pc < 144 then (if pc < 133 then (if pc < 130 then (if pc < 126 then (if pc = 125 then some (.iload_n 1, 126, 1, 0, [], .null) else none) else (if pc < 127 then (if pc = 126 then some (.laload, 127, 0, 0, [], .null) else none) else (if pc = 127 then some (.putfield 72, 130, 10, 30, [], .null) else none))) else (if pc < 131 then (if pc = 130 then some (.iconst 0, 131, 0, 0, [], .int 0) else none) else (if pc < 132 then (if pc = 131 then some (.ireturn, 132, 0, 0, [], .null) else none) else (if pc = 132 then some (.aload_n 0, 133, 0, 0, [], .null) else none)))) else (if pc < 138 then (if pc < 136 then (if pc = 133 then some (.getfield 99, 136, 10, 40, [], .null) else none) else (if pc < 137 then (if pc = 136 then some (.iload_n 1, 137, 1, 0, [], .null) else none) else (if pc = 137 then some (.iaload, 138, 0, 0, [], .null) else none))) else (if pc < 140 then (if pc = 138 then some (.bipush 10, 140, 0, 0, [], .int 10) else none) else (if pc < 143 then (if pc = 140 then some (.if_icmp .ne 10, 143, 150, 0, [], .null) else none) else (if pc = 143 then some (.aload_n 0, 144, 0, 0, [], .null) else none))))) else (if pc < 156 then (if pc < 150 then (if pc < 146 then (if pc = 144 then some (.bipush 11, 146, 0, 0, [], .int 11) else none) else (if pc < 149 then (if pc = 146 then some (.invokevirtual 172, 149, 116, 2, [], .null) else none) else (if pc = 149 then some (.athrow, 150, 0, 0, [], .null) else none))) else (if pc < 151 then (if pc = 150 then some (.aload_n 0, 151, 0, 0, [], .null) else none) else (if pc < 154 then (if pc = 151 then some (.getfield 96, 154, 10, 39, [], .null) else none) else (if pc = 154 then some (.bipush 10, 156, 0, 0, [], .int 10) else none)))) else (if pc < 159 then (if pc < 157 then (if pc = 156 then some (.iload_n 1, 157, 1, 0, [], .null) else none) else (if pc < 158 then (if pc = 157 then some (.imul, 158, 0, 0, [], .null) else none) else (if pc = 158 then some (.aload_n 0, 159, 0, 0, [], .null) else none))) else (if pc < 162 then (if pc = 159 then some (.getfield 99, 162, 10, 40, [], .null) else none) else (if pc < 163 then (if pc = 162 then some (.iload_n 1, 163, 1, 0, [], .null) else none) else (if pc = 163 then some (.iaload, 164, 0, 0, [], .null) else none)))))))) else (if pc < 239 then (if pc < 197 then (if pc < 179 then (if pc < 171 then (if pc < 166 then (if pc < 165 then (if pc = 164 then some (.iadd, 165, 0, 0, [], .null) else none) else (if pc = 165 then some (.aload_n 0, 166, 0, 0, [], .null) else none)) else (if pc < 169 then (if pc = 166 then some (.getfield 78, 169, 10, 32, [], .null) else none) else (if pc < 170 then (if pc = 169 then some (.lastore, 170, 0, 0, [], .null) else none) else (if pc = 170 then some (.aload_n 0, 171, 0, 0, [], .null) else none)))) else (if pc < 176 then (if pc < 174 then (if pc = 171 then some (.getfield 99, 174, 10, 40, [], .null) else none) else (if pc < 175 then (if pc = 174 then some (.iload_n 1, 175, 1, 0, [], .null) else none) else (if pc = 175 then some (.dup2, 176, 0, 0, [], .null) else none))) else (if pc < 177 then (if pc = 176 then some (.iaload, 177, 0, 0, [], .null) else none) else (if pc < 178 then (if pc = 177 then some (.iconst 1, 178, 0, 0, [], .int 1) else none) else (if pc = 178 then some (.iadd, 179, 0, 0, [], .null) else none))))) else (if pc < 187 then (if pc < 184 then (if pc < 180 then (if pc = 179 then some (.iastore, 180, 0, 0, [], .null) else none) else (if pc < 181 then (if pc = 180 then some (.aload_n 0, 181, 0, 0, [], .null) else none) else (if pc = 181 then some (.getfield 87, 184, 10, 36, [], .null) else none))) else (if pc < 185 then (if pc = 184 then some (.iload_n 1, 185, 1, 0, [], .null) else none) else (if pc < 186 then (if pc = 185 then some (.aload_n 0, 186, 0, 0, [], .null) else none) else (if pc = 186 then some (.aload_n 0, 187, 0, 0, [], .null) else none)))) else (if pc < 192 then (if pc < 190 then (if pc = 187 then some (.getfield 87, 190, 10, 36, [], .null) else none) else (if pc < 191 then (if pc = 190 then some (.iload_n 1, 191, 1, 0, [], .null) else none) else (if pc = 191 then some (.laload, 192, 0, 0, [], .null) else none))) else (if pc < 195 then (if pc = 192 then some (.invokevirtual 179, 195, 123, 2, [], .null) else none) else (if pc < 196 then (if pc = 195 then some (.lastore, 196, 0, 0, [], .null) else none) else (if pc = 196 then some (.aload_n 0, 197, 0, 0, [], .null) else none)))))) else (if pc < 219 then (if pc < 207 then (if pc < 202 then (if pc < 198 then (if pc = 197 then some (.aload_n 0, 198, 0, 0, [], .null) else none) else (if pc < 201 then (if pc = 198 then some (.getfield 90, 201, 10, 37, [], .null) else none) else (if pc = 201 then some (.iload_n 1, 202, 1, 0, [], .null) else none))) else (if pc < 203 then (if pc = 202 then some (.laload, 203, 0, 0, [], .null) else none) else (if pc < 206 then (if pc = 203 then some (.putfield 72, 206, 10, 30, [], .null) else none) else (if pc = 206 then some (.aload_n 0, 207, 0, 0, [], .null) else none)))) else (if pc < 212 then (if pc < 210 then (if pc = 207 then some (.getfield 87, 210, 10, 36, [], .null) else none) else (if pc < 211 then (if pc = 210 then some (.iload_n 1, 211, 1, 0, [], .null) else none) else (if pc = 211 then some (.laload, 212, 0, 0, [], .null) else none))) else (if pc < 215 then (if pc = 212 then some (.invokestatic 133, 215, 114, 1, [], .null) else none) else (if pc < 218 then (if pc = 215 then some (.ifCond .eq 19, 218, 234, 0, [], .null) else none) else (if pc = 218 then some (.aload_n 0, 219, 0, 0, [], .null) else none))))) else (if pc < 229 then (if pc < 224 then (if pc < 220 then (if pc = 219 then some (.aload_n 0, 220, 0, 0, [], .null) else none) else (if pc < 221 then (if pc = 220 then some (.aload_n 0, 221, 0, 0, [], .null) else none) else (if pc = 221 then some (.getfield 87, 224, 10, 36, [], .null) else none))) else (if pc < 225 then (if pc = 224 then some (.iload_n 1, 225, 1, 0, [], .null) else none) else (if pc < 226 then (if pc = 225 then some (.laload, 226, 0, 0, [], .null) else none) else (if pc = 226 then some (.invokevirtual 183, 229, 122, 2, [], .null) else none)))) else (if pc < 234 then (if pc < 232 then (if pc = 229 then some (.putfield 68, 232, 10, 29, [], .null) else none) else (if pc < 233 then (if pc = 232 then some (.iconst 0, 233, 0, 0, [], .int 0) else none) else (if pc = 233 then some (.ireturn, 234, 0, 0, [], .null) else none))) else (if pc < 235 then (if pc = 234 then some (.aload_n 0, 235, 0, 0, [], .null) else none) else (if pc < 238 then (if pc = 235 then some (.getfield 87, 238, 10, 36, [], .null) else none) else (if pc = 238 then some (.iload_n 1, 239, 1, 0, [], .null) else none))))))) else (if pc < 279 then (if pc < 259 then (if pc < 249 then (if pc < 244 then (if pc < 240 then (if pc = 239 then some (.laload, 240, 0, 0, [], .null) else none) else (if pc < 243 then (if pc = 240 then some (.ldc2_w 66, 243, 0, 0, [], .long (-1)) else none) else (if pc = 243 then some (.lcmp, 244, 0, 0, [], .null) else none))) else (if pc < 247 then (if pc = 244 then some (.ifCond .eq 9, 247, 253, 0, [], .null) else none) else (if pc < 248 then (if pc = 247 then some (.aload_n 0, 248, 0, 0, [], .null) else none) else (if pc = 248 then some (.iconst 5, 249, 0, 0, [], .int 5) else none)))) else (if pc < 254 then (if pc < 252 then (if pc = 249 then some (.invokevirtual 172, 252, 116, 2, [], .null) else none) else (if pc < 253 then (if pc = 252 then some (.athrow, 253, 0, 0, [], .null) else none) else (if pc = 253 then some (.aload_n 0, 254, 0, 0, [], .null) else none))) else (if pc < 255 then (if pc = 254 then some (.dup, 255, 0, 0, [], .null) else none) else (if pc < 258 then (if pc = 255 then some (.getfield 159, 258, 10, 41, [], .null) else none) else (if pc = 258 then some (.iconst 1, 259, 0, 0, [], .int 1) else none))))) else (if pc < 269 then (if pc < 264 then (if pc < 260 then (if pc = 259 then some (.isub, 260, 0, 0, [], .null) else none) else (if pc < 263 then (if pc = 260 then some (.putfield 159, 263, 10, 41, [], .null) else none) else (if pc = 263 then some (.aload_n 0, 264, 0, 0, [], .null) else none))) else (if pc < 265 then (if pc = 264 then some (.aload_n 0, 265, 0, 0, [], .null) else none) else (if pc < 268 then (if pc = 265 then some (.getfield 93, 268, 10, 38, [], .null) else none) else (if pc = 268 then some (.iload_n 1, 269, 1, 0, [], .null) else none)))) else (if pc < 274 then (if pc < 270 then (if pc = 269 then some (.laload, 270, 0, 0, [], .null) else none) else (if pc < 273 then (if pc = 270 then some (.putfield 75, 273, 10, 31, [], .null) else none) else (if pc = 273 then some (.aload_n 0, 274, 0, 0, [], .null) else none))) else (if pc < 275 then (if pc = 274 then some (.aload_n 0, 275, 0, 0, [], .null) else none) else (if pc < 278 then (if pc = 275 then some (.getfield 99, 278, 10, 40, [], .null) else none) else (if pc = 278 then some (.iload_n 1, 279, 1, 0, [], .null) else none)))))) else (if pc < 299 then (if pc < 287 then (if pc < 284 then (if pc < 280 then (if pc = 279 then some (.iaload, 280, 0, 0, [], .null) else none) else (if pc < 283 then (if pc = 280 then some (.putfield 156, 283, 10, 34, [], .null) else none) else (if pc = 283 then some (.iconst 0, 284, 0, 0, [], .int 0) else none))) else (if pc < 285 then (if pc = 284 then some (.istore_n 2, 285, 2, 0, [], .null) else none) else (if pc < 286 then (if pc = 285 then some (.iload_n 2, 286, 2, 0, [], .null) else none) else (if pc = 286 then some (.aload_n 0, 287, 0, 0, [], .null) else none)))) else (if pc < 294 then (if pc < 290 then (if pc = 287 then some (.getfield 156, 290, 10, 34, [], .null) else none) else (if pc < 293 then (if pc = 290 then some (.if_icmp .ge 26, 293, 316, 0, [], .null) else none) else (if pc = 293 then some (.aload_n 0, 294, 0, 0, [], .null) else none))) else (if pc < 297 then (if pc = 294 then some (.getfield 81, 297, 10, 33, [], .null) else none) else (if pc < 298 then (if pc = 297 then some (.iload_n 2, 298, 2, 0, [], .null) else none) else (if pc = 298 then some (.aload_n 0, 299, 0, 0, [], .null) else none))))) else (if pc < 308 then (if pc < 305 then (if pc < 302 then (if pc = 299 then some (.getfield 96, 302, 10, 39, [], .null) else none) else (if pc < 304 then (if pc = 302 then some (.bipush 10, 304, 0, 0, [], .int 10) else none) else (if pc = 304 then some (.iload_n 1, 305, 1, 0, [], .null) else none))) else (if pc < 306 then (if pc = 305 then some (.imul, 306, 0, 0, [], .null) else none) else (if pc < 307 then (if pc = 306 then some (.iload_n 2, 307, 2, 0, [], .null) else none) else (if pc = 307 then some (.iadd, 308, 0, 0, [], .null) else none)))) else (if pc < 313 then (if pc < 309 then (if pc = 308 then some (.laload, 309, 0, 0, [], .null) else none) else (if pc < 310 then (if pc = 309 then some (.lastore, 310, 0, 0, [], .null) else none) else (if pc = 310 then some (.iinc 2 1, 313, 2, 0, [], .int 1) else none))) else (if pc < 316 then (if pc = 313 then some (.goto (-28), 316, 285, 0, [], .null) else none) else (if pc < 317 then (if pc = 316 then some (.iconst 2, 317, 0, 0, [], .int 2) else none) else (if pc = 317 then some (.ireturn, 318, 0, 0, [], .null) else none))))))))) else none
set_option maxRecDepth 20000 in
def cdX10_applies : PCode := fun pc => if pc < 246 then (if pc < 121 then (if pc < 60 then (if pc < 32 then (if pc < 18 then (if pc < 10 then (if pc < 4 then (if pc < 1 then (if pc = 0 then some (.aload_n 0, 1, 0, 0, [], .null) else none) else (if pc = 1 then some (.getfield 75, 4, 10, 31, [], .null) else none)) else (if pc < 7 then (if pc = 4 then some (.invokestatic 269, 7, 112, 1, [], .null) else none) else (if pc = 7 then some (.ifCond .eq 88, 10, 95, 0, [], .null) else none))) else (if pc < 14 then (if pc < 11 then (if pc = 10 then some (.aload_n 0, 11, 0, 0, [], .null) else none) else (if pc = 11 then some (.getfield 75, 14, 10, 31, [], .null) else none)) else (if pc < 17 then (if pc = 14 then some (.invokestatic 288, 17, 115, 1, [], .null) else none) else (if pc = 17 then some (.istore_n 1, 18, 1, 0, [], .null) else none)))) else (if pc < 24 then (if pc < 22 then (if pc < 19 then (if pc = 18 then some (.aload_n 0, 19, 0, 0, [], .null) else none) else (if pc = 19 then some (.getfield 16, 22, 10, 3, [], .null) else none)) else (if pc < 23 then (if pc = 22 then some (.iload_n 1, 23, 1, 0, [], .null) else none) else (if pc = 23 then some (.baload, 24, 0, 0, [], .null) else none))) else (if pc < 28 then (if pc < 27 then (if pc = 24 then some (.ifCond .eq 15, 27, 39, 0, [], .null) else none) else (if pc = 27 then some (.aload_n 0, 28, 0, 0, [], .null) else none)) else (if pc < 29 then (if pc = 28 then some (.aload_n 0, 29, 0, 0, [], .null) else none) else (if pc = 29 then some (.getfield 20, 32, 10, 4, [], .null) else none))))) else (if pc < 45 then (if pc < 38 then (if pc < 34 then (if pc < 33 then (if pc = 32 then some (.iload_n 1, 33, 1, 0, [], .null) else none) else (if pc = 33 then some (.laload, 34, 0, 0, [], .null) else none)) else (if pc < 37 then (if pc = 34 then some (.putfield 75, 37, 10, 31, [], .null) else none) else (if pc = 37 then some (.iconst 2, 38, 0, 0, [], .int 2) else none))) else (if pc < 40 then (if pc < 39 then (if pc = 38 then some (.ireturn, 39, 0, 0, [], .null) else none) else (if pc = 39 then some (.iload_n 1, 40, 1, 0, [], .null) else none)) else (if pc < 42 then (if pc = 40 then some (.bipush 8, 42, 0, 0, [], .int 8) else none) else (if pc = 42 then some (.if_icmp .lt 18, 45, 60, 0, [], .null) else none)))) else (if pc < 52 then (if pc < 48 then (if pc < 46 then (if pc = 45 then some (.iload_n 1, 46, 1, 0, [], .null) else none) else (if pc = 46 then some (.bipush 22, 48, 0, 0, [], .int 22) else none)) else (if pc < 51 then (if pc = 48 then some (.if_icmp .gt 12, 51, 60, 0, [], .null) else none) else (if pc = 51 then some (.aload_n 0, 52, 0, 0, [], .null) else none))) else (if pc < 55 then (if pc < 53 then (if pc = 52 then some (.iload_n 1, 53, 1, 0, [], .null) else none) else (if pc = 53 then some (.bipush 8, 55, 0, 0, [], .int 8) else none)) else (if pc < 56 then (if pc = 55 then some (.isub, 56, 0, 0, [], .null) else none) else (if pc < 59 then (if pc = 56 then some (.invokevirtual 292, 59, 149, 2, [], .null) else none) else (if pc = 59 then some (.ireturn, 60, 0, 0, [], .null) else none))))))) else (if pc < 87 then (if pc < 74 then (if pc < 68 then (if pc < 62 then (if pc < 61 then (if pc = 60 then some (.aload_n 0, 61, 0, 0, [], .null) else none) else (if pc = 61 then some (.aload_n 0, 62, 0, 0, [], .null) else none)) else (if pc < 65 then (if pc = 62 then some (.getfield 75, 65, 10, 31, [], .null) else none) else (if pc = 65 then some (.invokevirtual 272, 68, 140, 2, [], .null) else none))) else (if pc < 70 then (if pc < 69 then (if pc = 68 then some (.lstore_n 2, 69, 2, 0, [], .null) else none) else (if pc = 69 then some (.lload_n 2, 70, 2, 0, [], .null) else none)) else (if pc < 73 then (if pc = 70 then some (.ldc2_w 66, 73, 0, 0, [], .long (-1)) else none) else (if pc = 73 then some (.lcmp, 74, 0, 0, [], .null) else none)))) else (if pc < 83 then (if pc < 78 then (if pc < 77 then (if pc = 74 then some (.ifCond .ne 10, 77, 84, 0, [], .null) else none) else (if pc = 77 then some (.aload_n 0, 78, 0, 0, [], .null) else none)) else (if pc < 80 then (if pc = 78 then some (.bipush 10, 80, 0, 0, [], .int 10) else none) else (if pc = 80 then some (.invokevirtual 172, 83, 116, 2, [], .null) else none))) else (if pc < 85 then (if pc < 84 then (if pc = 83 then some (.athrow, 84, 0, 0, [], .null) else none) else (if pc = 84 then some (.aload_n 0, 85, 0, 0, [], .null) else none)) else (if pc < 86 then (if pc = 85 then some (.aload_n 0, 86, 0, 0, [], .null) else none) else (if pc = 86 then some (.lload_n 2, 87, 2, 0, [], .null) else none))))) else (if pc < 105 then (if pc < 95 then (if pc < 93 then (if pc < 90 then (if pc = 87 then some (.invokevirtual 179, 90, 123, 2, [], .null) else none) else (if pc = 90 then some (.putfield 75, 93, 10, 31, [], .null) else none)) else (if pc < 94 then (if pc = 93 then some (.iconst 2, 94, 0, 0, [], .int 2) else none) else (if pc = 94 then some (.ireturn, 95, 0, 0, [], .null) else none))) else (if pc < 99 then (if pc < 96 then (if pc = 95 then some (.aload_n 0, 96, 0, 0, [], .null) else none) else (if pc = 96 then some (.getfield 75, 99, 10, 31, [], .null) else none)) else (if pc < 102 then (if pc = 99 then some (.invokestatic 264, 102, 113, 1, [], .null) else none) else (if pc = 102 then some (.ifCond .eq 10, 105, 112, 0, [], .null) else none)))) else (if pc < 112 then (if pc < 108 then (if pc < 106 then (if pc = 105 then some (.aload_n 0, 106, 0, 0, [], .null) else none) else (if pc = 106 then some (.bipush 10, 108, 0, 0, [], .int 10) else none)) else (if pc < 111 then (if pc = 108 then some (.invokevirtual 172, 111, 116, 2, [], .null) else none) else (if pc = 111 then some (.athrow, 112, 0, 0, [], .null) else none))) else (if pc < 114 then (if pc < 113 then (if pc = 112 then some (.aload_n 0, 113, 0, 0, [], .null) else none) else (if pc = 113 then some (.aload_n 0, 114, 0, 0, [], .null) else none)) else (if pc < 117 then (if pc = 114 then some (.getfield 75, 117, 10, 31, [], .null) else none) else (if pc < 120 then (if pc = 117 then some (.invokevirtual 183, 120, 122, 2, [], .null) else none) else (if pc = 120 then some (.lstore_n 1, 121, 1, 0, [], .null) else none)))))))) else (if pc < 182 then (if pc < 151 then (if pc < 135 then (if pc < 129 then (if pc < 125 then (if pc < 122 then (if pc = 121 then some (.lload_n 1, 122, 1, 0, [], .null) else none) else (if pc = 122 then some (.ldc2_w 295, 125, 0, 0, [], .long (-6)) else none)) else (if pc < 126 then (if pc = 125 then some (.lcmp, 126, 0, 0, [], .null) else none) else (if pc = 126 then some (.ifCond .ne 8, 129, 134, 0, [], .null) else none))) else (if pc < 133 then (if pc < 130 then (if pc = 129 then some (.aload_n 0, 130, 0, 0, [], .null) else none) else (if pc = 130 then some (.invokevirtual 297, 133, 146, 1, [], .null) else none)) else (if pc < 134 then (if pc = 133 then some (.ireturn, 134, 0, 0, [], .null) else none) else (if pc = 134 then some (.lload_n 1, 135, 1, 0, [], .null) else none)))) else (if pc < 143 then (if pc < 139 then (if pc < 138 then (if pc = 135 then some (.ldc2_w 300, 138, 0, 0, [], .long (-7)) else none) else (if pc = 138 then some (.lcmp, 139, 0, 0, [], .null) else none)) else (if pc < 142 then (if pc = 139 then some (.ifCond .ne 64, 142, 203, 0, [], .null) else none) else (if pc = 142 then some (.aload_n 0, 143, 0, 0, [], .null) else none))) else (if pc < 147 then (if pc < 144 then (if pc = 143 then some (.aload_n 0, 144, 0, 0, [], .null) else none) else (if pc = 144 then some (.getfield 75, 147, 10, 31, [], .null) else none)) else (if pc < 150 then (if pc = 147 then some (.invokevirtual 275, 150, 124, 2, [], .null) else none) else (if pc = 150 then some (.lstore_n 3, 151, 3, 0, [], .null) else none))))) else (if pc < 166 then (if pc < 159 then (if pc < 153 then (if pc < 152 then (if pc = 151 then some (.aload_n 0, 152, 0, 0, [], .null) else none) else (if pc = 152 then some (.aload_n 0, 153, 0, 0, [], .null) else none)) else (if pc < 156 then (if pc = 153 then some (.getfield 75, 156, 10, 31, [], .null) else none) else (if pc = 156 then some (.invokevirtual 302, 159, 125, 2, [], .null) else none))) else (if pc < 162 then (if pc < 161 then (if pc = 159 then some (.lstore 5, 161, 5, 0, [], .null) else none) else (if pc = 161 then some (.aload_n 0, 162, 0, 0, [], .null) else none)) else (if pc < 163 then (if pc = 162 then some (.lload_n 3, 163, 3, 0, [], .null) else none) else (if pc = 163 then some (.invokevirtual 305, 166, 145, 2, [], .null) else none)))) else (if pc < 173 then (if pc < 168 then (if pc < 167 then (if pc = 166 then some (.aload_n 0, 167, 0, 0, [], .null) else none) else (if pc = 167 then some (.lload_n 3, 168, 3, 0, [], .null) else none)) else (if pc < 170 then (if pc = 168 then some (.lload 5, 170, 5, 0, [], .null) else none) else (if pc = 170 then some (.ldc2_w 66, 173, 0, 0, [], .long (-1)) else none))) else (if pc < 178 then (if pc < 176 then (if pc = 173 then some (.invokevirtual 246, 176, 121, 4, [], .null) else none) else (if pc = 176 then some (.lstore 7, 178, 7, 0, [], .null) else none)) else (if pc < 179 then (if pc = 178 then some (.aload_n 0, 179, 0, 0, [], .null) else none) else (if pc < 180 then (if pc = 179 then some (.aload_n 0, 180, 0, 0, [], .null) else none) else (if pc = 180 then some (.lload 7, 182, 7, 0, [], .null) else none))))))) else (if pc < 217 then (if pc < 201 then (if pc < 192 then (if pc < 186 then (if pc < 183 then (if pc = 182 then some (.aload_n 0, 183, 0, 0, [], .null) else none) else (if pc = 183 then some (.getfield 72, 186, 10, 30, [], .null) else none)) else (if pc < 189 then (if pc = 186 then some (.ldc2_w 66, 189, 0, 0, [], .long (-1)) else none) else (if pc = 189 then some (.invokevirtual 246, 192, 121, 4, [], .null) else none))) else (if pc < 196 then (if pc < 195 then (if pc = 192 then some (.putfield 72, 195, 10, 30, [], .null) else none) else (if pc = 195 then some (.aload_n 0, 196, 0, 0, [], .null) else none)) else (if pc < 198 then (if pc = 196 then some (.lload 5, 198, 5, 0, [], .null) else none) else (if pc = 198 then some (.putfield 75, 201, 10, 31, [], .null) else none)))) else (if pc < 207 then (if pc < 203 then (if pc < 202 then (if pc = 201 then some (.iconst 2, 202, 0, 0, [], .int 2) else none) else (if pc = 202 then some (.ireturn, 203, 0, 0, [], .null) else none)) else (if pc < 204 then (if pc = 203 then some (.lload_n 1, 204, 1, 0, [], .null) else none) else (if pc = 204 then some (.ldc2_w 286, 207, 0, 0, [], .long (-8)) else none))) else (if pc < 211 then (if pc < 208 then (if pc = 207 then some (.lcmp, 208, 0, 0, [], .null) else none) else (if pc = 208 then some (.ifCond .eq 10, 211, 218, 0, [], .null) else none)) else (if pc < 212 then (if pc = 211 then some (.aload_n 0, 212, 0, 0, [], .null) else none) else (if pc < 214 then (if pc = 212 then some (.bipush 10, 214, 0, 0, [], .int 10) else none) else (if pc = 214 then some (.invokevirtual 172, 217, 116, 2, [], .null) else none)))))) else (if pc < 229 then (if pc < 223 then (if pc < 219 then (if pc < 218 then (if pc = 217 then some (.athrow, 218, 0, 0, [], .null) else none) else (if pc = 218 then some (.aload_n 0, 219, 0, 0, [], .null) else none)) else (if pc < 220 then (if pc = 219 then some (.aload_n 0, 220, 0, 0, [], .null) else none) else (if pc = 220 then some (.getfield 75, 223, 10, 31, [], .null) else none))) else (if pc < 227 then (if pc < 226 then (if pc = 223 then some (.invokevirtual 275, 226, 124, 2, [], .null) else none) else (if pc = 226 then some (.lstore_n 3, 227, 3, 0, [], .null) else none)) else (if pc < 228 then (if pc = 227 then some (.aload_n 0, 228, 0, 0, [], .null) else none) else (if pc = 228 then some (.aload_n 0, 229, 0, 0, [], .null) else none)))) else (if pc < 239 then (if pc < 233 then (if pc < 230 then (if pc = 229 then some (.aload_n 0, 230, 0, 0, [], .null) else none) else (if pc = 230 then some (.getfield 75, 233, 10, 31, [], .null) else none)) else (if pc < 236 then (if pc = 233 then some (.invokevirtual 302, 236, 125, 2, [], .null) else none) else (if pc = 236 then some (.putfield 72, 239, 10, 30, [], .null) else none))) else (if pc < 241 then (if pc < 240 then (if pc = 239 then some (.aload_n 0, 240, 0, 0, [], .null) else none) else (if pc = 240 then some (.lload_n 3, 241, 3, 0, [], .null) else none)) else (if pc < 244 then (if pc = 241 then some (.putfield 75, 244, 10, 31, [], .null) else none) else (if pc < 245 then (if pc = 244 then some (.iconst 2, 245, 0, 0, [], .int 2) else none) else (if pc = 245 then some (.ireturn, 246, 0, 0, [], .null) else none))))))))) else none
set_option maxRecDepth 20000 in
def cdX10_variable : PCode := fun pc => if pc < 30 then (if pc < 16 then (if pc < 8 then (if pc < 4 then (if pc < 1 then (if pc = 0 then some (.lload_n 1, 1, 1, 0, [], .null) else none) else (if pc = 1 then some (.invokestatic 269, 4, 112, 1, [], .null) else none)) else (if pc < 7 then (if pc = 4 then some (.ifCond .eq 19, 7, 23, 0, [], .null) else none) else (if pc = 7 then some (.lload_n 1, 8, 1, 0, [], .null) else none))) else (if pc < 12 then (if pc < 11 then (if pc = 8 then some (.ldc2_w 66, 11, 0, 0, [], .long (-1)) else none) else (if pc = 11 then some (.lcmp, 12, 0, 0, [], .null) else none)) else (if pc < 15 then (if pc = 12 then some (.ifCond .eq 11, 15, 23, 0, [], .null) else none) else (if pc = 15 then some (.lload_n 1, 16, 1, 0, [], .null) else none)))) else (if pc < 24 then (if pc < 20 then (if pc < 19 then (if pc = 16 then some (.ldc2_w 267, 19, 0, 0, [], .long (-2)) else none) else (if pc = 19 then some (.lcmp, 20, 0, 0, [], .null) else none)) else (if pc < 23 then (if pc = 20 then some (.ifCond .ne 9, 23, 29, 0, [], .null) else none) else (if pc = 23 then some (.aload_n 0, 24, 0, 0, [], .null) else none))) else (if pc < 28 then (if pc < 25 then (if pc = 24 then some (.iconst 5, 25, 0, 0, [], .int 5) else none) else (if pc = 25 then some (.invokevirtual 172, 28, 116, 2, [], .null) else none)) else (if pc < 29 then (if pc = 28 then some (.athrow, 29, 0, 0, [], .null) else none) else (if pc = 29 then some (.return_, 30, 0, 0, [], .null) else none))))) else none
set_option maxRecDepth 20000 in
def cdX10_binds : PCode := fun pc => if pc < 184 then (if pc < 91 then (if pc < 45 then (if pc < 19 then (if pc < 9 then (if pc < 2 then (if pc < 1 then (if pc = 0 then some (.aload_n 0, 1, 0, 0, [], .null) else none) else (if pc = 1 then some (.aload_n 0, 2, 0, 0, [], .null) else none)) else (if pc < 5 then (if pc = 2 then some (.getfield 75, 5, 10, 31, [], .null) else none) else (if pc < 8 then (if pc = 5 then some (.invokevirtual 275, 8, 124, 2, [], .null) else none) else (if pc = 8 then some (.lstore_n 1, 9, 1, 0, [], .null) else none)))) else (if pc < 14 then (if pc < 10 then (if pc = 9 then some (.aload_n 0, 10, 0, 0, [], .null) else none) else (if pc < 11 then (if pc = 10 then some (.aload_n 0, 11, 0, 0, [], .null) else none) else (if pc = 11 then some (.getfield 75, 14, 10, 31, [], .null) else none))) else (if pc < 17 then (if pc = 14 then some (.invokevirtual 302, 17, 125, 2, [], .null) else none) else (if pc < 18 then (if pc = 17 then some (.lstore_n 3, 18, 3, 0, [], .null) else none) else (if pc = 18 then some (.iconst 0, 19, 0, 0, [], .int 0) else none))))) else (if pc < 32 then (if pc < 24 then (if pc < 21 then (if pc = 19 then some (.istore 5, 21, 5, 0, [], .null) else none) else (if pc < 22 then (if pc = 21 then some (.lload_n 1, 22, 1, 0, [], .null) else none) else (if pc = 22 then some (.lstore 6, 24, 6, 0, [], .null) else none))) else (if pc < 26 then (if pc = 24 then some (.lload 6, 26, 6, 0, [], .null) else none) else (if pc < 29 then (if pc = 26 then some (.invokestatic 133, 29, 114, 1, [], .null) else none) else (if pc = 29 then some (.ifCond .eq 27, 32, 56, 0, [], .null) else none)))) else (if pc < 36 then (if pc < 33 then (if pc = 32 then some (.aload_n 0, 33, 0, 0, [], .null) else none) else (if pc < 34 then (if pc = 33 then some (.aload_n 0, 34, 0, 0, [], .null) else none) else (if pc = 34 then some (.lload 6, 36, 6, 0, [], .null) else none))) else (if pc < 39 then (if pc = 36 then some (.invokevirtual 183, 39, 122, 2, [], .null) else none) else (if pc < 42 then (if pc = 39 then some (.invokevirtual 305, 42, 145, 2, [], .null) else none) else (if pc = 42 then some (.iinc 5 1, 45, 5, 0, [], .int 1) else none)))))) else (if pc < 67 then (if pc < 56 then (if pc < 48 then (if pc < 46 then (if pc = 45 then some (.aload_n 0, 46, 0, 0, [], .null) else none) else (if pc = 46 then some (.lload 6, 48, 6, 0, [], .null) else none)) else (if pc < 51 then (if pc = 48 then some (.invokevirtual 179, 51, 123, 2, [], .null) else none) else (if pc < 53 then (if pc = 51 then some (.lstore 6, 53, 6, 0, [], .null) else none) else (if pc = 53 then some (.goto (-29), 56, 24, 0, [], .null) else none)))) else (if pc < 62 then (if pc < 58 then (if pc = 56 then some (.lload 6, 58, 6, 0, [], .null) else none) else (if pc < 61 then (if pc = 58 then some (.ldc2_w 66, 61, 0, 0, [], .long (-1)) else none) else (if pc = 61 then some (.lcmp, 62, 0, 0, [], .null) else none))) else (if pc < 65 then (if pc = 62 then some (.ifCond .eq 9, 65, 71, 0, [], .null) else none) else (if pc < 66 then (if pc = 65 then some (.aload_n 0, 66, 0, 0, [], .null) else none) else (if pc = 66 then some (.iconst 5, 67, 0, 0, [], .int 5) else none))))) else (if pc < 80 then (if pc < 73 then (if pc < 70 then (if pc = 67 then some (.invokevirtual 172, 70, 116, 2, [], .null) else none) else (if pc < 71 then (if pc = 70 then some (.athrow, 71, 0, 0, [], .null) else none) else (if pc = 71 then some (.iload 5, 73, 5, 0, [], .null) else none))) else (if pc < 74 then (if pc = 73 then some (.aload_n 0, 74, 0, 0, [], .null) else none) else (if pc < 77 then (if pc = 74 then some (.getfield 156, 77, 10, 34, [], .null) else none) else (if pc = 77 then some (.if_icmp .eq 10, 80, 87, 0, [], .null) else none)))) else (if pc < 86 then (if pc < 81 then (if pc = 80 then some (.aload_n 0, 81, 0, 0, [], .null) else none) else (if pc < 83 then (if pc = 81 then some (.bipush 11, 83, 0, 0, [], .int 11) else none) else (if pc = 83 then some (.invokevirtual 172, 86, 116, 2, [], .null) else none))) else (if pc < 87 then (if pc = 86 then some (.athrow, 87, 0, 0, [], .null) else none) else (if pc < 88 then (if pc = 87 then some (.aload_n 0, 88, 0, 0, [], .null) else none) else (if pc = 88 then some (.getfield 72, 91, 10, 30, [], .null) else none))))))) else (if pc < 135 then (if pc < 110 then (if pc < 99 then (if pc < 95 then (if pc < 93 then (if pc = 91 then some (.lstore 8, 93, 8, 0, [], .null) else none) else (if pc = 93 then some (.iload 5, 95, 5, 0, [], .null) else none)) else (if pc < 96 then (if pc = 95 then some (.iconst 1, 96, 0, 0, [], .int 1) else none) else (if pc < 97 then (if pc = 96 then some (.isub, 97, 0, 0, [], .null) else none) else (if pc = 97 then some (.istore 10, 99, 10, 0, [], .null) else none)))) else (if pc < 105 then (if pc < 101 then (if pc = 99 then some (.iload 10, 101, 10, 0, [], .null) else none) else (if pc < 104 then (if pc = 101 then some (.ifCond .lt 70, 104, 171, 0, [], .null) else none) else (if pc = 104 then some (.lload_n 1, 105, 1, 0, [], .null) else none))) else (if pc < 107 then (if pc = 105 then some (.lstore 6, 107, 6, 0, [], .null) else none) else (if pc < 108 then (if pc = 107 then some (.iconst 0, 108, 0, 0, [], .int 0) else none) else (if pc = 108 then some (.istore 11, 110, 11, 0, [], .null) else none))))) else (if pc < 123 then (if pc < 117 then (if pc < 112 then (if pc = 110 then some (.iload 11, 112, 11, 0, [], .null) else none) else (if pc < 114 then (if pc = 112 then some (.iload 10, 114, 10, 0, [], .null) else none) else (if pc = 114 then some (.if_icmp .ge 17, 117, 131, 0, [], .null) else none))) else (if pc < 118 then (if pc = 117 then some (.aload_n 0, 118, 0, 0, [], .null) else none) else (if pc < 120 then (if pc = 118 then some (.lload 6, 120, 6, 0, [], .null) else none) else (if pc = 120 then some (.invokevirtual 179, 123, 123, 2, [], .null) else none)))) else (if pc < 131 then (if pc < 125 then (if pc = 123 then some (.lstore 6, 125, 6, 0, [], .null) else none) else (if pc < 128 then (if pc = 125 then some (.iinc 11 1, 128, 11, 0, [], .int 1) else none) else (if pc = 128 then some (.goto (-18), 131, 110, 0, [], .null) else none))) else (if pc < 132 then (if pc = 131 then some (.aload_n 0, 132, 0, 0, [], .null) else none) else (if pc < 133 then (if pc = 132 then some (.aload_n 0, 133, 0, 0, [], .null) else none) else (if pc = 133 then some (.lload 6, 135, 6, 0, [], .null) else none)))))) else (if pc < 160 then (if pc < 147 then (if pc < 142 then (if pc < 138 then (if pc = 135 then some (.invokevirtual 183, 138, 122, 2, [], .null) else none) else (if pc < 139 then (if pc = 138 then some (.aload_n 0, 139, 0, 0, [], .null) else none) else (if pc = 139 then some (.getfield 81, 142, 10, 33, [], .null) else none))) else (if pc < 144 then (if pc = 142 then some (.iload 10, 144, 10, 0, [], .null) else none) else (if pc < 145 then (if pc = 144 then some (.laload, 145, 0, 0, [], .null) else none) else (if pc = 145 then some (.lload 8, 147, 8, 0, [], .null) else none)))) else (if pc < 153 then (if pc < 150 then (if pc = 147 then some (.invokevirtual 246, 150, 121, 4, [], .null) else none) else (if pc < 152 then (if pc = 150 then some (.lstore 11, 152, 11, 0, [], .null) else none) else (if pc = 152 then some (.aload_n 0, 153, 0, 0, [], .null) else none))) else (if pc < 155 then (if pc = 153 then some (.lload 11, 155, 11, 0, [], .null) else none) else (if pc < 157 then (if pc = 155 then some (.lload 8, 157, 8, 0, [], .null) else none) else (if pc = 157 then some (.ldc2_w 66, 160, 0, 0, [], .long (-1)) else none))))) else (if pc < 174 then (if pc < 168 then (if pc < 163 then (if pc = 160 then some (.invokevirtual 246, 163, 121, 4, [], .null) else none) else (if pc < 165 then (if pc = 163 then some (.lstore 8, 165, 8, 0, [], .null) else none) else (if pc = 165 then some (.iinc 10 (-1), 168, 10, 0, [], .int (-1)) else none))) else (if pc < 171 then (if pc = 168 then some (.goto (-69), 171, 99, 0, [], .null) else none) else (if pc < 172 then (if pc = 171 then some (.aload_n 0, 172, 0, 0, [], .null) else none) else (if pc = 172 then some (.lload 8, 174, 8, 0, [], .null) else none)))) else (if pc < 179 then (if pc < 177 then (if pc = 174 then some (.putfield 72, 177, 10, 30, [], .null) else none) else (if pc < 178 then (if pc = 177 then some (.aload_n 0, 178, 0, 0, [], .null) else none) else (if pc = 178 then some (.lload_n 3, 179, 3, 0, [], .null) else none))) else (if pc < 182 then (if pc = 179 then some (.putfield 68, 182, 10, 29, [], .null) else none) else (if pc < 183 then (if pc = 182 then some (.iconst 0, 183, 0, 0, [], .int 0) else none) else (if pc = 183 then some (.ireturn, 184, 0, 0, [], .null) else none)))))))) else none
set_option maxRecDepth 20000 in
def cdX10_gives : PCode := fun pc => if pc < 7 then (if pc < 2 then (if pc < 1 then (if pc = 0 then some (.aload_n 0, 1, 0, 0, [], .null) else none) else (if pc = 1 then some (.lload_n 1, 2, 1, 0, [], .null) else none)) else (if pc < 5 then (if pc = 2 then some (.putfield 78, 5, 10, 32, [], .null) else none) else (if pc < 6 then (if pc = 5 then some (.iconst 1, 6, 0, 0, [], .int 1) else none) else (if pc = 6 then some (.ireturn, 7, 0, 0, [], .null) else none)))) else none
set_option maxRecDepth 20000 in
def cdX10_says : PCode := fun pc => if pc < 18 then (if pc < 8 then (if pc < 2 then (if pc < 1 then (if pc = 0 then some (.aload_n 0, 1, 0, 0, [], .null) else none) else (if pc = 1 then some (.iload_n 1, 2, 1, 0, [], .null) else none)) else (if pc < 5 then (if pc = 2 then some (.ifCond .eq 9, 5, 11, 0, [], .null) else none) else (if pc = 5 then some (.ldc2_w 267, 8, 0, 0, [], .long (-2)) else none))) else (if pc < 14 then (if pc < 11 then (if pc = 8 then some (.goto 6, 11, 14, 0, [], .null) else none) else (if pc = 11 then some (.ldc2_w 66, 14, 0, 0, [], .long (-1)) else none)) else (if pc < 17 then (if pc = 14 then some (.invokevirtual 308, 17, 147, 2, [], .null) else none) else (if pc = 17 then some (.ireturn, 18, 0, 0, [], .null) else none)))) else none
set_option maxRecDepth 20000 in
def cdX10_built : PCode := fun pc => if pc < 314 then (if pc < 177 then (if pc < 63 then (if pc < 30 then (if pc < 15 then (if pc < 6 then (if pc < 2 then (if pc < 1 then (if pc = 0 then some (.iload_n 1, 1, 1, 0, [], .null) else none) else (if pc = 1 then some (.iconst 2, 2, 0, 0, [], .int 2) else none)) else (if pc < 5 then (if pc = 2 then some (.if_icmp .lt 19, 5, 21, 0, [], .null) else none) else (if pc = 5 then some (.iload_n 1, 6, 1, 0, [], .null) else none))) else (if pc < 10 then (if pc < 7 then (if pc = 6 then some (.iconst 3, 7, 0, 0, [], .int 3) else none) else (if pc = 7 then some (.if_icmp .eq 14, 10, 21, 0, [], .null) else none)) else (if pc < 11 then (if pc = 10 then some (.iload_n 1, 11, 1, 0, [], .null) else none) else (if pc < 12 then (if pc = 11 then some (.iconst 5, 12, 0, 0, [], .int 5) else none) else (if pc = 12 then some (.if_icmp .eq 9, 15, 21, 0, [], .null) else none))))) else (if pc < 22 then (if pc < 18 then (if pc < 16 then (if pc = 15 then some (.iload_n 1, 16, 1, 0, [], .null) else none) else (if pc = 16 then some (.bipush 8, 18, 0, 0, [], .int 8) else none)) else (if pc < 21 then (if pc = 18 then some (.if_icmp .ne 7, 21, 25, 0, [], .null) else none) else (if pc = 21 then some (.iconst 1, 22, 0, 0, [], .int 1) else none))) else (if pc < 26 then (if pc < 25 then (if pc = 22 then some (.goto 4, 25, 26, 0, [], .null) else none) else (if pc = 25 then some (.iconst 0, 26, 0, 0, [], .int 0) else none)) else (if pc < 27 then (if pc = 26 then some (.istore_n 2, 27, 2, 0, [], .null) else none) else (if pc < 28 then (if pc = 27 then some (.iload_n 1, 28, 1, 0, [], .null) else none) else (if pc = 28 then some (.bipush 6, 30, 0, 0, [], .int 6) else none)))))) else (if pc < 49 then (if pc < 38 then (if pc < 34 then (if pc < 33 then (if pc = 30 then some (.if_icmp .eq 26, 33, 56, 0, [], .null) else none) else (if pc = 33 then some (.aload_n 0, 34, 0, 0, [], .null) else none)) else (if pc < 37 then (if pc = 34 then some (.getfield 156, 37, 10, 34, [], .null) else none) else (if pc = 37 then some (.iload_n 2, 38, 2, 0, [], .null) else none))) else (if pc < 42 then (if pc < 41 then (if pc = 38 then some (.ifCond .eq 7, 41, 45, 0, [], .null) else none) else (if pc = 41 then some (.iconst 1, 42, 0, 0, [], .int 1) else none)) else (if pc < 45 then (if pc = 42 then some (.goto 4, 45, 46, 0, [], .null) else none) else (if pc < 46 then (if pc = 45 then some (.iconst 2, 46, 0, 0, [], .int 2) else none) else (if pc = 46 then some (.if_icmp .eq 10, 49, 56, 0, [], .null) else none))))) else (if pc < 56 then (if pc < 52 then (if pc < 50 then (if pc = 49 then some (.aload_n 0, 50, 0, 0, [], .null) else none) else (if pc = 50 then some (.bipush 11, 52, 0, 0, [], .int 11) else none)) else (if pc < 55 then (if pc = 52 then some (.invokevirtual 172, 55, 116, 2, [], .null) else none) else (if pc = 55 then some (.athrow, 56, 0, 0, [], .null) else none))) else (if pc < 60 then (if pc < 57 then (if pc = 56 then some (.aload_n 0, 57, 0, 0, [], .null) else none) else (if pc = 57 then some (.getfield 81, 60, 10, 33, [], .null) else none)) else (if pc < 61 then (if pc = 60 then some (.iconst 0, 61, 0, 0, [], .int 0) else none) else (if pc < 62 then (if pc = 61 then some (.laload, 62, 0, 0, [], .null) else none) else (if pc = 62 then some (.lstore_n 3, 63, 3, 0, [], .null) else none))))))) else (if pc < 144 then (if pc < 128 then (if pc < 69 then (if pc < 67 then (if pc < 64 then (if pc = 63 then some (.aload_n 0, 64, 0, 0, [], .null) else none) else (if pc = 64 then some (.getfield 81, 67, 10, 33, [], .null) else none)) else (if pc < 68 then (if pc = 67 then some (.iconst 1, 68, 0, 0, [], .int 1) else none) else (if pc = 68 then some (.laload, 69, 0, 0, [], .null) else none))) else (if pc < 72 then (if pc < 71 then (if pc = 69 then some (.lstore 5, 71, 5, 0, [], .null) else none) else (if pc = 71 then some (.iload_n 1, 72, 1, 0, [], .null) else none)) else (if pc < 124 then (if pc = 72 then some (.tableswitch 233 0 8 #[52, 52, 88, 103, 120, 144, 162, 211, 224], 124, 305, 0, [124, 124, 160, 175, 192, 216, 234, 283, 296], .null) else none) else (if pc < 125 then (if pc = 124 then some (.lload_n 3, 125, 3, 0, [], .null) else none) else (if pc = 125 then some (.invokestatic 133, 128, 114, 1, [], .null) else none))))) else (if pc < 137 then (if pc < 132 then (if pc < 131 then (if pc = 128 then some (.ifCond .ne 10, 131, 138, 0, [], .null) else none) else (if pc = 131 then some (.aload_n 0, 132, 0, 0, [], .null) else none)) else (if pc < 134 then (if pc = 132 then some (.bipush 13, 134, 0, 0, [], .int 13) else none) else (if pc = 134 then some (.invokevirtual 172, 137, 116, 2, [], .null) else none))) else (if pc < 139 then (if pc < 138 then (if pc = 137 then some (.athrow, 138, 0, 0, [], .null) else none) else (if pc = 138 then some (.aload_n 0, 139, 0, 0, [], .null) else none)) else (if pc < 140 then (if pc = 139 then some (.iload_n 1, 140, 1, 0, [], .null) else none) else (if pc < 143 then (if pc = 140 then some (.ifCond .ne 11, 143, 151, 0, [], .null) else none) else (if pc = 143 then some (.aload_n 0, 144, 0, 0, [], .null) else none)))))) else (if pc < 161 then (if pc < 152 then (if pc < 148 then (if pc < 145 then (if pc = 144 then some (.lload_n 3, 145, 3, 0, [], .null) else none) else (if pc = 145 then some (.invokevirtual 183, 148, 122, 2, [], .null) else none)) else (if pc < 151 then (if pc = 148 then some (.goto 8, 151, 156, 0, [], .null) else none) else (if pc = 151 then some (.aload_n 0, 152, 0, 0, [], .null) else none))) else (if pc < 156 then (if pc < 153 then (if pc = 152 then some (.lload_n 3, 153, 3, 0, [], .null) else none) else (if pc = 153 then some (.invokevirtual 179, 156, 123, 2, [], .null) else none)) else (if pc < 159 then (if pc = 156 then some (.invokevirtual 308, 159, 147, 2, [], .null) else none) else (if pc < 160 then (if pc = 159 then some (.ireturn, 160, 0, 0, [], .null) else none) else (if pc = 160 then some (.aload_n 0, 161, 0, 0, [], .null) else none))))) else (if pc < 168 then (if pc < 163 then (if pc < 162 then (if pc = 161 then some (.aload_n 0, 162, 0, 0, [], .null) else none) else (if pc = 162 then some (.lload_n 3, 163, 3, 0, [], .null) else none)) else (if pc < 165 then (if pc = 163 then some (.lload 5, 165, 5, 0, [], .null) else none) else (if pc = 165 then some (.ldc2_w 66, 168, 0, 0, [], .long (-1)) else none))) else (if pc < 174 then (if pc < 171 then (if pc = 168 then some (.invokevirtual 246, 171, 121, 4, [], .null) else none) else (if pc = 171 then some (.invokevirtual 308, 174, 147, 2, [], .null) else none)) else (if pc < 175 then (if pc = 174 then some (.ireturn, 175, 0, 0, [], .null) else none) else (if pc < 176 then (if pc = 175 then some (.aload_n 0, 176, 0, 0, [], .null) else none) else (if pc = 176 then some (.lload_n 3, 177, 3, 0, [], .null) else none)))))))) else (if pc < 245 then (if pc < 212 then (if pc < 194 then (if pc < 187 then (if pc < 183 then (if pc < 180 then (if pc = 177 then some (.invokestatic 133, 180, 114, 1, [], .null) else none) else (if pc = 180 then some (.ifCond .ne 7, 183, 187, 0, [], .null) else none)) else (if pc < 184 then (if pc = 183 then some (.iconst 1, 184, 0, 0, [], .int 1) else none) else (if pc = 184 then some (.goto 4, 187, 188, 0, [], .null) else none))) else (if pc < 191 then (if pc < 188 then (if pc = 187 then some (.iconst 0, 188, 0, 0, [], .int 0) else none) else (if pc = 188 then some (.invokevirtual 311, 191, 148, 2, [], .null) else none)) else (if pc < 192 then (if pc = 191 then some (.ireturn, 192, 0, 0, [], .null) else none) else (if pc < 193 then (if pc = 192 then some (.aload_n 0, 193, 0, 0, [], .null) else none) else (if pc = 193 then some (.lload_n 3, 194, 3, 0, [], .null) else none))))) else (if pc < 203 then (if pc < 200 then (if pc < 197 then (if pc = 194 then some (.invokestatic 133, 197, 114, 1, [], .null) else none) else (if pc = 197 then some (.ifCond .ne 14, 200, 211, 0, [], .null) else none)) else (if pc < 201 then (if pc = 200 then some (.lload_n 3, 201, 3, 0, [], .null) else none) else (if pc = 201 then some (.lload 5, 203, 5, 0, [], .null) else none))) else (if pc < 207 then (if pc < 204 then (if pc = 203 then some (.lcmp, 204, 0, 0, [], .null) else none) else (if pc = 204 then some (.ifCond .ne 7, 207, 211, 0, [], .null) else none)) else (if pc < 208 then (if pc = 207 then some (.iconst 1, 208, 0, 0, [], .int 1) else none) else (if pc < 211 then (if pc = 208 then some (.goto 4, 211, 212, 0, [], .null) else none) else (if pc = 211 then some (.iconst 0, 212, 0, 0, [], .int 0) else none)))))) else (if pc < 229 then (if pc < 218 then (if pc < 216 then (if pc < 215 then (if pc = 212 then some (.invokevirtual 311, 215, 148, 2, [], .null) else none) else (if pc = 215 then some (.ireturn, 216, 0, 0, [], .null) else none)) else (if pc < 217 then (if pc = 216 then some (.aload_n 0, 217, 0, 0, [], .null) else none) else (if pc = 217 then some (.lload_n 3, 218, 3, 0, [], .null) else none))) else (if pc < 222 then (if pc < 221 then (if pc = 218 then some (.ldc2_w 66, 221, 0, 0, [], .long (-1)) else none) else (if pc = 221 then some (.lcmp, 222, 0, 0, [], .null) else none)) else (if pc < 225 then (if pc = 222 then some (.ifCond .ne 7, 225, 229, 0, [], .null) else none) else (if pc < 226 then (if pc = 225 then some (.iconst 1, 226, 0, 0, [], .int 1) else none) else (if pc = 226 then some (.goto 4, 229, 230, 0, [], .null) else none))))) else (if pc < 237 then (if pc < 233 then (if pc < 230 then (if pc = 229 then some (.iconst 0, 230, 0, 0, [], .int 0) else none) else (if pc = 230 then some (.invokevirtual 311, 233, 148, 2, [], .null) else none)) else (if pc < 234 then (if pc = 233 then some (.ireturn, 234, 0, 0, [], .null) else none) else (if pc = 234 then some (.ldc2_w 66, 237, 0, 0, [], .long (-1)) else none))) else (if pc < 240 then (if pc < 239 then (if pc = 237 then some (.lstore 7, 239, 7, 0, [], .null) else none) else (if pc = 239 then some (.aload_n 0, 240, 0, 0, [], .null) else none)) else (if pc < 243 then (if pc = 240 then some (.getfield 156, 243, 10, 34, [], .null) else none) else (if pc < 244 then (if pc = 243 then some (.iconst 1, 244, 0, 0, [], .int 1) else none) else (if pc = 244 then some (.isub, 245, 0, 0, [], .null) else none))))))) else (if pc < 283 then (if pc < 262 then (if pc < 253 then (if pc < 249 then (if pc < 247 then (if pc = 245 then some (.istore 9, 247, 9, 0, [], .null) else none) else (if pc = 247 then some (.iload 9, 249, 9, 0, [], .null) else none)) else (if pc < 252 then (if pc = 249 then some (.ifCond .lt 27, 252, 276, 0, [], .null) else none) else (if pc = 252 then some (.aload_n 0, 253, 0, 0, [], .null) else none))) else (if pc < 257 then (if pc < 254 then (if pc = 253 then some (.aload_n 0, 254, 0, 0, [], .null) else none) else (if pc = 254 then some (.getfield 81, 257, 10, 33, [], .null) else none)) else (if pc < 259 then (if pc = 257 then some (.iload 9, 259, 9, 0, [], .null) else none) else (if pc < 260 then (if pc = 259 then some (.laload, 260, 0, 0, [], .null) else none) else (if pc = 260 then some (.lload 7, 262, 7, 0, [], .null) else none))))) else (if pc < 273 then (if pc < 268 then (if pc < 265 then (if pc = 262 then some (.ldc2_w 66, 265, 0, 0, [], .long (-1)) else none) else (if pc = 265 then some (.invokevirtual 246, 268, 121, 4, [], .null) else none)) else (if pc < 270 then (if pc = 268 then some (.lstore 7, 270, 7, 0, [], .null) else none) else (if pc = 270 then some (.iinc 9 (-1), 273, 9, 0, [], .int (-1)) else none))) else (if pc < 277 then (if pc < 276 then (if pc = 273 then some (.goto (-26), 276, 247, 0, [], .null) else none) else (if pc = 276 then some (.aload_n 0, 277, 0, 0, [], .null) else none)) else (if pc < 279 then (if pc = 277 then some (.lload 7, 279, 7, 0, [], .null) else none) else (if pc < 282 then (if pc = 279 then some (.invokevirtual 308, 282, 147, 2, [], .null) else none) else (if pc = 282 then some (.ireturn, 283, 0, 0, [], .null) else none)))))) else (if pc < 297 then (if pc < 289 then (if pc < 285 then (if pc < 284 then (if pc = 283 then some (.aload_n 0, 284, 0, 0, [], .null) else none) else (if pc = 284 then some (.lload_n 3, 285, 3, 0, [], .null) else none)) else (if pc < 288 then (if pc = 285 then some (.putfield 68, 288, 10, 29, [], .null) else none) else (if pc = 288 then some (.aload_n 0, 289, 0, 0, [], .null) else none))) else (if pc < 294 then (if pc < 291 then (if pc = 289 then some (.lload 5, 291, 5, 0, [], .null) else none) else (if pc = 291 then some (.putfield 72, 294, 10, 30, [], .null) else none)) else (if pc < 295 then (if pc = 294 then some (.iconst 0, 295, 0, 0, [], .int 0) else none) else (if pc < 296 then (if pc = 295 then some (.ireturn, 296, 0, 0, [], .null) else none) else (if pc = 296 then some (.aload_n 0, 297, 0, 0, [], .null) else none))))) else (if pc < 306 then (if pc < 301 then (if pc < 298 then (if pc = 297 then some (.lload_n 3, 298, 3, 0, [], .null) else none) else (if pc = 298 then some (.invokestatic 264, 301, 113, 1, [], .null) else none)) else (if pc < 304 then (if pc = 301 then some (.invokevirtual 311, 304, 148, 2, [], .null) else none) else (if pc < 305 then (if pc = 304 then some (.ireturn, 305, 0, 0, [], .null) else none) else (if pc = 305 then some (.aload_n 0, 306, 0, 0, [], .null) else none)))) else (if pc < 308 then (if pc < 307 then (if pc = 306 then some (.iload_n 1, 307, 1, 0, [], .null) else none) else (if pc = 307 then some (.lload_n 3, 308, 3, 0, [], .null) else none)) else (if pc < 310 then (if pc = 308 then some (.lload 5, 310, 5, 0, [], .null) else none) else (if pc < 313 then (if pc = 310 then some (.invokevirtual 315, 313, 150, 4, [], .null) else none) else (if pc = 313 then some (.ireturn, 314, 0, 0, [], .null) else none))))))))) else none
set_option maxRecDepth 20000 in
def cdX10_counts : PCode := fun pc => if pc < 161 then (if pc < 80 then (if pc < 39 then (if pc < 22 then (if pc < 12 then (if pc < 4 then (if pc < 1 then (if pc = 0 then some (.lload_n 2, 1, 2, 0, [], .null) else none) else (if pc = 1 then some (.invokestatic 264, 4, 113, 1, [], .null) else none)) else (if pc < 7 then (if pc = 4 then some (.ifCond .eq 11, 7, 15, 0, [], .null) else none) else (if pc < 9 then (if pc = 7 then some (.lload 4, 9, 4, 0, [], .null) else none) else (if pc = 9 then some (.invokestatic 264, 12, 113, 1, [], .null) else none)))) else (if pc < 16 then (if pc < 15 then (if pc = 12 then some (.ifCond .ne 10, 15, 22, 0, [], .null) else none) else (if pc = 15 then some (.aload_n 0, 16, 0, 0, [], .null) else none)) else (if pc < 18 then (if pc = 16 then some (.bipush 13, 18, 0, 0, [], .int 13) else none) else (if pc < 21 then (if pc = 18 then some (.invokevirtual 172, 21, 116, 2, [], .null) else none) else (if pc = 21 then some (.athrow, 22, 0, 0, [], .null) else none))))) else (if pc < 30 then (if pc < 26 then (if pc < 23 then (if pc = 22 then some (.lload_n 2, 23, 2, 0, [], .null) else none) else (if pc = 23 then some (.ldc2_w 217, 26, 0, 0, [], .long 1099511627776) else none)) else (if pc < 27 then (if pc = 26 then some (.lsub, 27, 0, 0, [], .null) else none) else (if pc < 28 then (if pc = 27 then some (.l2i, 28, 0, 0, [], .null) else none) else (if pc = 28 then some (.istore 6, 30, 6, 0, [], .null) else none)))) else (if pc < 35 then (if pc < 32 then (if pc = 30 then some (.lload 4, 32, 4, 0, [], .null) else none) else (if pc = 32 then some (.ldc2_w 217, 35, 0, 0, [], .long 1099511627776) else none)) else (if pc < 36 then (if pc = 35 then some (.lsub, 36, 0, 0, [], .null) else none) else (if pc < 37 then (if pc = 36 then some (.l2i, 37, 0, 0, [], .null) else none) else (if pc = 37 then some (.istore 7, 39, 7, 0, [], .null) else none)))))) else (if pc < 58 then (if pc < 48 then (if pc < 42 then (if pc < 40 then (if pc = 39 then some (.iload_n 1, 40, 1, 0, [], .null) else none) else (if pc = 40 then some (.bipush 14, 42, 0, 0, [], .int 14) else none)) else (if pc < 45 then (if pc = 42 then some (.if_icmp .ne 20, 45, 62, 0, [], .null) else none) else (if pc < 46 then (if pc = 45 then some (.aload_n 0, 46, 0, 0, [], .null) else none) else (if pc = 46 then some (.iload 6, 48, 6, 0, [], .null) else none)))) else (if pc < 53 then (if pc < 50 then (if pc = 48 then some (.iload 7, 50, 7, 0, [], .null) else none) else (if pc = 50 then some (.if_icmp .ge 7, 53, 57, 0, [], .null) else none)) else (if pc < 54 then (if pc = 53 then some (.iconst 1, 54, 0, 0, [], .int 1) else none) else (if pc < 57 then (if pc = 54 then some (.goto 4, 57, 58, 0, [], .null) else none) else (if pc = 57 then some (.iconst 0, 58, 0, 0, [], .int 0) else none))))) else (if pc < 68 then (if pc < 62 then (if pc < 61 then (if pc = 58 then some (.invokevirtual 311, 61, 148, 2, [], .null) else none) else (if pc = 61 then some (.ireturn, 62, 0, 0, [], .null) else none)) else (if pc < 63 then (if pc = 62 then some (.iload_n 1, 63, 1, 0, [], .null) else none) else (if pc < 65 then (if pc = 63 then some (.bipush 12, 65, 0, 0, [], .int 12) else none) else (if pc = 65 then some (.if_icmp .eq 9, 68, 74, 0, [], .null) else none)))) else (if pc < 74 then (if pc < 69 then (if pc = 68 then some (.iload_n 1, 69, 1, 0, [], .null) else none) else (if pc < 71 then (if pc = 69 then some (.bipush 13, 71, 0, 0, [], .int 13) else none) else (if pc = 71 then some (.if_icmp .ne 15, 74, 86, 0, [], .null) else none))) else (if pc < 76 then (if pc = 74 then some (.iload 7, 76, 7, 0, [], .null) else none) else (if pc < 79 then (if pc = 76 then some (.ifCond .ne 10, 79, 86, 0, [], .null) else none) else (if pc = 79 then some (.aload_n 0, 80, 0, 0, [], .null) else none))))))) else (if pc < 122 then (if pc < 100 then (if pc < 89 then (if pc < 85 then (if pc < 82 then (if pc = 80 then some (.bipush 13, 82, 0, 0, [], .int 13) else none) else (if pc = 82 then some (.invokevirtual 172, 85, 116, 2, [], .null) else none)) else (if pc < 86 then (if pc = 85 then some (.athrow, 86, 0, 0, [], .null) else none) else (if pc < 87 then (if pc = 86 then some (.iload_n 1, 87, 1, 0, [], .null) else none) else (if pc = 87 then some (.bipush 9, 89, 0, 0, [], .int 9) else none)))) else (if pc < 94 then (if pc < 92 then (if pc = 89 then some (.if_icmp .ne 11, 92, 100, 0, [], .null) else none) else (if pc = 92 then some (.iload 6, 94, 6, 0, [], .null) else none)) else (if pc < 96 then (if pc = 94 then some (.iload 7, 96, 7, 0, [], .null) else none) else (if pc < 97 then (if pc = 96 then some (.iadd, 97, 0, 0, [], .null) else none) else (if pc = 97 then some (.goto 50, 100, 147, 0, [], .null) else none))))) else (if pc < 110 then (if pc < 103 then (if pc < 101 then (if pc = 100 then some (.iload_n 1, 101, 1, 0, [], .null) else none) else (if pc = 101 then some (.bipush 10, 103, 0, 0, [], .int 10) else none)) else (if pc < 106 then (if pc = 103 then some (.if_icmp .ne 11, 106, 114, 0, [], .null) else none) else (if pc < 108 then (if pc = 106 then some (.iload 6, 108, 6, 0, [], .null) else none) else (if pc = 108 then some (.iload 7, 110, 7, 0, [], .null) else none)))) else (if pc < 115 then (if pc < 111 then (if pc = 110 then some (.isub, 111, 0, 0, [], .null) else none) else (if pc < 114 then (if pc = 111 then some (.goto 36, 114, 147, 0, [], .null) else none) else (if pc = 114 then some (.iload_n 1, 115, 1, 0, [], .null) else none))) else (if pc < 117 then (if pc = 115 then some (.bipush 11, 117, 0, 0, [], .int 11) else none) else (if pc < 120 then (if pc = 117 then some (.if_icmp .ne 11, 120, 128, 0, [], .null) else none) else (if pc = 120 then some (.iload 6, 122, 6, 0, [], .null) else none)))))) else (if pc < 142 then (if pc < 131 then (if pc < 125 then (if pc < 124 then (if pc = 122 then some (.iload 7, 124, 7, 0, [], .null) else none) else (if pc = 124 then some (.imul, 125, 0, 0, [], .null) else none)) else (if pc < 128 then (if pc = 125 then some (.goto 22, 128, 147, 0, [], .null) else none) else (if pc < 129 then (if pc = 128 then some (.iload_n 1, 129, 1, 0, [], .null) else none) else (if pc = 129 then some (.bipush 12, 131, 0, 0, [], .int 12) else none)))) else (if pc < 136 then (if pc < 134 then (if pc = 131 then some (.if_icmp .ne 11, 134, 142, 0, [], .null) else none) else (if pc = 134 then some (.iload 6, 136, 6, 0, [], .null) else none)) else (if pc < 138 then (if pc = 136 then some (.iload 7, 138, 7, 0, [], .null) else none) else (if pc < 139 then (if pc = 138 then some (.idiv, 139, 0, 0, [], .null) else none) else (if pc = 139 then some (.goto 8, 142, 147, 0, [], .null) else none))))) else (if pc < 150 then (if pc < 146 then (if pc < 144 then (if pc = 142 then some (.iload 6, 144, 6, 0, [], .null) else none) else (if pc = 144 then some (.iload 7, 146, 7, 0, [], .null) else none)) else (if pc < 147 then (if pc = 146 then some (.irem, 147, 0, 0, [], .null) else none) else (if pc < 149 then (if pc = 147 then some (.istore 8, 149, 8, 0, [], .null) else none) else (if pc = 149 then some (.aload_n 0, 150, 0, 0, [], .null) else none)))) else (if pc < 156 then (if pc < 153 then (if pc = 150 then some (.ldc2_w 217, 153, 0, 0, [], .long 1099511627776) else none) else (if pc < 155 then (if pc = 153 then some (.iload 8, 155, 8, 0, [], .null) else none) else (if pc = 155 then some (.i2l, 156, 0, 0, [], .null) else none))) else (if pc < 157 then (if pc = 156 then some (.ladd, 157, 0, 0, [], .null) else none) else (if pc < 160 then (if pc = 157 then some (.invokevirtual 308, 160, 147, 2, [], .null) else none) else (if pc = 160 then some (.ireturn, 161, 0, 0, [], .null) else none)))))))) else none
set_option maxRecDepth 20000 in
def cdX10_puts : PCode := fun pc => if pc < 33 then (if pc < 19 then (if pc < 10 then (if pc < 4 then (if pc < 1 then (if pc = 0 then some (.aload_n 0, 1, 0, 0, [], .null) else none) else (if pc = 1 then some (.getfield 319, 4, 10, 46, [], .null) else none)) else (if pc < 7 then (if pc = 4 then some (.sipush 2000, 7, 0, 0, [], .int 2000) else none) else (if pc = 7 then some (.if_icmp .ne 4, 10, 11, 0, [], .null) else none))) else (if pc < 12 then (if pc < 11 then (if pc = 10 then some (.return_, 11, 0, 0, [], .null) else none) else (if pc = 11 then some (.aload_n 0, 12, 0, 0, [], .null) else none)) else (if pc < 15 then (if pc = 12 then some (.getfield 102, 15, 10, 45, [], .null) else none) else (if pc < 16 then (if pc = 15 then some (.aload_n 0, 16, 0, 0, [], .null) else none) else (if pc = 16 then some (.getfield 319, 19, 10, 46, [], .null) else none))))) else (if pc < 24 then (if pc < 21 then (if pc < 20 then (if pc = 19 then some (.iload_n 1, 20, 1, 0, [], .null) else none) else (if pc = 20 then some (.i2b, 21, 0, 0, [], .null) else none)) else (if pc < 22 then (if pc = 21 then some (.bastore, 22, 0, 0, [], .null) else none) else (if pc < 23 then (if pc = 22 then some (.aload_n 0, 23, 0, 0, [], .null) else none) else (if pc = 23 then some (.dup, 24, 0, 0, [], .null) else none)))) else (if pc < 28 then (if pc < 27 then (if pc = 24 then some (.getfield 319, 27, 10, 46, [], .null) else none) else (if pc = 27 then some (.iconst 1, 28, 0, 0, [], .int 1) else none)) else (if pc < 29 then (if pc = 28 then some (.iadd, 29, 0, 0, [], .null) else none) else (if pc < 32 then (if pc = 29 then some (.putfield 319, 32, 10, 46, [], .null) else none) else (if pc = 32 then some (.return_, 33, 0, 0, [], .null) else none)))))) else none
end
section
/-! resolved code, part 5 -/
set_option maxRecDepth 20000 in
def cdX10_atom : PCode := fun pc => if pc < 140 then (if pc < 69 then (if pc < 35 then (if pc < 18 then (if pc < 11 then (if pc < 4 then (if pc < 1 then (if pc = 0 then some (.lload_n 1, 1, 1, 0, [], .null) else none) else (if pc = 1 then some (.invokestatic 269, 4, 112, 1, [], .null) else none)) else (if pc < 7 then (if pc = 4 then some (.ifCond .eq 45, 7, 49, 0, [], .null) else none) else (if pc < 8 then (if pc = 7 then some (.lload_n 1, 8, 1, 0, [], .null) else none) else (if pc = 8 then some (.invokestatic 288, 11, 115, 1, [], .null) else none)))) else (if pc < 13 then (if pc < 12 then (if pc = 11 then some (.istore_n 3, 12, 3, 0, [], .null) else none) else (if pc = 12 then some (.iconst 0, 13, 0, 0, [], .int 0) else none)) else (if pc < 15 then (if pc = 13 then some (.istore 4, 15, 4, 0, [], .null) else none) else (if pc < 17 then (if pc = 15 then some (.iload 4, 17, 4, 0, [], .null) else none) else (if pc = 17 then some (.aload_n 0, 18, 0, 0, [], .null) else none))))) else (if pc < 27 then (if pc < 22 then (if pc < 21 then (if pc = 18 then some (.getfield 13, 21, 10, 2, [], .null) else none) else (if pc = 21 then some (.iload_n 3, 22, 3, 0, [], .null) else none)) else (if pc < 23 then (if pc = 22 then some (.iaload, 23, 0, 0, [], .null) else none) else (if pc < 26 then (if pc = 23 then some (.if_icmp .ge 25, 26, 48, 0, [], .null) else none) else (if pc = 26 then some (.aload_n 0, 27, 0, 0, [], .null) else none)))) else (if pc < 31 then (if pc < 28 then (if pc = 27 then some (.aload_n 0, 28, 0, 0, [], .null) else none) else (if pc = 28 then some (.getfield 7, 31, 10, 1, [], .null) else none)) else (if pc < 33 then (if pc = 31 then some (.bipush 10, 33, 0, 0, [], .int 10) else none) else (if pc < 34 then (if pc = 33 then some (.iload_n 3, 34, 3, 0, [], .null) else none) else (if pc = 34 then some (.imul, 35, 0, 0, [], .null) else none)))))) else (if pc < 54 then (if pc < 45 then (if pc < 38 then (if pc < 37 then (if pc = 35 then some (.iload 4, 37, 4, 0, [], .null) else none) else (if pc = 37 then some (.iadd, 38, 0, 0, [], .null) else none)) else (if pc < 39 then (if pc = 38 then some (.iaload, 39, 0, 0, [], .null) else none) else (if pc < 42 then (if pc = 39 then some (.invokevirtual 322, 42, 151, 2, [], .null) else none) else (if pc = 42 then some (.iinc 4 1, 45, 4, 0, [], .int 1) else none)))) else (if pc < 49 then (if pc < 48 then (if pc = 45 then some (.goto (-30), 48, 15, 0, [], .null) else none) else (if pc = 48 then some (.return_, 49, 0, 0, [], .null) else none)) else (if pc < 50 then (if pc = 49 then some (.lload_n 1, 50, 1, 0, [], .null) else none) else (if pc < 53 then (if pc = 50 then some (.ldc2_w 217, 53, 0, 0, [], .long 1099511627776) else none) else (if pc = 53 then some (.lsub, 54, 0, 0, [], .null) else none))))) else (if pc < 61 then (if pc < 56 then (if pc < 55 then (if pc = 54 then some (.lstore_n 3, 55, 3, 0, [], .null) else none) else (if pc = 55 then some (.lload_n 3, 56, 3, 0, [], .null) else none)) else (if pc < 57 then (if pc = 56 then some (.lconst 0, 57, 0, 0, [], .long 0) else none) else (if pc < 58 then (if pc = 57 then some (.lcmp, 58, 0, 0, [], .null) else none) else (if pc = 58 then some (.ifCond .ge 9, 61, 67, 0, [], .null) else none)))) else (if pc < 64 then (if pc < 62 then (if pc = 61 then some (.aload_n 0, 62, 0, 0, [], .null) else none) else (if pc = 62 then some (.bipush 45, 64, 0, 0, [], .int 45) else none)) else (if pc < 67 then (if pc = 64 then some (.invokevirtual 322, 67, 151, 2, [], .null) else none) else (if pc < 68 then (if pc = 67 then some (.lload_n 3, 68, 3, 0, [], .null) else none) else (if pc = 68 then some (.lconst 0, 69, 0, 0, [], .long 0) else none))))))) else (if pc < 105 then (if pc < 85 then (if pc < 78 then (if pc < 73 then (if pc < 70 then (if pc = 69 then some (.lcmp, 70, 0, 0, [], .null) else none) else (if pc = 70 then some (.ifCond .ge 8, 73, 78, 0, [], .null) else none)) else (if pc < 74 then (if pc = 73 then some (.lload_n 3, 74, 3, 0, [], .null) else none) else (if pc < 75 then (if pc = 74 then some (.lneg, 75, 0, 0, [], .null) else none) else (if pc = 75 then some (.goto 4, 78, 79, 0, [], .null) else none)))) else (if pc < 80 then (if pc < 79 then (if pc = 78 then some (.lload_n 3, 79, 3, 0, [], .null) else none) else (if pc = 79 then some (.lstore_n 3, 80, 3, 0, [], .null) else none)) else (if pc < 81 then (if pc = 80 then some (.lconst 1, 81, 0, 0, [], .long 1) else none) else (if pc < 83 then (if pc = 81 then some (.lstore 5, 83, 5, 0, [], .null) else none) else (if pc = 83 then some (.lload 5, 85, 5, 0, [], .null) else none))))) else (if pc < 94 then (if pc < 89 then (if pc < 86 then (if pc = 85 then some (.lload_n 3, 86, 3, 0, [], .null) else none) else (if pc = 86 then some (.ldc2_w 209, 89, 0, 0, [], .long 10) else none)) else (if pc < 90 then (if pc = 89 then some (.ldiv, 90, 0, 0, [], .null) else none) else (if pc < 91 then (if pc = 90 then some (.lcmp, 91, 0, 0, [], .null) else none) else (if pc = 91 then some (.ifCond .gt 14, 94, 105, 0, [], .null) else none)))) else (if pc < 99 then (if pc < 97 then (if pc = 94 then some (.ldc2_w 209, 97, 0, 0, [], .long 10) else none) else (if pc = 97 then some (.lload 5, 99, 5, 0, [], .null) else none)) else (if pc < 100 then (if pc = 99 then some (.lmul, 100, 0, 0, [], .null) else none) else (if pc < 102 then (if pc = 100 then some (.lstore 5, 102, 5, 0, [], .null) else none) else (if pc = 102 then some (.goto (-19), 105, 83, 0, [], .null) else none)))))) else (if pc < 122 then (if pc < 113 then (if pc < 108 then (if pc < 107 then (if pc = 105 then some (.lload 5, 107, 5, 0, [], .null) else none) else (if pc = 107 then some (.lconst 0, 108, 0, 0, [], .long 0) else none)) else (if pc < 109 then (if pc = 108 then some (.lcmp, 109, 0, 0, [], .null) else none) else (if pc < 112 then (if pc = 109 then some (.ifCond .le 30, 112, 139, 0, [], .null) else none) else (if pc = 112 then some (.aload_n 0, 113, 0, 0, [], .null) else none)))) else (if pc < 116 then (if pc < 115 then (if pc = 113 then some (.bipush 48, 115, 0, 0, [], .int 48) else none) else (if pc = 115 then some (.lload_n 3, 116, 3, 0, [], .null) else none)) else (if pc < 118 then (if pc = 116 then some (.lload 5, 118, 5, 0, [], .null) else none) else (if pc < 119 then (if pc = 118 then some (.ldiv, 119, 0, 0, [], .null) else none) else (if pc = 119 then some (.ldc2_w 209, 122, 0, 0, [], .long 10) else none))))) else (if pc < 130 then (if pc < 124 then (if pc < 123 then (if pc = 122 then some (.lrem, 123, 0, 0, [], .null) else none) else (if pc = 123 then some (.l2i, 124, 0, 0, [], .null) else none)) else (if pc < 125 then (if pc = 124 then some (.iadd, 125, 0, 0, [], .null) else none) else (if pc < 128 then (if pc = 125 then some (.invokevirtual 322, 128, 151, 2, [], .null) else none) else (if pc = 128 then some (.lload 5, 130, 5, 0, [], .null) else none)))) else (if pc < 134 then (if pc < 133 then (if pc = 130 then some (.ldc2_w 209, 133, 0, 0, [], .long 10) else none) else (if pc = 133 then some (.ldiv, 134, 0, 0, [], .null) else none)) else (if pc < 136 then (if pc = 134 then some (.lstore 5, 136, 5, 0, [], .null) else none) else (if pc < 139 then (if pc = 136 then some (.goto (-31), 139, 105, 0, [], .null) else none) else (if pc = 139 then some (.return_, 140, 0, 0, [], .null) else none)))))))) else none
set_option maxRecDepth 20000 in
def cdX10_prints : PCode := fun pc => if pc < 218 then (if pc < 117 then (if pc < 58 then (if pc < 28 then (if pc < 10 then (if pc < 3 then (if pc < 1 then (if pc = 0 then some (.iconst 0, 1, 0, 0, [], .int 0) else none) else (if pc < 2 then (if pc = 1 then some (.istore_n 3, 2, 3, 0, [], .null) else none) else (if pc = 2 then some (.lload_n 1, 3, 1, 0, [], .null) else none))) else (if pc < 6 then (if pc < 5 then (if pc = 3 then some (.lstore 4, 5, 4, 0, [], .null) else none) else (if pc = 5 then some (.iconst 1, 6, 0, 0, [], .int 1) else none)) else (if pc < 8 then (if pc = 6 then some (.istore 6, 8, 6, 0, [], .null) else none) else (if pc = 8 then some (.iload 6, 10, 6, 0, [], .null) else none)))) else (if pc < 17 then (if pc < 13 then (if pc = 10 then some (.ifCond .eq 207, 13, 217, 0, [], .null) else none) else (if pc < 14 then (if pc = 13 then some (.aload_n 0, 14, 0, 0, [], .null) else none) else (if pc = 14 then some (.getfield 319, 17, 10, 46, [], .null) else none))) else (if pc < 23 then (if pc < 20 then (if pc = 17 then some (.sipush 2000, 20, 0, 0, [], .int 2000) else none) else (if pc = 20 then some (.if_icmp .ge 197, 23, 217, 0, [], .null) else none)) else (if pc < 25 then (if pc = 23 then some (.lload 4, 25, 4, 0, [], .null) else none) else (if pc = 25 then some (.invokestatic 133, 28, 114, 1, [], .null) else none))))) else (if pc < 44 then (if pc < 35 then (if pc < 31 then (if pc = 28 then some (.ifCond .eq 45, 31, 73, 0, [], .null) else none) else (if pc < 32 then (if pc = 31 then some (.aload_n 0, 32, 0, 0, [], .null) else none) else (if pc = 32 then some (.getfield 319, 35, 10, 46, [], .null) else none))) else (if pc < 41 then (if pc < 38 then (if pc = 35 then some (.sipush 2000, 38, 0, 0, [], .int 2000) else none) else (if pc = 38 then some (.if_icmp .ge 35, 41, 73, 0, [], .null) else none)) else (if pc < 42 then (if pc = 41 then some (.aload_n 0, 42, 0, 0, [], .null) else none) else (if pc = 42 then some (.bipush 40, 44, 0, 0, [], .int 40) else none)))) else (if pc < 51 then (if pc < 47 then (if pc = 44 then some (.invokevirtual 322, 47, 151, 2, [], .null) else none) else (if pc < 48 then (if pc = 47 then some (.aload_n 0, 48, 0, 0, [], .null) else none) else (if pc = 48 then some (.getfield 105, 51, 10, 47, [], .null) else none))) else (if pc < 53 then (if pc < 52 then (if pc = 51 then some (.iload_n 3, 52, 3, 0, [], .null) else none) else (if pc = 52 then some (.aload_n 0, 53, 0, 0, [], .null) else none)) else (if pc < 55 then (if pc = 53 then some (.lload 4, 55, 4, 0, [], .null) else none) else (if pc = 55 then some (.invokevirtual 179, 58, 123, 2, [], .null) else none)))))) else (if pc < 88 then (if pc < 73 then (if pc < 63 then (if pc < 59 then (if pc = 58 then some (.lastore, 59, 0, 0, [], .null) else none) else (if pc < 62 then (if pc = 59 then some (.iinc 3 1, 62, 3, 0, [], .int 1) else none) else (if pc = 62 then some (.aload_n 0, 63, 0, 0, [], .null) else none))) else (if pc < 68 then (if pc < 65 then (if pc = 63 then some (.lload 4, 65, 4, 0, [], .null) else none) else (if pc = 65 then some (.invokevirtual 183, 68, 122, 2, [], .null) else none)) else (if pc < 70 then (if pc = 68 then some (.lstore 4, 70, 4, 0, [], .null) else none) else (if pc = 70 then some (.goto (-47), 73, 23, 0, [], .null) else none)))) else (if pc < 81 then (if pc < 75 then (if pc = 73 then some (.lload 4, 75, 4, 0, [], .null) else none) else (if pc < 78 then (if pc = 75 then some (.invokestatic 133, 78, 114, 1, [], .null) else none) else (if pc = 78 then some (.ifCond .ne 9, 81, 87, 0, [], .null) else none))) else (if pc < 84 then (if pc < 82 then (if pc = 81 then some (.aload_n 0, 82, 0, 0, [], .null) else none) else (if pc = 82 then some (.lload 4, 84, 4, 0, [], .null) else none)) else (if pc < 87 then (if pc = 84 then some (.invokevirtual 326, 87, 152, 2, [], .null) else none) else (if pc = 87 then some (.iload_n 3, 88, 3, 0, [], .null) else none))))) else (if pc < 99 then (if pc < 95 then (if pc < 91 then (if pc = 88 then some (.ifCond .le 70, 91, 158, 0, [], .null) else none) else (if pc < 92 then (if pc = 91 then some (.aload_n 0, 92, 0, 0, [], .null) else none) else (if pc = 92 then some (.getfield 105, 95, 10, 47, [], .null) else none))) else (if pc < 97 then (if pc < 96 then (if pc = 95 then some (.iload_n 3, 96, 3, 0, [], .null) else none) else (if pc = 96 then some (.iconst 1, 97, 0, 0, [], .int 1) else none)) else (if pc < 98 then (if pc = 97 then some (.isub, 98, 0, 0, [], .null) else none) else (if pc = 98 then some (.laload, 99, 0, 0, [], .null) else none)))) else (if pc < 109 then (if pc < 105 then (if pc < 102 then (if pc = 99 then some (.invokestatic 133, 102, 114, 1, [], .null) else none) else (if pc = 102 then some (.ifCond .ne 56, 105, 158, 0, [], .null) else none)) else (if pc < 108 then (if pc = 105 then some (.iinc 3 (-1), 108, 3, 0, [], .int (-1)) else none) else (if pc = 108 then some (.aload_n 0, 109, 0, 0, [], .null) else none))) else (if pc < 113 then (if pc < 112 then (if pc = 109 then some (.getfield 105, 112, 10, 47, [], .null) else none) else (if pc = 112 then some (.iload_n 3, 113, 3, 0, [], .null) else none)) else (if pc < 114 then (if pc = 113 then some (.laload, 114, 0, 0, [], .null) else none) else (if pc = 114 then some (.ldc2_w 66, 117, 0, 0, [], .long (-1)) else none))))))) else (if pc < 171 then (if pc < 144 then (if pc < 130 then (if pc < 122 then (if pc < 118 then (if pc = 117 then some (.lcmp, 118, 0, 0, [], .null) else none) else (if pc < 121 then (if pc = 118 then some (.ifCond .eq 31, 121, 149, 0, [], .null) else none) else (if pc = 121 then some (.aload_n 0, 122, 0, 0, [], .null) else none))) else (if pc < 127 then (if pc < 124 then (if pc = 122 then some (.bipush 32, 124, 0, 0, [], .int 32) else none) else (if pc = 124 then some (.invokevirtual 322, 127, 151, 2, [], .null) else none)) else (if pc < 128 then (if pc = 127 then some (.aload_n 0, 128, 0, 0, [], .null) else none) else (if pc = 128 then some (.bipush 46, 130, 0, 0, [], .int 46) else none)))) else (if pc < 136 then (if pc < 133 then (if pc = 130 then some (.invokevirtual 322, 133, 151, 2, [], .null) else none) else (if pc < 134 then (if pc = 133 then some (.aload_n 0, 134, 0, 0, [], .null) else none) else (if pc = 134 then some (.bipush 32, 136, 0, 0, [], .int 32) else none))) else (if pc < 140 then (if pc < 139 then (if pc = 136 then some (.invokevirtual 322, 139, 151, 2, [], .null) else none) else (if pc = 139 then some (.aload_n 0, 140, 0, 0, [], .null) else none)) else (if pc < 141 then (if pc = 140 then some (.aload_n 0, 141, 0, 0, [], .null) else none) else (if pc = 141 then some (.getfield 105, 144, 10, 47, [], .null) else none))))) else (if pc < 158 then (if pc < 149 then (if pc < 145 then (if pc = 144 then some (.iload_n 3, 145, 3, 0, [], .null) else none) else (if pc < 146 then (if pc = 145 then some (.laload, 146, 0, 0, [], .null) else none) else (if pc = 146 then some (.invokevirtual 326, 149, 152, 2, [], .null) else none))) else (if pc < 152 then (if pc < 150 then (if pc = 149 then some (.aload_n 0, 150, 0, 0, [], .null) else none) else (if pc = 150 then some (.bipush 41, 152, 0, 0, [], .int 41) else none)) else (if pc < 155 then (if pc = 152 then some (.invokevirtual 322, 155, 151, 2, [], .null) else none) else (if pc = 155 then some (.goto (-68), 158, 87, 0, [], .null) else none)))) else (if pc < 163 then (if pc < 159 then (if pc = 158 then some (.iload_n 3, 159, 3, 0, [], .null) else none) else (if pc < 162 then (if pc = 159 then some (.ifCond .le 7, 162, 166, 0, [], .null) else none) else (if pc = 162 then some (.iconst 1, 163, 0, 0, [], .int 1) else none))) else (if pc < 167 then (if pc < 166 then (if pc = 163 then some (.goto 4, 166, 167, 0, [], .null) else none) else (if pc = 166 then some (.iconst 0, 167, 0, 0, [], .int 0) else none)) else (if pc < 169 then (if pc = 167 then some (.istore 6, 169, 6, 0, [], .null) else none) else (if pc = 169 then some (.iload 6, 171, 6, 0, [], .null) else none)))))) else (if pc < 195 then (if pc < 185 then (if pc < 177 then (if pc < 174 then (if pc = 171 then some (.ifCond .eq (-163), 174, 8, 0, [], .null) else none) else (if pc < 175 then (if pc = 174 then some (.aload_n 0, 175, 0, 0, [], .null) else none) else (if pc = 175 then some (.bipush 32, 177, 0, 0, [], .int 32) else none))) else (if pc < 181 then (if pc < 180 then (if pc = 177 then some (.invokevirtual 322, 180, 151, 2, [], .null) else none) else (if pc = 180 then some (.aload_n 0, 181, 0, 0, [], .null) else none)) else (if pc < 182 then (if pc = 181 then some (.aload_n 0, 182, 0, 0, [], .null) else none) else (if pc = 182 then some (.getfield 105, 185, 10, 47, [], .null) else none)))) else (if pc < 188 then (if pc < 186 then (if pc = 185 then some (.iload_n 3, 186, 3, 0, [], .null) else none) else (if pc < 187 then (if pc = 186 then some (.iconst 1, 187, 0, 0, [], .int 1) else none) else (if pc = 187 then some (.isub, 188, 0, 0, [], .null) else none))) else (if pc < 192 then (if pc < 189 then (if pc = 188 then some (.laload, 189, 0, 0, [], .null) else none) else (if pc = 189 then some (.invokevirtual 183, 192, 122, 2, [], .null) else none)) else (if pc < 194 then (if pc = 192 then some (.lstore 4, 194, 4, 0, [], .null) else none) else (if pc = 194 then some (.aload_n 0, 195, 0, 0, [], .null) else none))))) else (if pc < 206 then (if pc < 200 then (if pc < 198 then (if pc = 195 then some (.getfield 105, 198, 10, 47, [], .null) else none) else (if pc < 199 then (if pc = 198 then some (.iload_n 3, 199, 3, 0, [], .null) else none) else (if pc = 199 then some (.iconst 1, 200, 0, 0, [], .int 1) else none))) else (if pc < 202 then (if pc < 201 then (if pc = 200 then some (.isub, 201, 0, 0, [], .null) else none) else (if pc = 201 then some (.aload_n 0, 202, 0, 0, [], .null) else none)) else (if pc < 203 then (if pc = 202 then some (.aload_n 0, 203, 0, 0, [], .null) else none) else (if pc = 203 then some (.getfield 105, 206, 10, 47, [], .null) else none)))) else (if pc < 210 then (if pc < 208 then (if pc < 207 then (if pc = 206 then some (.iload_n 3, 207, 3, 0, [], .null) else none) else (if pc = 207 then some (.iconst 1, 208, 0, 0, [], .int 1) else none)) else (if pc < 209 then (if pc = 208 then some (.isub, 209, 0, 0, [], .null) else none) else (if pc = 209 then some (.laload, 210, 0, 0, [], .null) else none))) else (if pc < 214 then (if pc < 213 then (if pc = 210 then some (.invokevirtual 179, 213, 123, 2, [], .null) else none) else (if pc = 213 then some (.lastore, 214, 0, 0, [], .null) else none)) else (if pc < 217 then (if pc = 214 then some (.goto (-206), 217, 8, 0, [], .null) else none) else (if pc = 217 then some (.return_, 218, 0, 0, [], .null) else none)))))))) else none
set_option maxRecDepth 20000 in
def cdX10_feed : PCode := fun pc => if pc < 124 then (if pc < 60 then (if pc < 26 then (if pc < 12 then (if pc < 5 then (if pc < 1 then (if pc = 0 then some (.aload_n 0, 1, 0, 0, [], .null) else none) else (if pc < 2 then (if pc = 1 then some (.iconst 0, 2, 0, 0, [], .int 0) else none) else (if pc = 2 then some (.putfield 123, 5, 10, 0, [], .null) else none))) else (if pc < 9 then (if pc < 6 then (if pc = 5 then some (.aload_n 0, 6, 0, 0, [], .null) else none) else (if pc = 6 then some (.getfield 329, 9, 10, 20, [], .null) else none)) else (if pc < 11 then (if pc = 9 then some (.bipush 20, 11, 0, 0, [], .int 20) else none) else (if pc = 11 then some (.iadd, 12, 0, 0, [], .null) else none)))) else (if pc < 20 then (if pc < 18 then (if pc < 15 then (if pc = 12 then some (.sipush 2000, 15, 0, 0, [], .int 2000) else none) else (if pc = 15 then some (.if_icmp .le 5, 18, 20, 0, [], .null) else none)) else (if pc < 19 then (if pc = 18 then some (.iconst (-1), 19, 0, 0, [], .int (-1)) else none) else (if pc = 19 then some (.ireturn, 20, 0, 0, [], .null) else none))) else (if pc < 23 then (if pc < 21 then (if pc = 20 then some (.iconst 0, 21, 0, 0, [], .int 0) else none) else (if pc = 21 then some (.istore 6, 23, 6, 0, [], .null) else none)) else (if pc < 25 then (if pc = 23 then some (.iload 6, 25, 6, 0, [], .null) else none) else (if pc = 25 then some (.iconst 5, 26, 0, 0, [], .int 5) else none))))) else (if pc < 44 then (if pc < 35 then (if pc < 31 then (if pc < 29 then (if pc = 26 then some (.if_icmp .ge 93, 29, 119, 0, [], .null) else none) else (if pc = 29 then some (.iload 6, 31, 6, 0, [], .null) else none)) else (if pc < 34 then (if pc = 31 then some (.ifCond .ne 7, 34, 38, 0, [], .null) else none) else (if pc = 34 then some (.iload_n 1, 35, 1, 0, [], .null) else none))) else (if pc < 40 then (if pc < 38 then (if pc = 35 then some (.goto 36, 38, 71, 0, [], .null) else none) else (if pc = 38 then some (.iload 6, 40, 6, 0, [], .null) else none)) else (if pc < 41 then (if pc = 40 then some (.iconst 1, 41, 0, 0, [], .int 1) else none) else (if pc = 41 then some (.if_icmp .ne 7, 44, 48, 0, [], .null) else none)))) else (if pc < 51 then (if pc < 48 then (if pc < 45 then (if pc = 44 then some (.iload_n 2, 45, 2, 0, [], .null) else none) else (if pc = 45 then some (.goto 26, 48, 71, 0, [], .null) else none)) else (if pc < 50 then (if pc = 48 then some (.iload 6, 50, 6, 0, [], .null) else none) else (if pc = 50 then some (.iconst 2, 51, 0, 0, [], .int 2) else none))) else (if pc < 55 then (if pc < 54 then (if pc = 51 then some (.if_icmp .ne 7, 54, 58, 0, [], .null) else none) else (if pc = 54 then some (.iload_n 3, 55, 3, 0, [], .null) else none)) else (if pc < 58 then (if pc = 55 then some (.goto 16, 58, 71, 0, [], .null) else none) else (if pc = 58 then some (.iload 6, 60, 6, 0, [], .null) else none)))))) else (if pc < 94 then (if pc < 77 then (if pc < 69 then (if pc < 64 then (if pc < 61 then (if pc = 60 then some (.iconst 3, 61, 0, 0, [], .int 3) else none) else (if pc = 61 then some (.if_icmp .ne 8, 64, 69, 0, [], .null) else none)) else (if pc < 66 then (if pc = 64 then some (.iload 4, 66, 4, 0, [], .null) else none) else (if pc = 66 then some (.goto 5, 69, 71, 0, [], .null) else none))) else (if pc < 73 then (if pc < 71 then (if pc = 69 then some (.iload 5, 71, 5, 0, [], .null) else none) else (if pc = 71 then some (.istore 7, 73, 7, 0, [], .null) else none)) else (if pc < 75 then (if pc = 73 then some (.bipush 24, 75, 0, 0, [], .int 24) else none) else (if pc = 75 then some (.istore 8, 77, 8, 0, [], .null) else none)))) else (if pc < 86 then (if pc < 82 then (if pc < 79 then (if pc = 77 then some (.iload 8, 79, 8, 0, [], .null) else none) else (if pc = 79 then some (.ifCond .lt 34, 82, 113, 0, [], .null) else none)) else (if pc < 83 then (if pc = 82 then some (.aload_n 0, 83, 0, 0, [], .null) else none) else (if pc = 83 then some (.getfield 50, 86, 10, 19, [], .null) else none))) else (if pc < 90 then (if pc < 87 then (if pc = 86 then some (.aload_n 0, 87, 0, 0, [], .null) else none) else (if pc = 87 then some (.getfield 329, 90, 10, 20, [], .null) else none)) else (if pc < 92 then (if pc = 90 then some (.iload 7, 92, 7, 0, [], .null) else none) else (if pc = 92 then some (.iload 8, 94, 8, 0, [], .null) else none))))) else (if pc < 104 then (if pc < 98 then (if pc < 96 then (if pc < 95 then (if pc = 94 then some (.ishr, 95, 0, 0, [], .null) else none) else (if pc = 95 then some (.i2b, 96, 0, 0, [], .null) else none)) else (if pc < 97 then (if pc = 96 then some (.bastore, 97, 0, 0, [], .null) else none) else (if pc = 97 then some (.aload_n 0, 98, 0, 0, [], .null) else none))) else (if pc < 102 then (if pc < 99 then (if pc = 98 then some (.dup, 99, 0, 0, [], .null) else none) else (if pc = 99 then some (.getfield 329, 102, 10, 20, [], .null) else none)) else (if pc < 103 then (if pc = 102 then some (.iconst 1, 103, 0, 0, [], .int 1) else none) else (if pc = 103 then some (.iadd, 104, 0, 0, [], .null) else none)))) else (if pc < 116 then (if pc < 110 then (if pc < 107 then (if pc = 104 then some (.putfield 329, 107, 10, 20, [], .null) else none) else (if pc = 107 then some (.iinc 8 (-8), 110, 8, 0, [], .int (-8)) else none)) else (if pc < 113 then (if pc = 110 then some (.goto (-33), 113, 77, 0, [], .null) else none) else (if pc = 113 then some (.iinc 6 1, 116, 6, 0, [], .int 1) else none))) else (if pc < 120 then (if pc < 119 then (if pc = 116 then some (.goto (-93), 119, 23, 0, [], .null) else none) else (if pc = 119 then some (.aload_n 0, 120, 0, 0, [], .null) else none)) else (if pc < 123 then (if pc = 120 then some (.getfield 329, 123, 10, 20, [], .null) else none) else (if pc = 123 then some (.ireturn, 124, 0, 0, [], .null) else none))))))) else none
set_option maxRecDepth 20000 in
def cdX10_begins : PCode := fun pc => if pc < 60 then (if pc < 33 then (if pc < 14 then (if pc < 6 then (if pc < 2 then (if pc < 1 then (if pc = 0 then some (.aload_n 0, 1, 0, 0, [], .null) else none) else (if pc = 1 then some (.iload_n 1, 2, 1, 0, [], .null) else none)) else (if pc < 5 then (if pc = 2 then some (.ifCond .lt 15, 5, 17, 0, [], .null) else none) else (if pc = 5 then some (.iload_n 1, 6, 1, 0, [], .null) else none))) else (if pc < 10 then (if pc < 7 then (if pc = 6 then some (.aload_n 0, 7, 0, 0, [], .null) else none) else (if pc = 7 then some (.getfield 329, 10, 10, 20, [], .null) else none)) else (if pc < 13 then (if pc = 10 then some (.if_icmp .gt 7, 13, 17, 0, [], .null) else none) else (if pc = 13 then some (.iload_n 2, 14, 2, 0, [], .null) else none)))) else (if pc < 22 then (if pc < 18 then (if pc < 17 then (if pc = 14 then some (.ifCond .eq 7, 17, 21, 0, [], .null) else none) else (if pc = 17 then some (.iconst 1, 18, 0, 0, [], .int 1) else none)) else (if pc < 21 then (if pc = 18 then some (.goto 4, 21, 22, 0, [], .null) else none) else (if pc = 21 then some (.iconst 0, 22, 0, 0, [], .int 0) else none))) else (if pc < 26 then (if pc < 25 then (if pc = 22 then some (.putfield 123, 25, 10, 0, [], .null) else none) else (if pc = 25 then some (.aload_n 0, 26, 0, 0, [], .null) else none)) else (if pc < 29 then (if pc = 26 then some (.getfield 123, 29, 10, 0, [], .null) else none) else (if pc < 32 then (if pc = 29 then some (.ifCond .le 5, 32, 34, 0, [], .null) else none) else (if pc = 32 then some (.iconst 0, 33, 0, 0, [], .int 0) else none)))))) else (if pc < 45 then (if pc < 39 then (if pc < 35 then (if pc < 34 then (if pc = 33 then some (.ireturn, 34, 0, 0, [], .null) else none) else (if pc = 34 then some (.aload_n 0, 35, 0, 0, [], .null) else none)) else (if pc < 36 then (if pc = 35 then some (.iload_n 1, 36, 1, 0, [], .null) else none) else (if pc = 36 then some (.putfield 186, 39, 10, 21, [], .null) else none))) else (if pc < 41 then (if pc < 40 then (if pc = 39 then some (.aload_n 0, 40, 0, 0, [], .null) else none) else (if pc = 40 then some (.iconst 0, 41, 0, 0, [], .int 0) else none)) else (if pc < 44 then (if pc = 41 then some (.putfield 329, 44, 10, 20, [], .null) else none) else (if pc = 44 then some (.aload_n 0, 45, 0, 0, [], .null) else none)))) else (if pc < 51 then (if pc < 49 then (if pc < 46 then (if pc = 45 then some (.iconst 0, 46, 0, 0, [], .int 0) else none) else (if pc = 46 then some (.putfield 189, 49, 10, 22, [], .null) else none)) else (if pc < 50 then (if pc = 49 then some (.aload_n 0, 50, 0, 0, [], .null) else none) else (if pc = 50 then some (.iconst (-1), 51, 0, 0, [], .int (-1)) else none))) else (if pc < 55 then (if pc < 54 then (if pc = 51 then some (.putfield 54, 54, 10, 23, [], .null) else none) else (if pc = 54 then some (.aload_n 0, 55, 0, 0, [], .null) else none)) else (if pc < 58 then (if pc = 55 then some (.invokevirtual 332, 58, 138, 1, [], .null) else none) else (if pc < 59 then (if pc = 58 then some (.iconst 1, 59, 0, 0, [], .int 1) else none) else (if pc = 59 then some (.ireturn, 60, 0, 0, [], .null) else none))))))) else none
set_option maxRecDepth 20000 in
def cdX10_whole : PCode := fun pc => if pc < 37 then (if pc < 20 then (if pc < 9 then (if pc < 4 then (if pc < 1 then (if pc = 0 then some (.aload_n 0, 1, 0, 0, [], .null) else none) else (if pc = 1 then some (.invokevirtual 335, 4, 135, 1, [], .null) else none)) else (if pc < 5 then (if pc = 4 then some (.lstore_n 1, 5, 1, 0, [], .null) else none) else (if pc < 6 then (if pc = 5 then some (.aload_n 0, 6, 0, 0, [], .null) else none) else (if pc = 6 then some (.invokevirtual 222, 9, 130, 1, [], .null) else none)))) else (if pc < 13 then (if pc < 10 then (if pc = 9 then some (.aload_n 0, 10, 0, 0, [], .null) else none) else (if pc = 10 then some (.getfield 189, 13, 10, 22, [], .null) else none)) else (if pc < 14 then (if pc = 13 then some (.aload_n 0, 14, 0, 0, [], .null) else none) else (if pc < 17 then (if pc = 14 then some (.getfield 186, 17, 10, 21, [], .null) else none) else (if pc = 17 then some (.if_icmp .ge 13, 20, 30, 0, [], .null) else none))))) else (if pc < 29 then (if pc < 22 then (if pc < 21 then (if pc = 20 then some (.aload_n 0, 21, 0, 0, [], .null) else none) else (if pc = 21 then some (.iconst 1, 22, 0, 0, [], .int 1) else none)) else (if pc < 23 then (if pc = 22 then some (.aload_n 0, 23, 0, 0, [], .null) else none) else (if pc < 26 then (if pc = 23 then some (.getfield 189, 26, 10, 22, [], .null) else none) else (if pc = 26 then some (.invokevirtual 203, 29, 127, 3, [], .null) else none)))) else (if pc < 32 then (if pc < 30 then (if pc = 29 then some (.athrow, 30, 0, 0, [], .null) else none) else (if pc < 31 then (if pc = 30 then some (.aload_n 0, 31, 0, 0, [], .null) else none) else (if pc = 31 then some (.iconst 0, 32, 0, 0, [], .int 0) else none))) else (if pc < 35 then (if pc = 32 then some (.putfield 153, 35, 10, 25, [], .null) else none) else (if pc < 36 then (if pc = 35 then some (.lload_n 1, 36, 1, 0, [], .null) else none) else (if pc = 36 then some (.lreturn, 37, 0, 0, [], .null) else none)))))) else none
set_option maxRecDepth 20000 in
def cdX10_failed : PCode := fun pc => if pc < 35 then (if pc < 15 then (if pc < 6 then (if pc < 2 then (if pc < 1 then (if pc = 0 then some (.aload_n 0, 1, 0, 0, [], .null) else none) else (if pc = 1 then some (.iconst 0, 2, 0, 0, [], .int 0) else none)) else (if pc < 5 then (if pc = 2 then some (.putfield 153, 5, 10, 25, [], .null) else none) else (if pc = 5 then some (.aload_n 0, 6, 0, 0, [], .null) else none))) else (if pc < 10 then (if pc < 7 then (if pc = 6 then some (.iconst 0, 7, 0, 0, [], .int 0) else none) else (if pc = 7 then some (.putfield 219, 10, 10, 28, [], .null) else none)) else (if pc < 11 then (if pc = 10 then some (.aload_n 0, 11, 0, 0, [], .null) else none) else (if pc < 14 then (if pc = 11 then some (.invokevirtual 332, 14, 138, 1, [], .null) else none) else (if pc = 14 then some (.aload_n 0, 15, 0, 0, [], .null) else none))))) else (if pc < 26 then (if pc < 19 then (if pc < 16 then (if pc = 15 then some (.iload_n 1, 16, 1, 0, [], .null) else none) else (if pc = 16 then some (.ifCond .eq 10, 19, 26, 0, [], .null) else none)) else (if pc < 20 then (if pc = 19 then some (.aload_n 0, 20, 0, 0, [], .null) else none) else (if pc < 23 then (if pc = 20 then some (.getfield 319, 23, 10, 46, [], .null) else none) else (if pc = 23 then some (.goto 4, 26, 27, 0, [], .null) else none)))) else (if pc < 30 then (if pc < 27 then (if pc = 26 then some (.iconst 0, 27, 0, 0, [], .int 0) else none) else (if pc = 27 then some (.putfield 319, 30, 10, 46, [], .null) else none)) else (if pc < 31 then (if pc = 30 then some (.aload_n 0, 31, 0, 0, [], .null) else none) else (if pc < 34 then (if pc = 31 then some (.getfield 130, 34, 10, 8, [], .null) else none) else (if pc = 34 then some (.ireturn, 35, 0, 0, [], .null) else none)))))) else none
set_option maxRecDepth 20000 in
def cdX10_define : PCode := fun pc => if pc < 125 then (if pc < 64 then (if pc < 31 then (if pc < 12 then (if pc < 6 then (if pc < 2 then (if pc < 1 then (if pc = 0 then some (.aload_n 0, 1, 0, 0, [], .null) else none) else (if pc = 1 then some (.iload_n 1, 2, 1, 0, [], .null) else none)) else (if pc < 3 then (if pc = 2 then some (.iconst 0, 3, 0, 0, [], .int 0) else none) else (if pc = 3 then some (.invokevirtual 338, 6, 155, 3, [], .null) else none))) else (if pc < 10 then (if pc < 9 then (if pc = 6 then some (.ifCond .ne 5, 9, 11, 0, [], .null) else none) else (if pc = 9 then some (.iconst 0, 10, 0, 0, [], .int 0) else none)) else (if pc < 11 then (if pc = 10 then some (.ireturn, 11, 0, 0, [], .null) else none) else (if pc = 11 then some (.aload_n 0, 12, 0, 0, [], .null) else none)))) else (if pc < 20 then (if pc < 16 then (if pc < 15 then (if pc = 12 then some (.invokevirtual 222, 15, 130, 1, [], .null) else none) else (if pc = 15 then some (.aload_n 0, 16, 0, 0, [], .null) else none)) else (if pc < 19 then (if pc = 16 then some (.getfield 189, 19, 10, 22, [], .null) else none) else (if pc = 19 then some (.istore_n 2, 20, 2, 0, [], .null) else none))) else (if pc < 22 then (if pc < 21 then (if pc = 20 then some (.aload_n 0, 21, 0, 0, [], .null) else none) else (if pc = 21 then some (.aload_n 0, 22, 0, 0, [], .null) else none)) else (if pc < 25 then (if pc = 22 then some (.getfield 189, 25, 10, 22, [], .null) else none) else (if pc < 28 then (if pc = 25 then some (.invokevirtual 192, 28, 126, 2, [], .null) else none) else (if pc = 28 then some (.invokestatic 196, 31, 128, 1, [], .null) else none)))))) else (if pc < 48 then (if pc < 37 then (if pc < 35 then (if pc < 34 then (if pc = 31 then some (.ifCond .ne 13, 34, 44, 0, [], .null) else none) else (if pc = 34 then some (.aload_n 0, 35, 0, 0, [], .null) else none)) else (if pc < 36 then (if pc = 35 then some (.iconst 1, 36, 0, 0, [], .int 1) else none) else (if pc = 36 then some (.aload_n 0, 37, 0, 0, [], .null) else none))) else (if pc < 43 then (if pc < 40 then (if pc = 37 then some (.getfield 189, 40, 10, 22, [], .null) else none) else (if pc = 40 then some (.invokevirtual 203, 43, 127, 3, [], .null) else none)) else (if pc < 44 then (if pc = 43 then some (.athrow, 44, 0, 0, [], .null) else none) else (if pc < 45 then (if pc = 44 then some (.aload_n 0, 45, 0, 0, [], .null) else none) else (if pc = 45 then some (.invokevirtual 236, 48, 131, 1, [], .null) else none))))) else (if pc < 55 then (if pc < 50 then (if pc < 49 then (if pc = 48 then some (.lstore_n 3, 49, 3, 0, [], .null) else none) else (if pc = 49 then some (.lload_n 3, 50, 3, 0, [], .null) else none)) else (if pc < 53 then (if pc = 50 then some (.invokestatic 288, 53, 115, 1, [], .null) else none) else (if pc = 53 then some (.istore 5, 55, 5, 0, [], .null) else none))) else (if pc < 59 then (if pc < 57 then (if pc = 55 then some (.iload 5, 57, 5, 0, [], .null) else none) else (if pc = 57 then some (.bipush 7, 59, 0, 0, [], .int 7) else none)) else (if pc < 62 then (if pc = 59 then some (.if_icmp .gt 10, 62, 69, 0, [], .null) else none) else (if pc < 63 then (if pc = 62 then some (.aload_n 0, 63, 0, 0, [], .null) else none) else (if pc = 63 then some (.iconst 1, 64, 0, 0, [], .int 1) else none))))))) else (if pc < 96 then (if pc < 80 then (if pc < 70 then (if pc < 68 then (if pc < 65 then (if pc = 64 then some (.iload_n 2, 65, 2, 0, [], .null) else none) else (if pc = 65 then some (.invokevirtual 203, 68, 127, 3, [], .null) else none)) else (if pc < 69 then (if pc = 68 then some (.athrow, 69, 0, 0, [], .null) else none) else (if pc = 69 then some (.aload_n 0, 70, 0, 0, [], .null) else none))) else (if pc < 75 then (if pc < 73 then (if pc = 70 then some (.invokevirtual 342, 73, 156, 1, [], .null) else none) else (if pc = 73 then some (.lstore 6, 75, 6, 0, [], .null) else none)) else (if pc < 76 then (if pc = 75 then some (.aload_n 0, 76, 0, 0, [], .null) else none) else (if pc < 77 then (if pc = 76 then some (.dup, 77, 0, 0, [], .null) else none) else (if pc = 77 then some (.getfield 345, 80, 10, 6, [], .null) else none))))) else (if pc < 87 then (if pc < 84 then (if pc < 81 then (if pc = 80 then some (.aload_n 0, 81, 0, 0, [], .null) else none) else (if pc = 81 then some (.getfield 16, 84, 10, 3, [], .null) else none)) else (if pc < 86 then (if pc = 84 then some (.iload 5, 86, 5, 0, [], .null) else none) else (if pc = 86 then some (.baload, 87, 0, 0, [], .null) else none))) else (if pc < 91 then (if pc < 90 then (if pc = 87 then some (.ifCond .eq 7, 90, 94, 0, [], .null) else none) else (if pc = 90 then some (.iconst 0, 91, 0, 0, [], .int 0) else none)) else (if pc < 94 then (if pc = 91 then some (.goto 4, 94, 95, 0, [], .null) else none) else (if pc < 95 then (if pc = 94 then some (.iconst 1, 95, 0, 0, [], .int 1) else none) else (if pc = 95 then some (.iadd, 96, 0, 0, [], .null) else none)))))) else (if pc < 113 then (if pc < 105 then (if pc < 100 then (if pc < 99 then (if pc = 96 then some (.putfield 345, 99, 10, 6, [], .null) else none) else (if pc = 99 then some (.aload_n 0, 100, 0, 0, [], .null) else none)) else (if pc < 103 then (if pc = 100 then some (.getfield 16, 103, 10, 3, [], .null) else none) else (if pc = 103 then some (.iload 5, 105, 5, 0, [], .null) else none))) else (if pc < 107 then (if pc < 106 then (if pc = 105 then some (.iconst 1, 106, 0, 0, [], .int 1) else none) else (if pc = 106 then some (.bastore, 107, 0, 0, [], .null) else none)) else (if pc < 108 then (if pc = 107 then some (.aload_n 0, 108, 0, 0, [], .null) else none) else (if pc < 111 then (if pc = 108 then some (.getfield 20, 111, 10, 4, [], .null) else none) else (if pc = 111 then some (.iload 5, 113, 5, 0, [], .null) else none))))) else (if pc < 118 then (if pc < 116 then (if pc < 115 then (if pc = 113 then some (.lload 6, 115, 6, 0, [], .null) else none) else (if pc = 115 then some (.lastore, 116, 0, 0, [], .null) else none)) else (if pc < 117 then (if pc = 116 then some (.iconst 0, 117, 0, 0, [], .int 0) else none) else (if pc = 117 then some (.ireturn, 118, 0, 0, [], .null) else none))) else (if pc < 120 then (if pc < 119 then (if pc = 118 then some (.astore_n 2, 119, 2, 0, [], .null) else none) else (if pc = 119 then some (.aload_n 0, 120, 0, 0, [], .null) else none)) else (if pc < 121 then (if pc = 120 then some (.iconst 1, 121, 0, 0, [], .int 1) else none) else (if pc < 124 then (if pc = 121 then some (.invokevirtual 348, 124, 157, 2, [], .null) else none) else (if pc = 124 then some (.ireturn, 125, 0, 0, [], .null) else none)))))))) else none
set_option maxRecDepth 20000 in
def cdX10_echo : PCode := fun pc => if pc < 35 then (if pc < 17 then (if pc < 9 then (if pc < 2 then (if pc < 1 then (if pc = 0 then some (.aload_n 0, 1, 0, 0, [], .null) else none) else (if pc = 1 then some (.iload_n 1, 2, 1, 0, [], .null) else none)) else (if pc < 3 then (if pc = 2 then some (.iconst 0, 3, 0, 0, [], .int 0) else none) else (if pc < 6 then (if pc = 3 then some (.invokevirtual 338, 6, 155, 3, [], .null) else none) else (if pc = 6 then some (.ifCond .ne 5, 9, 11, 0, [], .null) else none)))) else (if pc < 12 then (if pc < 10 then (if pc = 9 then some (.iconst 0, 10, 0, 0, [], .int 0) else none) else (if pc < 11 then (if pc = 10 then some (.ireturn, 11, 0, 0, [], .null) else none) else (if pc = 11 then some (.aload_n 0, 12, 0, 0, [], .null) else none))) else (if pc < 15 then (if pc = 12 then some (.invokevirtual 342, 15, 156, 1, [], .null) else none) else (if pc < 16 then (if pc = 15 then some (.lstore_n 2, 16, 2, 0, [], .null) else none) else (if pc = 16 then some (.aload_n 0, 17, 0, 0, [], .null) else none))))) else (if pc < 27 then (if pc < 22 then (if pc < 18 then (if pc = 17 then some (.iconst 0, 18, 0, 0, [], .int 0) else none) else (if pc < 21 then (if pc = 18 then some (.putfield 319, 21, 10, 46, [], .null) else none) else (if pc = 21 then some (.aload_n 0, 22, 0, 0, [], .null) else none))) else (if pc < 23 then (if pc = 22 then some (.lload_n 2, 23, 2, 0, [], .null) else none) else (if pc < 26 then (if pc = 23 then some (.invokevirtual 351, 26, 153, 2, [], .null) else none) else (if pc = 26 then some (.iconst 0, 27, 0, 0, [], .int 0) else none)))) else (if pc < 30 then (if pc < 28 then (if pc = 27 then some (.ireturn, 28, 0, 0, [], .null) else none) else (if pc < 29 then (if pc = 28 then some (.astore_n 2, 29, 2, 0, [], .null) else none) else (if pc = 29 then some (.aload_n 0, 30, 0, 0, [], .null) else none))) else (if pc < 31 then (if pc = 30 then some (.iconst 0, 31, 0, 0, [], .int 0) else none) else (if pc < 34 then (if pc = 31 then some (.invokevirtual 348, 34, 157, 2, [], .null) else none) else (if pc = 34 then some (.ireturn, 35, 0, 0, [], .null) else none)))))) else none
set_option maxRecDepth 20000 in
def cdX10_eval : PCode := fun pc => if pc < 137 then (if pc < 65 then (if pc < 32 then (if pc < 17 then (if pc < 6 then (if pc < 2 then (if pc < 1 then (if pc = 0 then some (.aload_n 0, 1, 0, 0, [], .null) else none) else (if pc = 1 then some (.iload_n 1, 2, 1, 0, [], .null) else none)) else (if pc < 3 then (if pc = 2 then some (.iload_n 2, 3, 2, 0, [], .null) else none) else (if pc = 3 then some (.ifCond .lt 10, 6, 13, 0, [], .null) else none))) else (if pc < 10 then (if pc < 7 then (if pc = 6 then some (.iload_n 2, 7, 2, 0, [], .null) else none) else (if pc = 7 then some (.sipush 20000, 10, 0, 0, [], .int 20000) else none)) else (if pc < 13 then (if pc = 10 then some (.if_icmp .le 7, 13, 17, 0, [], .null) else none) else (if pc < 14 then (if pc = 13 then some (.iconst 1, 14, 0, 0, [], .int 1) else none) else (if pc = 14 then some (.goto 4, 17, 18, 0, [], .null) else none))))) else (if pc < 25 then (if pc < 21 then (if pc < 18 then (if pc = 17 then some (.iconst 0, 18, 0, 0, [], .int 0) else none) else (if pc = 18 then some (.invokevirtual 338, 21, 155, 3, [], .null) else none)) else (if pc < 24 then (if pc = 21 then some (.ifCond .ne 5, 24, 26, 0, [], .null) else none) else (if pc = 24 then some (.iconst 0, 25, 0, 0, [], .int 0) else none))) else (if pc < 27 then (if pc < 26 then (if pc = 25 then some (.ireturn, 26, 0, 0, [], .null) else none) else (if pc = 26 then some (.aload_n 0, 27, 0, 0, [], .null) else none)) else (if pc < 28 then (if pc = 27 then some (.iconst 0, 28, 0, 0, [], .int 0) else none) else (if pc < 31 then (if pc = 28 then some (.putfield 252, 31, 10, 44, [], .null) else none) else (if pc = 31 then some (.aload_n 0, 32, 0, 0, [], .null) else none)))))) else (if pc < 49 then (if pc < 38 then (if pc < 36 then (if pc < 33 then (if pc = 32 then some (.iconst 0, 33, 0, 0, [], .int 0) else none) else (if pc = 33 then some (.putfield 261, 36, 10, 42, [], .null) else none)) else (if pc < 37 then (if pc = 36 then some (.aload_n 0, 37, 0, 0, [], .null) else none) else (if pc = 37 then some (.iload_n 2, 38, 2, 0, [], .null) else none))) else (if pc < 42 then (if pc < 41 then (if pc = 38 then some (.putfield 255, 41, 10, 43, [], .null) else none) else (if pc = 41 then some (.aload_n 0, 42, 0, 0, [], .null) else none)) else (if pc < 43 then (if pc = 42 then some (.aload_n 0, 43, 0, 0, [], .null) else none) else (if pc < 46 then (if pc = 43 then some (.invokevirtual 342, 46, 156, 1, [], .null) else none) else (if pc = 46 then some (.putfield 68, 49, 10, 29, [], .null) else none))))) else (if pc < 56 then (if pc < 51 then (if pc < 50 then (if pc = 49 then some (.iconst 0, 50, 0, 0, [], .int 0) else none) else (if pc = 50 then some (.istore_n 3, 51, 3, 0, [], .null) else none)) else (if pc < 52 then (if pc = 51 then some (.iload_n 3, 52, 3, 0, [], .null) else none) else (if pc < 53 then (if pc = 52 then some (.iconst 3, 53, 0, 0, [], .int 3) else none) else (if pc = 53 then some (.if_icmp .eq 58, 56, 111, 0, [], .null) else none)))) else (if pc < 60 then (if pc < 57 then (if pc = 56 then some (.aload_n 0, 57, 0, 0, [], .null) else none) else (if pc = 57 then some (.invokevirtual 258, 60, 139, 1, [], .null) else none)) else (if pc < 61 then (if pc = 60 then some (.iload_n 3, 61, 3, 0, [], .null) else none) else (if pc < 64 then (if pc = 61 then some (.ifCond .ne 10, 64, 71, 0, [], .null) else none) else (if pc = 64 then some (.aload_n 0, 65, 0, 0, [], .null) else none))))))) else (if pc < 102 then (if pc < 84 then (if pc < 73 then (if pc < 71 then (if pc < 68 then (if pc = 65 then some (.invokevirtual 354, 68, 142, 1, [], .null) else none) else (if pc = 68 then some (.goto 19, 71, 87, 0, [], .null) else none)) else (if pc < 72 then (if pc = 71 then some (.iload_n 3, 72, 3, 0, [], .null) else none) else (if pc = 72 then some (.iconst 1, 73, 0, 0, [], .int 1) else none))) else (if pc < 77 then (if pc < 76 then (if pc = 73 then some (.if_icmp .ne 10, 76, 83, 0, [], .null) else none) else (if pc = 76 then some (.aload_n 0, 77, 0, 0, [], .null) else none)) else (if pc < 80 then (if pc = 77 then some (.invokevirtual 357, 80, 143, 1, [], .null) else none) else (if pc < 83 then (if pc = 80 then some (.goto 7, 83, 87, 0, [], .null) else none) else (if pc = 83 then some (.aload_n 0, 84, 0, 0, [], .null) else none))))) else (if pc < 93 then (if pc < 88 then (if pc < 87 then (if pc = 84 then some (.invokevirtual 360, 87, 144, 1, [], .null) else none) else (if pc = 87 then some (.istore_n 3, 88, 3, 0, [], .null) else none)) else (if pc < 89 then (if pc = 88 then some (.iload_n 3, 89, 3, 0, [], .null) else none) else (if pc < 90 then (if pc = 89 then some (.iconst 2, 90, 0, 0, [], .int 2) else none) else (if pc = 90 then some (.if_icmp .ne 6, 93, 96, 0, [], .null) else none)))) else (if pc < 97 then (if pc < 96 then (if pc = 93 then some (.goto (-42), 96, 51, 0, [], .null) else none) else (if pc = 96 then some (.aload_n 0, 97, 0, 0, [], .null) else none)) else (if pc < 98 then (if pc = 97 then some (.iconst 0, 98, 0, 0, [], .int 0) else none) else (if pc < 101 then (if pc = 98 then some (.putfield 156, 101, 10, 34, [], .null) else none) else (if pc = 101 then some (.aload_n 0, 102, 0, 0, [], .null) else none)))))) else (if pc < 121 then (if pc < 112 then (if pc < 108 then (if pc < 105 then (if pc = 102 then some (.ldc2_w 66, 105, 0, 0, [], .long (-1)) else none) else (if pc = 105 then some (.putfield 75, 108, 10, 31, [], .null) else none)) else (if pc < 111 then (if pc = 108 then some (.goto (-57), 111, 51, 0, [], .null) else none) else (if pc = 111 then some (.aload_n 0, 112, 0, 0, [], .null) else none))) else (if pc < 116 then (if pc < 113 then (if pc = 112 then some (.iconst 0, 113, 0, 0, [], .int 0) else none) else (if pc = 113 then some (.putfield 319, 116, 10, 46, [], .null) else none)) else (if pc < 117 then (if pc = 116 then some (.aload_n 0, 117, 0, 0, [], .null) else none) else (if pc < 118 then (if pc = 117 then some (.aload_n 0, 118, 0, 0, [], .null) else none) else (if pc = 118 then some (.getfield 78, 121, 10, 32, [], .null) else none))))) else (if pc < 130 then (if pc < 125 then (if pc < 124 then (if pc = 121 then some (.invokevirtual 351, 124, 153, 2, [], .null) else none) else (if pc = 124 then some (.aload_n 0, 125, 0, 0, [], .null) else none)) else (if pc < 128 then (if pc = 125 then some (.invokevirtual 332, 128, 138, 1, [], .null) else none) else (if pc < 129 then (if pc = 128 then some (.iconst 0, 129, 0, 0, [], .int 0) else none) else (if pc = 129 then some (.ireturn, 130, 0, 0, [], .null) else none)))) else (if pc < 132 then (if pc < 131 then (if pc = 130 then some (.astore_n 3, 131, 3, 0, [], .null) else none) else (if pc = 131 then some (.aload_n 0, 132, 0, 0, [], .null) else none)) else (if pc < 133 then (if pc = 132 then some (.iconst 0, 133, 0, 0, [], .int 0) else none) else (if pc < 136 then (if pc = 133 then some (.invokevirtual 348, 136, 157, 2, [], .null) else none) else (if pc = 136 then some (.ireturn, 137, 0, 0, [], .null) else none)))))))) else none
set_option maxRecDepth 20000 in
def cdX10_place : PCode := fun pc => if pc < 10 then (if pc < 5 then (if pc < 1 then (if pc = 0 then some (.aload_n 0, 1, 0, 0, [], .null) else none) else (if pc < 2 then (if pc = 1 then some (.iconst 0, 2, 0, 0, [], .int 0) else none) else (if pc = 2 then some (.putfield 123, 5, 10, 0, [], .null) else none))) else (if pc < 6 then (if pc = 5 then some (.aload_n 0, 6, 0, 0, [], .null) else none) else (if pc < 9 then (if pc = 6 then some (.getfield 54, 9, 10, 23, [], .null) else none) else (if pc = 9 then some (.ireturn, 10, 0, 0, [], .null) else none)))) else none
set_option maxRecDepth 20000 in
def cdX10_ofFunctions : PCode := fun pc => if pc < 22 then (if pc < 12 then (if pc < 5 then (if pc < 1 then (if pc = 0 then some (.aload_n 0, 1, 0, 0, [], .null) else none) else (if pc < 4 then (if pc = 1 then some (.invokevirtual 150, 4, 119, 1, [], .null) else none) else (if pc = 4 then some (.aload_n 0, 5, 0, 0, [], .null) else none))) else (if pc < 6 then (if pc = 5 then some (.aload_n 0, 6, 0, 0, [], .null) else none) else (if pc < 9 then (if pc = 6 then some (.getfield 137, 9, 10, 14, [], .null) else none) else (if pc = 9 then some (.putfield 162, 12, 10, 15, [], .null) else none)))) else (if pc < 17 then (if pc < 13 then (if pc = 12 then some (.aload_n 0, 13, 0, 0, [], .null) else none) else (if pc < 14 then (if pc = 13 then some (.iconst 0, 14, 0, 0, [], .int 0) else none) else (if pc = 14 then some (.putfield 165, 17, 10, 16, [], .null) else none))) else (if pc < 18 then (if pc = 17 then some (.aload_n 0, 18, 0, 0, [], .null) else none) else (if pc < 21 then (if pc = 18 then some (.getfield 137, 21, 10, 14, [], .null) else none) else (if pc = 21 then some (.ireturn, 22, 0, 0, [], .null) else none))))) else none
set_option maxRecDepth 20000 in
def cdX10_room : PCode := fun pc => if pc < 48 then (if pc < 28 then (if pc < 13 then (if pc < 5 then (if pc < 1 then (if pc = 0 then some (.aload_n 0, 1, 0, 0, [], .null) else none) else (if pc < 2 then (if pc = 1 then some (.iload_n 1, 2, 1, 0, [], .null) else none) else (if pc = 2 then some (.ifCond .lt 10, 5, 12, 0, [], .null) else none))) else (if pc < 9 then (if pc < 6 then (if pc = 5 then some (.iload_n 1, 6, 1, 0, [], .null) else none) else (if pc = 6 then some (.sipush 2000, 9, 0, 0, [], .int 2000) else none)) else (if pc < 12 then (if pc = 9 then some (.if_icmp .le 7, 12, 16, 0, [], .null) else none) else (if pc = 12 then some (.iconst 1, 13, 0, 0, [], .int 1) else none)))) else (if pc < 20 then (if pc < 16 then (if pc = 13 then some (.goto 4, 16, 17, 0, [], .null) else none) else (if pc < 17 then (if pc = 16 then some (.iconst 0, 17, 0, 0, [], .int 0) else none) else (if pc = 17 then some (.putfield 123, 20, 10, 0, [], .null) else none))) else (if pc < 24 then (if pc < 21 then (if pc = 20 then some (.aload_n 0, 21, 0, 0, [], .null) else none) else (if pc = 21 then some (.getfield 123, 24, 10, 0, [], .null) else none)) else (if pc < 27 then (if pc = 24 then some (.ifCond .le 5, 27, 29, 0, [], .null) else none) else (if pc = 27 then some (.iconst 0, 28, 0, 0, [], .int 0) else none))))) else (if pc < 39 then (if pc < 33 then (if pc < 29 then (if pc = 28 then some (.ireturn, 29, 0, 0, [], .null) else none) else (if pc < 30 then (if pc = 29 then some (.aload_n 0, 30, 0, 0, [], .null) else none) else (if pc = 30 then some (.invokevirtual 363, 33, 162, 1, [], .null) else none))) else (if pc < 35 then (if pc < 34 then (if pc = 33 then some (.istore_n 2, 34, 2, 0, [], .null) else none) else (if pc = 34 then some (.iload_n 2, 35, 2, 0, [], .null) else none)) else (if pc < 36 then (if pc = 35 then some (.iload_n 1, 36, 1, 0, [], .null) else none) else (if pc = 36 then some (.if_icmp .le 5, 39, 41, 0, [], .null) else none)))) else (if pc < 42 then (if pc < 40 then (if pc = 39 then some (.iconst (-1), 40, 0, 0, [], .int (-1)) else none) else (if pc < 41 then (if pc = 40 then some (.ireturn, 41, 0, 0, [], .null) else none) else (if pc = 41 then some (.aload_n 0, 42, 0, 0, [], .null) else none))) else (if pc < 46 then (if pc < 43 then (if pc = 42 then some (.iload_n 1, 43, 1, 0, [], .null) else none) else (if pc = 43 then some (.putfield 46, 46, 10, 17, [], .null) else none)) else (if pc < 47 then (if pc = 46 then some (.iload_n 2, 47, 2, 0, [], .null) else none) else (if pc = 47 then some (.ireturn, 48, 0, 0, [], .null) else none)))))) else none
set_option maxRecDepth 20000 in
def cdX10_count : PCode := fun pc => if pc < 103 then (if pc < 76 then (if pc < 61 then (if pc < 6 then (if pc < 2 then (if pc < 1 then (if pc = 0 then some (.aload_n 0, 1, 0, 0, [], .null) else none) else (if pc = 1 then some (.iconst 0, 2, 0, 0, [], .int 0) else none)) else (if pc < 5 then (if pc = 2 then some (.putfield 123, 5, 10, 0, [], .null) else none) else (if pc = 5 then some (.iload_n 1, 6, 1, 0, [], .null) else none))) else (if pc < 57 then (if pc < 56 then (if pc = 6 then some (.tableswitch 95 0 8 #[50, 55, 60, 65, 70, 75, 80, 85, 90], 56, 101, 0, [56, 61, 66, 71, 76, 81, 86, 91, 96], .null) else none) else (if pc = 56 then some (.aload_n 0, 57, 0, 0, [], .null) else none)) else (if pc < 60 then (if pc = 57 then some (.getfield 120, 60, 10, 5, [], .null) else none) else (if pc = 60 then some (.ireturn, 61, 0, 0, [], .null) else none)))) else (if pc < 67 then (if pc < 65 then (if pc < 62 then (if pc = 61 then some (.aload_n 0, 62, 0, 0, [], .null) else none) else (if pc = 62 then some (.invokevirtual 363, 65, 162, 1, [], .null) else none)) else (if pc < 66 then (if pc = 65 then some (.ireturn, 66, 0, 0, [], .null) else none) else (if pc = 66 then some (.aload_n 0, 67, 0, 0, [], .null) else none))) else (if pc < 71 then (if pc < 70 then (if pc = 67 then some (.getfield 252, 70, 10, 44, [], .null) else none) else (if pc = 70 then some (.ireturn, 71, 0, 0, [], .null) else none)) else (if pc < 72 then (if pc = 71 then some (.aload_n 0, 72, 0, 0, [], .null) else none) else (if pc < 75 then (if pc = 72 then some (.getfield 261, 75, 10, 42, [], .null) else none) else (if pc = 75 then some (.ireturn, 76, 0, 0, [], .null) else none)))))) else (if pc < 90 then (if pc < 82 then (if pc < 80 then (if pc < 77 then (if pc = 76 then some (.aload_n 0, 77, 0, 0, [], .null) else none) else (if pc = 77 then some (.getfield 176, 80, 10, 18, [], .null) else none)) else (if pc < 81 then (if pc = 80 then some (.ireturn, 81, 0, 0, [], .null) else none) else (if pc = 81 then some (.aload_n 0, 82, 0, 0, [], .null) else none))) else (if pc < 86 then (if pc < 85 then (if pc = 82 then some (.getfield 319, 85, 10, 46, [], .null) else none) else (if pc = 85 then some (.ireturn, 86, 0, 0, [], .null) else none)) else (if pc < 87 then (if pc = 86 then some (.aload_n 0, 87, 0, 0, [], .null) else none) else (if pc = 87 then some (.getfield 329, 90, 10, 20, [], .null) else none)))) else (if pc < 96 then (if pc < 92 then (if pc < 91 then (if pc = 90 then some (.ireturn, 91, 0, 0, [], .null) else none) else (if pc = 91 then some (.aload_n 0, 92, 0, 0, [], .null) else none)) else (if pc < 95 then (if pc = 92 then some (.getfield 46, 95, 10, 17, [], .null) else none) else (if pc = 95 then some (.ireturn, 96, 0, 0, [], .null) else none))) else (if pc < 100 then (if pc < 97 then (if pc = 96 then some (.aload_n 0, 97, 0, 0, [], .null) else none) else (if pc = 97 then some (.getfield 345, 100, 10, 6, [], .null) else none)) else (if pc < 101 then (if pc = 100 then some (.ireturn, 101, 0, 0, [], .null) else none) else (if pc < 102 then (if pc = 101 then some (.iconst (-1), 102, 0, 0, [], .int (-1)) else none) else (if pc = 102 then some (.ireturn, 103, 0, 0, [], .null) else none))))))) else none
set_option maxRecDepth 20000 in
def cdX10_function : PCode := fun pc => if pc < 48 then (if pc < 26 then (if pc < 11 then (if pc < 5 then (if pc < 1 then (if pc = 0 then some (.aload_n 0, 1, 0, 0, [], .null) else none) else (if pc < 2 then (if pc = 1 then some (.iconst 0, 2, 0, 0, [], .int 0) else none) else (if pc = 2 then some (.putfield 123, 5, 10, 0, [], .null) else none))) else (if pc < 9 then (if pc < 6 then (if pc = 5 then some (.iload_n 1, 6, 1, 0, [], .null) else none) else (if pc = 6 then some (.ifCond .lt 20, 9, 26, 0, [], .null) else none)) else (if pc < 10 then (if pc = 9 then some (.iload_n 1, 10, 1, 0, [], .null) else none) else (if pc = 10 then some (.aload_n 0, 11, 0, 0, [], .null) else none)))) else (if pc < 18 then (if pc < 14 then (if pc = 11 then some (.getfield 120, 14, 10, 5, [], .null) else none) else (if pc < 17 then (if pc = 14 then some (.if_icmp .ge 12, 17, 26, 0, [], .null) else none) else (if pc = 17 then some (.aload_n 0, 18, 0, 0, [], .null) else none))) else (if pc < 22 then (if pc < 21 then (if pc = 18 then some (.getfield 16, 21, 10, 3, [], .null) else none) else (if pc = 21 then some (.iload_n 1, 22, 1, 0, [], .null) else none)) else (if pc < 23 then (if pc = 22 then some (.baload, 23, 0, 0, [], .null) else none) else (if pc = 23 then some (.ifCond .ne 5, 26, 28, 0, [], .null) else none))))) else (if pc < 35 then (if pc < 29 then (if pc < 27 then (if pc = 26 then some (.iconst (-1), 27, 0, 0, [], .int (-1)) else none) else (if pc < 28 then (if pc = 27 then some (.ireturn, 28, 0, 0, [], .null) else none) else (if pc = 28 then some (.aload_n 0, 29, 0, 0, [], .null) else none))) else (if pc < 33 then (if pc < 30 then (if pc = 29 then some (.iconst 0, 30, 0, 0, [], .int 0) else none) else (if pc = 30 then some (.putfield 319, 33, 10, 46, [], .null) else none)) else (if pc < 34 then (if pc = 33 then some (.aload_n 0, 34, 0, 0, [], .null) else none) else (if pc = 34 then some (.aload_n 0, 35, 0, 0, [], .null) else none)))) else (if pc < 40 then (if pc < 38 then (if pc = 35 then some (.getfield 20, 38, 10, 4, [], .null) else none) else (if pc < 39 then (if pc = 38 then some (.iload_n 1, 39, 1, 0, [], .null) else none) else (if pc = 39 then some (.laload, 40, 0, 0, [], .null) else none))) else (if pc < 44 then (if pc < 43 then (if pc = 40 then some (.invokevirtual 351, 43, 153, 2, [], .null) else none) else (if pc = 43 then some (.aload_n 0, 44, 0, 0, [], .null) else none)) else (if pc < 47 then (if pc = 44 then some (.getfield 319, 47, 10, 46, [], .null) else none) else (if pc = 47 then some (.ireturn, 48, 0, 0, [], .null) else none)))))) else none
set_option maxRecDepth 20000 in
def cdX10_octet : PCode := fun pc => if pc < 32 then (if pc < 17 then (if pc < 6 then (if pc < 2 then (if pc < 1 then (if pc = 0 then some (.aload_n 0, 1, 0, 0, [], .null) else none) else (if pc = 1 then some (.iconst 0, 2, 0, 0, [], .int 0) else none)) else (if pc < 5 then (if pc = 2 then some (.putfield 123, 5, 10, 0, [], .null) else none) else (if pc = 5 then some (.iload_n 1, 6, 1, 0, [], .null) else none))) else (if pc < 10 then (if pc < 9 then (if pc = 6 then some (.ifCond .lt 24, 9, 30, 0, [], .null) else none) else (if pc = 9 then some (.iload_n 1, 10, 1, 0, [], .null) else none)) else (if pc < 11 then (if pc = 10 then some (.aload_n 0, 11, 0, 0, [], .null) else none) else (if pc < 14 then (if pc = 11 then some (.getfield 319, 14, 10, 46, [], .null) else none) else (if pc = 14 then some (.if_icmp .ge 16, 17, 30, 0, [], .null) else none))))) else (if pc < 23 then (if pc < 21 then (if pc < 18 then (if pc = 17 then some (.aload_n 0, 18, 0, 0, [], .null) else none) else (if pc = 18 then some (.getfield 102, 21, 10, 45, [], .null) else none)) else (if pc < 22 then (if pc = 21 then some (.iload_n 1, 22, 1, 0, [], .null) else none) else (if pc = 22 then some (.baload, 23, 0, 0, [], .null) else none))) else (if pc < 27 then (if pc < 26 then (if pc = 23 then some (.sipush 255, 26, 0, 0, [], .int 255) else none) else (if pc = 26 then some (.iand, 27, 0, 0, [], .null) else none)) else (if pc < 30 then (if pc = 27 then some (.goto 4, 30, 31, 0, [], .null) else none) else (if pc < 31 then (if pc = 30 then some (.iconst (-1), 31, 0, 0, [], .int (-1)) else none) else (if pc = 31 then some (.ireturn, 32, 0, 0, [], .null) else none)))))) else none
end
section
/-! the methods, the kinds, the words -/
def qX0_size : PMeth := (yX0_size, cX0_size, 1, (some .int), [], cdX0_size, fun _ => none, (some 1), 0)
def qX0_at : PMeth := (yX0_at, cX0_at, 2, (some .int), [], cdX0_at, fun _ => none, (some 1), 1)
def qX0_add : PMeth := (yX0_add, cX0_add, 2, none, [], cdX0_add, fun _ => none, (some 1), 1)
def qX0_addNumber : PMeth := (yX0_addNumber, cX0_addNumber, 3, none, [], cdX0_addNumber, fun _ => none, (some 1), 1)
def qX0_clear : PMeth := (yX0_clear, cX0_clear, 1, none, [], cdX0_clear, fun _ => none, (some 1), 0)
def qX1_made : PMeth := (yX1_made, cX1_made, 1, (some .int), [], cdX1_made, fun _ => none, (some 2), 0)
def qX1_limit : PMeth := (yX1_limit, cX1_limit, 1, (some .int), [], cdX1_limit, fun _ => none, (some 2), 0)
def qX1_setLimit : PMeth := (yX1_setLimit, cX1_setLimit, 2, none, [], cdX1_setLimit, fun _ => none, (some 2), 1)
def qX1_head : PMeth := (yX1_head, cX1_head, 5, (some .long), [], cdX1_head, fun _ => none, (some 2), 1)
def qX1_tail : PMeth := (yX1_tail, cX1_tail, 5, (some .long), [], cdX1_tail, fun _ => none, (some 2), 1)
def qX1_make : PMeth := (yX1_make, cX1_make, 6, (some .long), [], cdX1_make, fun _ => none, (some 2), 2)
def qX1_reachedByFunctions : PMeth := (yX1_reachedByFunctions, cX1_reachedByFunctions, 1, (some .int), [], cdX1_reachedByFunctions, fun _ => none, (some 2), 0)
def qX1_inUse : PMeth := (yX1_inUse, cX1_inUse, 1, (some .int), [], cdX1_inUse, fun _ => none, (some 2), 0)
def qX1_collect : PMeth := (yX1_collect, cX1_collect, 10, none, [], cdX1_collect, fun _ => none, (some 2), 2)
def qX1_reach : PMeth := (yX1_reach, cX1_reach, 8, none, [], cdX1_reach, fun _ => none, (some 2), 1)
def qX1_takeBack : PMeth := (yX1_takeBack, cX1_takeBack, 2, none, [], cdX1_takeBack, fun _ => none, (some 2), 0)
def qX2_fault : PMeth := (yX2_fault, cX2_fault, 1, (some .int), [], cdX2_fault, fun _ => none, (some 3), 0)
def qX2_answer : PMeth := (yX2_answer, cX2_answer, 1, (some .long), [], cdX2_answer, fun _ => none, (some 3), 0)
def qX2_fuelTaken : PMeth := (yX2_fuelTaken, cX2_fuelTaken, 1, (some .int), [], cdX2_fuelTaken, fun _ => none, (some 3), 0)
def qX2_mostFrames : PMeth := (yX2_mostFrames, cX2_mostFrames, 1, (some .int), [], cdX2_mostFrames, fun _ => none, (some 3), 0)
def qX2_forget : PMeth := (yX2_forget, cX2_forget, 1, none, [], cdX2_forget, fun _ => none, (some 3), 0)
def qX2_run : PMeth := (yX2_run, cX2_run, 5, none, [], cdX2_run, fun _ => none, (some 3), 2)
def qX2_letGo : PMeth := (yX2_letGo, cX2_letGo, 1, none, [], cdX2_letGo, fun _ => none, (some 3), 0)
def qX2_emptyHand : PMeth := (yX2_emptyHand, cX2_emptyHand, 1, none, [], cdX2_emptyHand, fun _ => none, (some 3), 0)
def qX2_fail : PMeth := (yX2_fail, cX2_fail, 2, none, [], cdX2_fail, fun _ => none, (some 3), 1)
def qX2_burn : PMeth := (yX2_burn, cX2_burn, 1, (some .boolean), [], cdX2_burn, fun _ => none, (some 3), 0)
def qX2_give : PMeth := (yX2_give, cX2_give, 3, none, [], cdX2_give, fun _ => none, (some 3), 1)
def qX2_evaluateNext : PMeth := (yX2_evaluateNext, cX2_evaluateNext, 3, none, [], cdX2_evaluateNext, fun _ => none, (some 3), 1)
def qX2_askHead : PMeth := (yX2_askHead, cX2_askHead, 3, (some .long), [], cdX2_askHead, fun _ => none, (some 3), 1)
def qX2_askTail : PMeth := (yX2_askTail, cX2_askTail, 3, (some .long), [], cdX2_askTail, fun _ => none, (some 3), 1)
def qX2_askSecond : PMeth := (yX2_askSecond, cX2_askSecond, 3, (some .long), [], cdX2_askSecond, fun _ => none, (some 3), 1)
def qX2_askThird : PMeth := (yX2_askThird, cX2_askThird, 3, (some .long), [], cdX2_askThird, fun _ => none, (some 3), 1)
def qX2_cons : PMeth := (yX2_cons, cX2_cons, 7, (some .long), [], cdX2_cons, fun _ => none, (some 3), 2)
def qX2_lookUp : PMeth := (yX2_lookUp, cX2_lookUp, 10, (some .long), [], cdX2_lookUp, fun _ => none, (some 3), 1)
def qX2_evaluate : PMeth := (yX2_evaluate, cX2_evaluate, 5, none, [], cdX2_evaluate, fun _ => none, (some 3), 0)
def qX2_evaluateAtom : PMeth := (yX2_evaluateAtom, cX2_evaluateAtom, 5, none, [], cdX2_evaluateAtom, fun _ => none, (some 3), 1)
def qX2_evaluateCond : PMeth := (yX2_evaluateCond, cX2_evaluateCond, 3, none, [], cdX2_evaluateCond, fun _ => none, (some 3), 1)
def qX2_evaluateFunction : PMeth := (yX2_evaluateFunction, cX2_evaluateFunction, 5, none, [], cdX2_evaluateFunction, fun _ => none, (some 3), 1)
def qX2_evaluateCall : PMeth := (yX2_evaluateCall, cX2_evaluateCall, 5, none, [], cdX2_evaluateCall, fun _ => none, (some 3), 2)
def qX2_pushFrame : PMeth := (yX2_pushFrame, cX2_pushFrame, 5, none, [], cdX2_pushFrame, fun _ => none, (some 3), 2)
def qX2_popFrame : PMeth := (yX2_popFrame, cX2_popFrame, 2, none, [], cdX2_popFrame, fun _ => none, (some 3), 1)
def qX2_takeValue : PMeth := (yX2_takeValue, cX2_takeValue, 2, none, [], cdX2_takeValue, fun _ => none, (some 3), 0)
def qX2_takeChoice : PMeth := (yX2_takeChoice, cX2_takeChoice, 6, none, [], cdX2_takeChoice, fun _ => none, (some 3), 1)
def qX2_takeArgument : PMeth := (yX2_takeArgument, cX2_takeArgument, 4, none, [], cdX2_takeArgument, fun _ => none, (some 3), 1)
def qX2_takeInHand : PMeth := (yX2_takeInHand, cX2_takeInHand, 3, none, [], cdX2_takeInHand, fun _ => none, (some 3), 1)
def qX2_isBuiltIn : PMeth := (yX2_isBuiltIn, cX2_isBuiltIn, 3, (some .boolean), [], cdX2_isBuiltIn, fun _ => none, (some 3), 1)
def qX2_apply : PMeth := (yX2_apply, cX2_apply, 5, none, [], cdX2_apply, fun _ => none, (some 3), 0)
def qX2_applySymbol : PMeth := (yX2_applySymbol, cX2_applySymbol, 5, none, [], cdX2_applySymbol, fun _ => none, (some 3), 1)
def qX2_applyLambda : PMeth := (yX2_applyLambda, cX2_applyLambda, 11, none, [], cdX2_applyLambda, fun _ => none, (some 3), 1)
def qX2_lookAtVariables : PMeth := (yX2_lookAtVariables, cX2_lookAtVariables, 8, (some .int), [], cdX2_lookAtVariables, fun _ => none, (some 3), 1)
def qX2_askVariable : PMeth := (yX2_askVariable, cX2_askVariable, 3, none, [], cdX2_askVariable, fun _ => none, (some 3), 1)
def qX2_applyLabel : PMeth := (yX2_applyLabel, cX2_applyLabel, 11, none, [], cdX2_applyLabel, fun _ => none, (some 3), 1)
def qX2_applyFunarg : PMeth := (yX2_applyFunarg, cX2_applyFunarg, 7, none, [], cdX2_applyFunarg, fun _ => none, (some 3), 1)
def qX2_applyBuiltIn : PMeth := (yX2_applyBuiltIn, cX2_applyBuiltIn, 6, none, [], cdX2_applyBuiltIn, fun _ => none, (some 3), 0)
def qX2_valuesWanted : PMeth := (yX2_valuesWanted, cX2_valuesWanted, 1, (some .int), [], cdX2_valuesWanted, fun _ => none, none, 1)
def qX2_givePart : PMeth := (yX2_givePart, cX2_givePart, 4, none, [], cdX2_givePart, fun _ => none, (some 3), 2)
def qX2_giveList : PMeth := (yX2_giveList, cX2_giveList, 4, none, [], cdX2_giveList, fun _ => none, (some 3), 0)
def qX2_giveReckoned : PMeth := (yX2_giveReckoned, cX2_giveReckoned, 8, none, [], cdX2_giveReckoned, fun _ => none, (some 3), 3)
def qX3_print : PMeth := (yX3_print, cX3_print, 6, none, [], cdX3_print, fun _ => none, (some 4), 1)
def qX3_nextElement : PMeth := (yX3_nextElement, cX3_nextElement, 4, (some .long), [], cdX3_nextElement, fun _ => none, (some 4), 0)
def qX3_closeList : PMeth := (yX3_closeList, cX3_closeList, 3, none, [], cdX3_closeList, fun _ => none, (some 4), 1)
def qX3_printAtom : PMeth := (yX3_printAtom, cX3_printAtom, 5, none, [], cdX3_printAtom, fun _ => none, (some 4), 1)
def qX3_printNumber : PMeth := (yX3_printNumber, cX3_printNumber, 6, none, [], cdX3_printNumber, fun _ => none, (some 4), 1)
def qX4_fault : PMeth := (yX4_fault, cX4_fault, 1, (some .int), [], cdX4_fault, fun _ => none, (some 5), 0)
def qX4_faultPlace : PMeth := (yX4_faultPlace, cX4_faultPlace, 1, (some .int), [], cdX4_faultPlace, fun _ => none, (some 5), 0)
def qX4_begin : PMeth := (yX4_begin, cX4_begin, 2, none, [], cdX4_begin, fun _ => none, (some 5), 1)
def qX4_readName : PMeth := (yX4_readName, cX4_readName, 3, (some .int), [], cdX4_readName, fun _ => none, (some 5), 0)
def qX4_readWhole : PMeth := (yX4_readWhole, cX4_readWhole, 2, (some .long), [], cdX4_readWhole, fun _ => none, (some 5), 0)
def qX4_fail : PMeth := (yX4_fail, cX4_fail, 3, none, [], cdX4_fail, fun _ => none, (some 5), 2)
def qX4_readToken : PMeth := (yX4_readToken, cX4_readToken, 2, none, [], cdX4_readToken, fun _ => none, (some 5), 0)
def qX4_state : PMeth := (yX4_state, cX4_state, 1, (some .int), [], cdX4_state, fun _ => none, (some 5), 0)
def qX4_setState : PMeth := (yX4_setState, cX4_setState, 2, none, [], cdX4_setState, fun _ => none, (some 5), 1)
def qX4_mayBegin : PMeth := (yX4_mayBegin, cX4_mayBegin, 2, (some .boolean), [], cdX4_mayBegin, fun _ => none, (some 5), 0)
def qX4_openOne : PMeth := (yX4_openOne, cX4_openOne, 2, none, [], cdX4_openOne, fun _ => none, (some 5), 1)
def qX4_readDot : PMeth := (yX4_readDot, cX4_readDot, 1, none, [], cdX4_readDot, fun _ => none, (some 5), 0)
def qX4_closeList : PMeth := (yX4_closeList, cX4_closeList, 7, none, [], cdX4_closeList, fun _ => none, (some 5), 0)
def qX4_readAtom : PMeth := (yX4_readAtom, cX4_readAtom, 3, none, [], cdX4_readAtom, fun _ => none, (some 5), 1)
def qX4_readSymbol : PMeth := (yX4_readSymbol, cX4_readSymbol, 3, (some .int), [], cdX4_readSymbol, fun _ => none, (some 5), 0)
def qX4_readNumber : PMeth := (yX4_readNumber, cX4_readNumber, 7, (some .long), [], cdX4_readNumber, fun _ => none, (some 5), 0)
def qX4_complete : PMeth := (yX4_complete, cX4_complete, 9, none, [], cdX4_complete, fun _ => none, (some 5), 2)
def qX4_isBlank : PMeth := (yX4_isBlank, cX4_isBlank, 1, (some .boolean), [], cdX4_isBlank, fun _ => none, none, 1)
def qX4_isLetter : PMeth := (yX4_isLetter, cX4_isLetter, 1, (some .boolean), [], cdX4_isLetter, fun _ => none, none, 1)
def qX4_isDigit : PMeth := (yX4_isDigit, cX4_isDigit, 1, (some .boolean), [], cdX4_isDigit, fun _ => none, none, 1)
def qX6_size : PMeth := (yX6_size, cX6_size, 1, (some .int), [], cdX6_size, fun _ => none, (some 7), 0)
def qX6_at : PMeth := (yX6_at, cX6_at, 2, (some .long), [], cdX6_at, fun _ => none, (some 7), 1)
def qX6_put : PMeth := (yX6_put, cX6_put, 4, none, [], cdX6_put, fun _ => none, (some 7), 2)
def qX6_add : PMeth := (yX6_add, cX6_add, 3, none, [], cdX6_add, fun _ => none, (some 7), 1)
def qX6_cut : PMeth := (yX6_cut, cX6_cut, 2, none, [], cdX6_cut, fun _ => none, (some 7), 1)
def qX6_present : PMeth := (yX6_present, cX6_present, 3, (some .int), [], cdX6_present, fun _ => none, (some 7), 0)
def qX7_size : PMeth := (yX7_size, cX7_size, 1, (some .int), [], cdX7_size, fun _ => none, (some 8), 0)
def qX7_lengthOf : PMeth := (yX7_lengthOf, cX7_lengthOf, 2, (some .int), [], cdX7_lengthOf, fun _ => none, (some 8), 1)
def qX7_signOf : PMeth := (yX7_signOf, cX7_signOf, 3, (some .int), [], cdX7_signOf, fun _ => none, (some 8), 2)
def qX7_named : PMeth := (yX7_named, cX7_named, 5, (some .int), [], cdX7_named, fun _ => none, (some 8), 3)
def qX7_isNamed : PMeth := (yX7_isNamed, cX7_isNamed, 5, (some .boolean), [], cdX7_isNamed, fun _ => none, (some 8), 3)
def qX7_addSign : PMeth := (yX7_addSign, cX7_addSign, 3, none, [], cdX7_addSign, fun _ => none, (some 8), 1)
def qX8_isSymbol : PMeth := (yX8_isSymbol, cX8_isSymbol, 2, (some .boolean), [], cdX8_isSymbol, fun _ => none, none, 1)
def qX8_isNumber : PMeth := (yX8_isNumber, cX8_isNumber, 2, (some .boolean), [], cdX8_isNumber, fun _ => none, none, 1)
def qX8_isCell : PMeth := (yX8_isCell, cX8_isCell, 2, (some .boolean), [], cdX8_isCell, fun _ => none, none, 1)
def qX8_ofNumber : PMeth := (yX8_ofNumber, cX8_ofNumber, 1, (some .long), [], cdX8_ofNumber, fun _ => none, none, 1)
def qX8_ofCell : PMeth := (yX8_ofCell, cX8_ofCell, 1, (some .long), [], cdX8_ofCell, fun _ => none, none, 1)
def qX8_ofTruth : PMeth := (yX8_ofTruth, cX8_ofTruth, 1, (some .long), [], cdX8_ofTruth, fun _ => none, none, 1)
def qX8_number : PMeth := (yX8_number, cX8_number, 2, (some .int), [], cdX8_number, fun _ => none, none, 1)
def qX9_feed : PMeth := (yX9_feed, cX9_feed, 6, (some .int), [], cdX9_feed, fun _ => none, (some 9), 5)
def qX9_define : PMeth := (yX9_define, cX9_define, 5, (some .int), [], cdX9_define, fun _ => none, (some 9), 1)
def qX9_eval : PMeth := (yX9_eval, cX9_eval, 5, (some .int), [], cdX9_eval, fun _ => none, (some 9), 2)
def qX9_echo : PMeth := (yX9_echo, cX9_echo, 4, (some .int), [], cdX9_echo, fun _ => none, (some 9), 1)
def qX9_place : PMeth := (yX9_place, cX9_place, 1, (some .int), [], cdX9_place, fun _ => none, (some 9), 0)
def qX9_room : PMeth := (yX9_room, cX9_room, 3, (some .int), [], cdX9_room, fun _ => none, (some 9), 1)
def qX9_count : PMeth := (yX9_count, cX9_count, 2, (some .int), [], cdX9_count, fun _ => none, (some 9), 1)
def qX9_function : PMeth := (yX9_function, cX9_function, 4, (some .int), [], cdX9_function, fun _ => none, (some 9), 1)
def qX9_octet : PMeth := (yX9_octet, cX9_octet, 2, (some .int), [], cdX9_octet, fun _ => none, (some 9), 1)
def qX10_thrown : PMeth := (yX10_thrown, cX10_thrown, 1, (some .int), [], cdX10_thrown, fun _ => none, (some 10), 0)
def qX10_isSymbol : PMeth := (yX10_isSymbol, cX10_isSymbol, 2, (some .boolean), [], cdX10_isSymbol, fun _ => none, none, 1)
def qX10_isNumber : PMeth := (yX10_isNumber, cX10_isNumber, 2, (some .boolean), [], cdX10_isNumber, fun _ => none, none, 1)
def qX10_isCell : PMeth := (yX10_isCell, cX10_isCell, 2, (some .boolean), [], cdX10_isCell, fun _ => none, none, 1)
def qX10_symbolOf : PMeth := (yX10_symbolOf, cX10_symbolOf, 2, (some .int), [], cdX10_symbolOf, fun _ => none, none, 1)
def qX10_fails : PMeth := (yX10_fails, cX10_fails, 2, (some (.object "java/lang/IllegalStateException")), [], cdX10_fails, fun _ => none, (some 10), 1)
def qX10_visit : PMeth := (yX10_visit, cX10_visit, 3, none, [], cdX10_visit, fun _ => none, (some 10), 1)
def qX10_walks : PMeth := (yX10_walks, cX10_walks, 2, none, [], cdX10_walks, fun _ => none, (some 10), 0)
def qX10_reachFunctions : PMeth := (yX10_reachFunctions, cX10_reachFunctions, 2, none, [], cdX10_reachFunctions, fun _ => none, (some 10), 0)
def qX10_reach : PMeth := (yX10_reach, cX10_reach, 9, none, [], cdX10_reach, fun _ => none, (some 10), 3)
def qX10_cons : PMeth := (yX10_cons, cX10_cons, 8, (some .long), [], cdX10_cons, fun _ => none, (some 10), 3)
def qX10_headOf : PMeth := (yX10_headOf, cX10_headOf, 3, (some .long), [], cdX10_headOf, fun _ => none, (some 10), 1)
def qX10_tailOf : PMeth := (yX10_tailOf, cX10_tailOf, 3, (some .long), [], cdX10_tailOf, fun _ => none, (some 10), 1)
def qX10_second : PMeth := (yX10_second, cX10_second, 3, (some .long), [], cdX10_second, fun _ => none, (some 10), 1)
def qX10_third : PMeth := (yX10_third, cX10_third, 3, (some .long), [], cdX10_third, fun _ => none, (some 10), 1)
def qX10_byteAt : PMeth := (yX10_byteAt, cX10_byteAt, 2, (some .int), [], cdX10_byteAt, fun _ => none, (some 10), 1)
def qX10_failsAt : PMeth := (yX10_failsAt, cX10_failsAt, 3, (some (.object "java/lang/IllegalStateException")), [], cdX10_failsAt, fun _ => none, (some 10), 2)
def qX10_isCapital : PMeth := (yX10_isCapital, cX10_isCapital, 1, (some .boolean), [], cdX10_isCapital, fun _ => none, none, 1)
def qX10_isDigit : PMeth := (yX10_isDigit, cX10_isDigit, 1, (some .boolean), [], cdX10_isDigit, fun _ => none, none, 1)
def qX10_blanks : PMeth := (yX10_blanks, cX10_blanks, 1, none, [], cdX10_blanks, fun _ => none, (some 10), 0)
def qX10_symbol : PMeth := (yX10_symbol, cX10_symbol, 6, (some .long), [], cdX10_symbol, fun _ => none, (some 10), 0)
def qX10_number : PMeth := (yX10_number, cX10_number, 5, (some .long), [], cdX10_number, fun _ => none, (some 10), 0)
def qX10_isAtom : PMeth := (yX10_isAtom, cX10_isAtom, 2, (some .boolean), [], cdX10_isAtom, fun _ => none, (some 10), 0)
def qX10_mayBegin : PMeth := (yX10_mayBegin, cX10_mayBegin, 1, (some .boolean), [], cdX10_mayBegin, fun _ => none, (some 10), 0)
def qX10_reads : PMeth := (yX10_reads, cX10_reads, 5, (some .long), [], cdX10_reads, fun _ => none, (some 10), 0)
def qX10_quotes : PMeth := (yX10_quotes, cX10_quotes, 6, (some .long), [(0, 25, 26, 24)], cdX10_quotes, fun pc => if 0 ≤ pc ∧ pc < 25 then some (28, 4) else none, (some 10), 2)
def qX10_closes : PMeth := (yX10_closes, cX10_closes, 6, (some .long), [(83, 124, 127, 24)], cdX10_closes, fun pc => if 83 ≤ pc ∧ pc < 124 then some (129, 5) else none, (some 10), 0)
def qX10_nothing : PMeth := (yX10_nothing, cX10_nothing, 1, none, [], cdX10_nothing, fun _ => none, (some 10), 0)
def qX10_burn : PMeth := (yX10_burn, cX10_burn, 1, none, [], cdX10_burn, fun _ => none, (some 10), 0)
def qX10_pairOf : PMeth := (yX10_pairOf, cX10_pairOf, 7, (some .long), [], cdX10_pairOf, fun _ => none, (some 10), 1)
def qX10_frame : PMeth := (yX10_frame, cX10_frame, 6, none, [], cdX10_frame, fun _ => none, (some 10), 3)
def qX10_evaluates : PMeth := (yX10_evaluates, cX10_evaluates, 9, (some .int), [], cdX10_evaluates, fun _ => none, (some 10), 0)
def qX10_returns : PMeth := (yX10_returns, cX10_returns, 3, (some .int), [], cdX10_returns, fun _ => none, (some 10), 0)
def qX10_applies : PMeth := (yX10_applies, cX10_applies, 9, (some .int), [], cdX10_applies, fun _ => none, (some 10), 0)
def qX10_variable : PMeth := (yX10_variable, cX10_variable, 3, none, [], cdX10_variable, fun _ => none, (some 10), 1)
def qX10_binds : PMeth := (yX10_binds, cX10_binds, 13, (some .int), [], cdX10_binds, fun _ => none, (some 10), 0)
def qX10_gives : PMeth := (yX10_gives, cX10_gives, 3, (some .int), [], cdX10_gives, fun _ => none, (some 10), 1)
def qX10_says : PMeth := (yX10_says, cX10_says, 2, (some .int), [], cdX10_says, fun _ => none, (some 10), 1)
def qX10_built : PMeth := (yX10_built, cX10_built, 10, (some .int), [], cdX10_built, fun _ => none, (some 10), 1)
def qX10_counts : PMeth := (yX10_counts, cX10_counts, 9, (some .int), [], cdX10_counts, fun _ => none, (some 10), 3)
def qX10_puts : PMeth := (yX10_puts, cX10_puts, 2, none, [], cdX10_puts, fun _ => none, (some 10), 1)
def qX10_atom : PMeth := (yX10_atom, cX10_atom, 7, none, [], cdX10_atom, fun _ => none, (some 10), 1)
def qX10_prints : PMeth := (yX10_prints, cX10_prints, 7, none, [], cdX10_prints, fun _ => none, (some 10), 1)
def qX10_feed : PMeth := (yX10_feed, cX10_feed, 9, (some .int), [], cdX10_feed, fun _ => none, (some 10), 5)
def qX10_begins : PMeth := (yX10_begins, cX10_begins, 3, (some .boolean), [], cdX10_begins, fun _ => none, (some 10), 2)
def qX10_whole : PMeth := (yX10_whole, cX10_whole, 3, (some .long), [], cdX10_whole, fun _ => none, (some 10), 0)
def qX10_failed : PMeth := (yX10_failed, cX10_failed, 2, (some .int), [], cdX10_failed, fun _ => none, (some 10), 1)
def qX10_define : PMeth := (yX10_define, cX10_define, 8, (some .int), [(11, 117, 118, 24)], cdX10_define, fun pc => if 11 ≤ pc ∧ pc < 117 then some (119, 2) else none, (some 10), 1)
def qX10_echo : PMeth := (yX10_echo, cX10_echo, 4, (some .int), [(11, 27, 28, 24)], cdX10_echo, fun pc => if 11 ≤ pc ∧ pc < 27 then some (29, 2) else none, (some 10), 1)
def qX10_eval : PMeth := (yX10_eval, cX10_eval, 4, (some .int), [(41, 129, 130, 24)], cdX10_eval, fun pc => if 41 ≤ pc ∧ pc < 129 then some (131, 3) else none, (some 10), 2)
def qX10_place : PMeth := (yX10_place, cX10_place, 1, (some .int), [], cdX10_place, fun _ => none, (some 10), 0)
def qX10_ofFunctions : PMeth := (yX10_ofFunctions, cX10_ofFunctions, 1, (some .int), [], cdX10_ofFunctions, fun _ => none, (some 10), 0)
def qX10_room : PMeth := (yX10_room, cX10_room, 3, (some .int), [], cdX10_room, fun _ => none, (some 10), 1)
def qX10_count : PMeth := (yX10_count, cX10_count, 2, (some .int), [], cdX10_count, fun _ => none, (some 10), 1)
def qX10_function : PMeth := (yX10_function, cX10_function, 2, (some .int), [], cdX10_function, fun _ => none, (some 10), 1)
def qX10_octet : PMeth := (yX10_octet, cX10_octet, 2, (some .int), [], cdX10_octet, fun _ => none, (some 10), 1)
def MTl : List PMeth := [qX0_size, qX0_at, qX0_add, qX0_addNumber, qX0_clear, qX1_made, qX1_limit, qX1_setLimit, qX1_head, qX1_tail, qX1_make, qX1_reachedByFunctions, qX1_inUse, qX1_collect, qX1_reach, qX1_takeBack, qX2_fault, qX2_answer, qX2_fuelTaken, qX2_mostFrames, qX2_forget, qX2_run, qX2_letGo, qX2_emptyHand, qX2_fail, qX2_burn, qX2_give, qX2_evaluateNext, qX2_askHead, qX2_askTail, qX2_askSecond, qX2_askThird, qX2_cons, qX2_lookUp, qX2_evaluate, qX2_evaluateAtom, qX2_evaluateCond, qX2_evaluateFunction, qX2_evaluateCall, qX2_pushFrame, qX2_popFrame, qX2_takeValue, qX2_takeChoice, qX2_takeArgument, qX2_takeInHand, qX2_isBuiltIn, qX2_apply, qX2_applySymbol, qX2_applyLambda, qX2_lookAtVariables, qX2_askVariable, qX2_applyLabel, qX2_applyFunarg, qX2_applyBuiltIn, qX2_valuesWanted, qX2_givePart, qX2_giveList, qX2_giveReckoned, qX3_print, qX3_nextElement, qX3_closeList, qX3_printAtom, qX3_printNumber, qX4_fault, qX4_faultPlace, qX4_begin, qX4_readName, qX4_readWhole, qX4_fail, qX4_readToken, qX4_state, qX4_setState, qX4_mayBegin, qX4_openOne, qX4_readDot, qX4_closeList, qX4_readAtom, qX4_readSymbol, qX4_readNumber, qX4_complete, qX4_isBlank, qX4_isLetter, qX4_isDigit, qX6_size, qX6_at, qX6_put, qX6_add, qX6_cut, qX6_present, qX7_size, qX7_lengthOf, qX7_signOf, qX7_named, qX7_isNamed, qX7_addSign, qX8_isSymbol, qX8_isNumber, qX8_isCell, qX8_ofNumber, qX8_ofCell, qX8_ofTruth, qX8_number, qX9_feed, qX9_define, qX9_eval, qX9_echo, qX9_place, qX9_room, qX9_count, qX9_function, qX9_octet, qX10_thrown, qX10_isSymbol, qX10_isNumber, qX10_isCell, qX10_symbolOf, qX10_fails, qX10_visit, qX10_walks, qX10_reachFunctions, qX10_reach, qX10_cons, qX10_headOf, qX10_tailOf, qX10_second, qX10_third, qX10_byteAt, qX10_failsAt, qX10_isCapital, qX10_isDigit, qX10_blanks, qX10_symbol, qX10_number, qX10_isAtom, qX10_mayBegin, qX10_reads, qX10_quotes, qX10_closes, qX10_nothing, qX10_burn, qX10_pairOf, qX10_frame, qX10_evaluates, qX10_returns, qX10_applies, qX10_variable, qX10_binds, qX10_gives, qX10_says, qX10_built, qX10_counts, qX10_puts, qX10_atom, qX10_prints, qX10_feed, qX10_begins, qX10_whole, qX10_failed, qX10_define, qX10_echo, qX10_eval, qX10_place, qX10_ofFunctions, qX10_room, qX10_count, qX10_function, qX10_octet]
def MT (k : Nat) : Option PMeth := MTl[k]?
abbrev cls : List vw_C := [(RJxb5711, TJxb5711, 0), (RX0, TX0, 2), (RX1, TX1, 10), (RX2, TX2, 13), (RX3, TX3, 4), (RX4, TX4, 13), (RX5, TX5, 7), (RX6, TX6, 2), (RX7, TX7, 3), (RX9, TX9, 8), (RX10, TX10, 48)]
theorem kw_p (ws : List Cond) (ps : List Nat) (h : ps.filterMap (fun i => lw_tbl[i]?) = ws) (hg : ws.all goodWord = true) : ∀ w ∈ ws, w ∈ TS := by
  intro w hw
  have h1 := List.all_eq_true.mp hg w hw
  rw [← h] at hw
  obtain ⟨i, -, hi⟩ := List.mem_filterMap.mp hw
  exact mT i hi h1
set_option maxRecDepth 20000 in
theorem kdX0 : p_kind cls TS 1 RX0 TX0 2 tyX0 := ⟨rfl, kw_p _ [195, 197] (by decide +kernel) (by decide +kernel), tyX0_ok, nmX0⟩
set_option maxRecDepth 20000 in
theorem kdX1 : p_kind cls TS 2 RX1 TX1 10 tyX1 := ⟨rfl, kw_p _ [293, 295, 297, 299, 301, 303, 305, 307, 309, 311] (by decide +kernel) (by decide +kernel), tyX1_ok, nmX1⟩
set_option maxRecDepth 20000 in
theorem kdX2 : p_kind cls TS 3 RX2 TX2 13 tyX2 := ⟨rfl, kw_p _ [382, 384, 386, 388, 390, 392, 394, 396, 398, 400, 402, 404, 406] (by decide +kernel) (by decide +kernel), tyX2_ok, nmX2⟩
set_option maxRecDepth 20000 in
theorem kdX3 : p_kind cls TS 4 RX3 TX3 4 tyX3 := ⟨rfl, kw_p _ [421, 423, 425, 427] (by decide +kernel) (by decide +kernel), tyX3_ok, nmX3⟩
set_option maxRecDepth 20000 in
theorem kdX4 : p_kind cls TS 5 RX4 TX4 13 tyX4 := ⟨rfl, kw_p _ [334, 336, 338, 340, 342, 344, 346, 348, 350, 352, 354, 356, 358] (by decide +kernel) (by decide +kernel), tyX4_ok, nmX4⟩
set_option maxRecDepth 20000 in
theorem kdX5 : p_kind cls TS 6 RX5 TX5 7 tyX5 := ⟨rfl, kw_p _ [172, 174, 176, 178, 180, 182, 184] (by decide +kernel) (by decide +kernel), tyX5_ok, nmX5⟩
set_option maxRecDepth 20000 in
theorem kdX6 : p_kind cls TS 7 RX6 TX6 2 tyX6 := ⟨rfl, kw_p _ [142, 144] (by decide +kernel) (by decide +kernel), tyX6_ok, nmX6⟩
set_option maxRecDepth 20000 in
theorem kdX7 : p_kind cls TS 8 RX7 TX7 3 tyX7 := ⟨rfl, kw_p _ [263, 265, 267] (by decide +kernel) (by decide +kernel), tyX7_ok, nmX7⟩
set_option maxRecDepth 20000 in
theorem kdX9 : p_kind cls TS 9 RX9 TX9 8 tyX9 := ⟨rfl, kw_p _ [438, 440, 442, 444, 446, 448, 450, 452] (by decide +kernel) (by decide +kernel), tyX9_ok, nmX9⟩
set_option maxRecDepth 20000 in
theorem kdX10 : p_kind cls TS 10 RX10 TX10 48 tyX10 := ⟨rfl, kw_p _ [1095, 1097, 1099, 1101, 1103, 1105, 1107, 1109, 1111, 1113, 1115, 1117, 1119, 1121, 1123, 1125, 1127, 1129, 1131, 1133, 1135, 1137, 1139, 1141, 1143, 1145, 1147, 1149, 1151, 1153, 1155, 1157, 1159, 1161, 1163, 1165, 1167, 1169, 1171, 1173, 1175, 1177, 1179, 1181, 1183, 1185, 1187, 1189] (by decide +kernel) (by decide +kernel), tyX10_ok, nmX10⟩
set_option maxRecDepth 20000 in
theorem caX0_size : p_cal cls TS MT false 0 1 yX0_size := ⟨qX0_size, rfl, rfl, (mT 102 rfl rfl), (mT 462 rfl rfl), ⟨by decide +kernel, by decide +kernel⟩, by decide +kernel, ⟨rfl, mT 460 rfl rfl, mT 461 rfl rfl, 1, TX0, 2, rfl, rfl⟩⟩
set_option maxRecDepth 20000 in
theorem caX0_at : p_cal cls TS MT false 1 2 yX0_at := ⟨qX0_at, rfl, rfl, (mT 102 rfl rfl), (mT 619 rfl rfl), ⟨by decide +kernel, by decide +kernel⟩, by decide +kernel, ⟨rfl, mT 617 rfl rfl, mT 618 rfl rfl, 1, TX0, 2, rfl, rfl⟩⟩
set_option maxRecDepth 20000 in
theorem caX0_add : p_cal cls TS MT false 2 2 yX0_add := ⟨qX0_add, rfl, rfl, (mT 102 rfl rfl), (mT 470 rfl rfl), ⟨by decide +kernel, by decide +kernel⟩, by decide +kernel, ⟨rfl, mT 468 rfl rfl, mT 469 rfl rfl, 1, TX0, 2, rfl, rfl⟩⟩
set_option maxRecDepth 20000 in
theorem caX0_addNumber : p_cal cls TS MT false 3 2 yX0_addNumber := ⟨qX0_addNumber, rfl, rfl, (mT 102 rfl rfl), (mT 466 rfl rfl), ⟨by decide +kernel, by decide +kernel⟩, by decide +kernel, ⟨rfl, mT 464 rfl rfl, mT 465 rfl rfl, 1, TX0, 2, rfl, rfl⟩⟩
set_option maxRecDepth 20000 in
theorem caX0_clear : p_cal cls TS MT false 4 1 yX0_clear := ⟨qX0_clear, rfl, rfl, (mT 102 rfl rfl), (mT 547 rfl rfl), ⟨by decide +kernel, by decide +kernel⟩, by decide +kernel, ⟨rfl, mT 545 rfl rfl, mT 546 rfl rfl, 1, TX0, 2, rfl, rfl⟩⟩
set_option maxRecDepth 20000 in
theorem caX1_made : p_cal cls TS MT false 5 1 yX1_made := ⟨qX1_made, rfl, rfl, (mT 108 rfl rfl), (mT 525 rfl rfl), ⟨by decide +kernel, by decide +kernel⟩, by decide +kernel, ⟨rfl, mT 523 rfl rfl, mT 524 rfl rfl, 2, TX1, 10, rfl, rfl⟩⟩
set_option maxRecDepth 20000 in
theorem caX1_limit : p_cal cls TS MT false 6 1 yX1_limit := ⟨qX1_limit, rfl, rfl, (mT 108 rfl rfl), (mT 529 rfl rfl), ⟨by decide +kernel, by decide +kernel⟩, by decide +kernel, ⟨rfl, mT 527 rfl rfl, mT 528 rfl rfl, 2, TX1, 10, rfl, rfl⟩⟩
set_option maxRecDepth 20000 in
theorem caX1_setLimit : p_cal cls TS MT false 7 2 yX1_setLimit := ⟨qX1_setLimit, rfl, rfl, (mT 108 rfl rfl), (mT 1012 rfl rfl), ⟨by decide +kernel, by decide +kernel⟩, by decide +kernel, ⟨rfl, mT 1010 rfl rfl, mT 1011 rfl rfl, 2, TX1, 10, rfl, rfl⟩⟩
set_option maxRecDepth 20000 in
theorem caX1_head : p_cal cls TS MT false 8 2 yX1_head := ⟨qX1_head, rfl, rfl, (mT 108 rfl rfl), (mT 568 rfl rfl), ⟨by decide +kernel, by decide +kernel⟩, by decide +kernel, ⟨rfl, mT 566 rfl rfl, mT 567 rfl rfl, 2, TX1, 10, rfl, rfl⟩⟩
set_option maxRecDepth 20000 in
theorem caX1_tail : p_cal cls TS MT false 9 2 yX1_tail := ⟨qX1_tail, rfl, rfl, (mT 108 rfl rfl), (mT 562 rfl rfl), ⟨by decide +kernel, by decide +kernel⟩, by decide +kernel, ⟨rfl, mT 560 rfl rfl, mT 561 rfl rfl, 2, TX1, 10, rfl, rfl⟩⟩
set_option maxRecDepth 20000 in
theorem caX1_make : p_cal cls TS MT false 10 3 yX1_make := ⟨qX1_make, rfl, rfl, (mT 108 rfl rfl), (mT 756 rfl rfl), ⟨by decide +kernel, by decide +kernel⟩, by decide +kernel, ⟨rfl, mT 754 rfl rfl, mT 755 rfl rfl, 2, TX1, 10, rfl, rfl⟩⟩
set_option maxRecDepth 20000 in
theorem caX1_reachedByFunctions : p_cal cls TS MT false 11 1 yX1_reachedByFunctions := ⟨qX1_reachedByFunctions, rfl, rfl, (mT 108 rfl rfl), (mT 490 rfl rfl), ⟨by decide +kernel, by decide +kernel⟩, by decide +kernel, ⟨rfl, mT 488 rfl rfl, mT 489 rfl rfl, 2, TX1, 10, rfl, rfl⟩⟩
set_option maxRecDepth 20000 in
theorem caX1_inUse : p_cal cls TS MT false 12 1 yX1_inUse := ⟨qX1_inUse, rfl, rfl, (mT 108 rfl rfl), (mT 513 rfl rfl), ⟨by decide +kernel, by decide +kernel⟩, by decide +kernel, ⟨rfl, mT 512 rfl rfl, mT 4 rfl rfl, 2, TX1, 10, rfl, rfl⟩⟩
set_option maxRecDepth 20000 in
theorem caX1_collect : p_cal cls TS MT false 13 3 yX1_collect := ⟨qX1_collect, rfl, rfl, (mT 108 rfl rfl), (mT 494 rfl rfl), ⟨by decide +kernel, by decide +kernel⟩, by decide +kernel, ⟨rfl, mT 493 rfl rfl, mT 2 rfl rfl, 2, TX1, 10, rfl, rfl⟩⟩
set_option maxRecDepth 20000 in
theorem caX1_reach : p_cal cls TS MT false 14 2 yX1_reach := ⟨qX1_reach, rfl, rfl, (mT 108 rfl rfl), (mT 498 rfl rfl), ⟨by decide +kernel, by decide +kernel⟩, by decide +kernel, ⟨rfl, mT 497 rfl rfl, mT 3 rfl rfl, 2, TX1, 10, rfl, rfl⟩⟩
set_option maxRecDepth 20000 in
theorem caX1_takeBack : p_cal cls TS MT false 15 1 yX1_takeBack := ⟨qX1_takeBack, rfl, rfl, (mT 108 rfl rfl), (mT 282 rfl rfl), ⟨by decide +kernel, by decide +kernel⟩, by decide +kernel, ⟨rfl, mT 281 rfl rfl, mT 1 rfl rfl, 2, TX1, 10, rfl, rfl⟩⟩
set_option maxRecDepth 20000 in
theorem caX2_fault : p_cal cls TS MT false 16 1 yX2_fault := ⟨qX2_fault, rfl, rfl, (mT 110 rfl rfl), (mT 990 rfl rfl), ⟨by decide +kernel, by decide +kernel⟩, by decide +kernel, ⟨rfl, mT 988 rfl rfl, mT 989 rfl rfl, 3, TX2, 13, rfl, rfl⟩⟩
set_option maxRecDepth 20000 in
theorem caX2_answer : p_cal cls TS MT false 17 1 yX2_answer := ⟨qX2_answer, rfl, rfl, (mT 110 rfl rfl), (mT 994 rfl rfl), ⟨by decide +kernel, by decide +kernel⟩, by decide +kernel, ⟨rfl, mT 992 rfl rfl, mT 993 rfl rfl, 3, TX2, 13, rfl, rfl⟩⟩
set_option maxRecDepth 20000 in
theorem caX2_fuelTaken : p_cal cls TS MT false 18 1 yX2_fuelTaken := ⟨qX2_fuelTaken, rfl, rfl, (mT 110 rfl rfl), (mT 517 rfl rfl), ⟨by decide +kernel, by decide +kernel⟩, by decide +kernel, ⟨rfl, mT 515 rfl rfl, mT 516 rfl rfl, 3, TX2, 13, rfl, rfl⟩⟩
set_option maxRecDepth 20000 in
theorem caX2_mostFrames : p_cal cls TS MT false 19 1 yX2_mostFrames := ⟨qX2_mostFrames, rfl, rfl, (mT 110 rfl rfl), (mT 521 rfl rfl), ⟨by decide +kernel, by decide +kernel⟩, by decide +kernel, ⟨rfl, mT 519 rfl rfl, mT 520 rfl rfl, 3, TX2, 13, rfl, rfl⟩⟩
set_option maxRecDepth 20000 in
theorem caX2_forget : p_cal cls TS MT false 20 1 yX2_forget := ⟨qX2_forget, rfl, rfl, (mT 110 rfl rfl), (mT 808 rfl rfl), ⟨by decide +kernel, by decide +kernel⟩, by decide +kernel, ⟨rfl, mT 806 rfl rfl, mT 807 rfl rfl, 3, TX2, 13, rfl, rfl⟩⟩
set_option maxRecDepth 20000 in
theorem caX2_run : p_cal cls TS MT false 21 3 yX2_run := ⟨qX2_run, rfl, rfl, (mT 110 rfl rfl), (mT 812 rfl rfl), ⟨by decide +kernel, by decide +kernel⟩, by decide +kernel, ⟨rfl, mT 810 rfl rfl, mT 811 rfl rfl, 3, TX2, 13, rfl, rfl⟩⟩
set_option maxRecDepth 20000 in
theorem caX2_letGo : p_cal cls TS MT false 22 1 yX2_letGo := ⟨qX2_letGo, rfl, rfl, (mT 110 rfl rfl), (mT 986 rfl rfl), ⟨by decide +kernel, by decide +kernel⟩, by decide +kernel, ⟨rfl, mT 985 rfl rfl, mT 57 rfl rfl, 3, TX2, 13, rfl, rfl⟩⟩
set_option maxRecDepth 20000 in
theorem caX2_emptyHand : p_cal cls TS MT false 23 1 yX2_emptyHand := ⟨qX2_emptyHand, rfl, rfl, (mT 110 rfl rfl), (mT 841 rfl rfl), ⟨by decide +kernel, by decide +kernel⟩, by decide +kernel, ⟨rfl, mT 840 rfl rfl, mT 28 rfl rfl, 3, TX2, 13, rfl, rfl⟩⟩
set_option maxRecDepth 20000 in
theorem caX2_fail : p_cal cls TS MT false 24 2 yX2_fail := ⟨qX2_fail, rfl, rfl, (mT 110 rfl rfl), (mT 820 rfl rfl), ⟨by decide +kernel, by decide +kernel⟩, by decide +kernel, ⟨rfl, mT 819 rfl rfl, mT 24 rfl rfl, 3, TX2, 13, rfl, rfl⟩⟩
set_option maxRecDepth 20000 in
theorem caX2_burn : p_cal cls TS MT false 25 1 yX2_burn := ⟨qX2_burn, rfl, rfl, (mT 110 rfl rfl), (mT 816 rfl rfl), ⟨by decide +kernel, by decide +kernel⟩, by decide +kernel, ⟨rfl, mT 815 rfl rfl, mT 23 rfl rfl, 3, TX2, 13, rfl, rfl⟩⟩
set_option maxRecDepth 20000 in
theorem caX2_give : p_cal cls TS MT false 26 2 yX2_give := ⟨qX2_give, rfl, rfl, (mT 110 rfl rfl), (mT 837 rfl rfl), ⟨by decide +kernel, by decide +kernel⟩, by decide +kernel, ⟨rfl, mT 836 rfl rfl, mT 27 rfl rfl, 3, TX2, 13, rfl, rfl⟩⟩
set_option maxRecDepth 20000 in
theorem caX2_evaluateNext : p_cal cls TS MT false 27 2 yX2_evaluateNext := ⟨qX2_evaluateNext, rfl, rfl, (mT 110 rfl rfl), (mT 880 rfl rfl), ⟨by decide +kernel, by decide +kernel⟩, by decide +kernel, ⟨rfl, mT 879 rfl rfl, mT 35 rfl rfl, 3, TX2, 13, rfl, rfl⟩⟩
set_option maxRecDepth 20000 in
theorem caX2_askHead : p_cal cls TS MT false 28 2 yX2_askHead := ⟨qX2_askHead, rfl, rfl, (mT 110 rfl rfl), (mT 851 rfl rfl), ⟨by decide +kernel, by decide +kernel⟩, by decide +kernel, ⟨rfl, mT 850 rfl rfl, mT 30 rfl rfl, 3, TX2, 13, rfl, rfl⟩⟩
set_option maxRecDepth 20000 in
theorem caX2_askTail : p_cal cls TS MT false 29 2 yX2_askTail := ⟨qX2_askTail, rfl, rfl, (mT 110 rfl rfl), (mT 862 rfl rfl), ⟨by decide +kernel, by decide +kernel⟩, by decide +kernel, ⟨rfl, mT 861 rfl rfl, mT 32 rfl rfl, 3, TX2, 13, rfl, rfl⟩⟩
set_option maxRecDepth 20000 in
theorem caX2_askSecond : p_cal cls TS MT false 30 2 yX2_askSecond := ⟨qX2_askSecond, rfl, rfl, (mT 110 rfl rfl), (mT 858 rfl rfl), ⟨by decide +kernel, by decide +kernel⟩, by decide +kernel, ⟨rfl, mT 857 rfl rfl, mT 31 rfl rfl, 3, TX2, 13, rfl, rfl⟩⟩
set_option maxRecDepth 20000 in
theorem caX2_askThird : p_cal cls TS MT false 31 2 yX2_askThird := ⟨qX2_askThird, rfl, rfl, (mT 110 rfl rfl), (mT 973 rfl rfl), ⟨by decide +kernel, by decide +kernel⟩, by decide +kernel, ⟨rfl, mT 972 rfl rfl, mT 54 rfl rfl, 3, TX2, 13, rfl, rfl⟩⟩
set_option maxRecDepth 20000 in
theorem caX2_cons : p_cal cls TS MT false 32 3 yX2_cons := ⟨qX2_cons, rfl, rfl, (mT 110 rfl rfl), (mT 889 rfl rfl), ⟨by decide +kernel, by decide +kernel⟩, by decide +kernel, ⟨rfl, mT 888 rfl rfl, mT 37 rfl rfl, 3, TX2, 13, rfl, rfl⟩⟩
set_option maxRecDepth 20000 in
theorem caX2_lookUp : p_cal cls TS MT false 33 2 yX2_lookUp := ⟨qX2_lookUp, rfl, rfl, (mT 110 rfl rfl), (mT 846 rfl rfl), ⟨by decide +kernel, by decide +kernel⟩, by decide +kernel, ⟨rfl, mT 845 rfl rfl, mT 29 rfl rfl, 3, TX2, 13, rfl, rfl⟩⟩
set_option maxRecDepth 20000 in
theorem caX2_evaluate : p_cal cls TS MT false 34 1 yX2_evaluate := ⟨qX2_evaluate, rfl, rfl, (mT 110 rfl rfl), (mT 824 rfl rfl), ⟨by decide +kernel, by decide +kernel⟩, by decide +kernel, ⟨rfl, mT 823 rfl rfl, mT 25 rfl rfl, 3, TX2, 13, rfl, rfl⟩⟩
set_option maxRecDepth 20000 in
theorem caX2_evaluateAtom : p_cal cls TS MT false 35 2 yX2_evaluateAtom := ⟨qX2_evaluateAtom, rfl, rfl, (mT 110 rfl rfl), (mT 829 rfl rfl), ⟨by decide +kernel, by decide +kernel⟩, by decide +kernel, ⟨rfl, mT 828 rfl rfl, mT 26 rfl rfl, 3, TX2, 13, rfl, rfl⟩⟩
set_option maxRecDepth 20000 in
theorem caX2_evaluateCond : p_cal cls TS MT false 36 2 yX2_evaluateCond := ⟨qX2_evaluateCond, rfl, rfl, (mT 110 rfl rfl), (mT 867 rfl rfl), ⟨by decide +kernel, by decide +kernel⟩, by decide +kernel, ⟨rfl, mT 866 rfl rfl, mT 33 rfl rfl, 3, TX2, 13, rfl, rfl⟩⟩
set_option maxRecDepth 20000 in
theorem caX2_evaluateFunction : p_cal cls TS MT false 37 2 yX2_evaluateFunction := ⟨qX2_evaluateFunction, rfl, rfl, (mT 110 rfl rfl), (mT 885 rfl rfl), ⟨by decide +kernel, by decide +kernel⟩, by decide +kernel, ⟨rfl, mT 884 rfl rfl, mT 36 rfl rfl, 3, TX2, 13, rfl, rfl⟩⟩
set_option maxRecDepth 20000 in
theorem caX2_evaluateCall : p_cal cls TS MT false 38 3 yX2_evaluateCall := ⟨qX2_evaluateCall, rfl, rfl, (mT 110 rfl rfl), (mT 895 rfl rfl), ⟨by decide +kernel, by decide +kernel⟩, by decide +kernel, ⟨rfl, mT 894 rfl rfl, mT 38 rfl rfl, 3, TX2, 13, rfl, rfl⟩⟩
set_option maxRecDepth 20000 in
theorem caX2_pushFrame : p_cal cls TS MT false 39 3 yX2_pushFrame := ⟨qX2_pushFrame, rfl, rfl, (mT 110 rfl rfl), (mT 871 rfl rfl), ⟨by decide +kernel, by decide +kernel⟩, by decide +kernel, ⟨rfl, mT 870 rfl rfl, mT 34 rfl rfl, 3, TX2, 13, rfl, rfl⟩⟩
set_option maxRecDepth 20000 in
theorem caX2_popFrame : p_cal cls TS MT false 40 2 yX2_popFrame := ⟨qX2_popFrame, rfl, rfl, (mT 110 rfl rfl), (mT 908 rfl rfl), ⟨by decide +kernel, by decide +kernel⟩, by decide +kernel, ⟨rfl, mT 907 rfl rfl, mT 41 rfl rfl, 3, TX2, 13, rfl, rfl⟩⟩
set_option maxRecDepth 20000 in
theorem caX2_takeValue : p_cal cls TS MT false 41 1 yX2_takeValue := ⟨qX2_takeValue, rfl, rfl, (mT 110 rfl rfl), (mT 899 rfl rfl), ⟨by decide +kernel, by decide +kernel⟩, by decide +kernel, ⟨rfl, mT 898 rfl rfl, mT 39 rfl rfl, 3, TX2, 13, rfl, rfl⟩⟩
set_option maxRecDepth 20000 in
theorem caX2_takeChoice : p_cal cls TS MT false 42 2 yX2_takeChoice := ⟨qX2_takeChoice, rfl, rfl, (mT 110 rfl rfl), (mT 904 rfl rfl), ⟨by decide +kernel, by decide +kernel⟩, by decide +kernel, ⟨rfl, mT 903 rfl rfl, mT 40 rfl rfl, 3, TX2, 13, rfl, rfl⟩⟩
set_option maxRecDepth 20000 in
theorem caX2_takeArgument : p_cal cls TS MT false 43 2 yX2_takeArgument := ⟨qX2_takeArgument, rfl, rfl, (mT 110 rfl rfl), (mT 913 rfl rfl), ⟨by decide +kernel, by decide +kernel⟩, by decide +kernel, ⟨rfl, mT 912 rfl rfl, mT 42 rfl rfl, 3, TX2, 13, rfl, rfl⟩⟩
set_option maxRecDepth 20000 in
theorem caX2_takeInHand : p_cal cls TS MT false 44 2 yX2_takeInHand := ⟨qX2_takeInHand, rfl, rfl, (mT 110 rfl rfl), (mT 917 rfl rfl), ⟨by decide +kernel, by decide +kernel⟩, by decide +kernel, ⟨rfl, mT 916 rfl rfl, mT 43 rfl rfl, 3, TX2, 13, rfl, rfl⟩⟩
set_option maxRecDepth 20000 in
theorem caX2_isBuiltIn : p_cal cls TS MT false 45 2 yX2_isBuiltIn := ⟨qX2_isBuiltIn, rfl, rfl, (mT 110 rfl rfl), (mT 921 rfl rfl), ⟨by decide +kernel, by decide +kernel⟩, by decide +kernel, ⟨rfl, mT 920 rfl rfl, mT 44 rfl rfl, 3, TX2, 13, rfl, rfl⟩⟩
set_option maxRecDepth 20000 in
theorem caX2_apply : p_cal cls TS MT false 46 1 yX2_apply := ⟨qX2_apply, rfl, rfl, (mT 110 rfl rfl), (mT 952 rfl rfl), ⟨by decide +kernel, by decide +kernel⟩, by decide +kernel, ⟨rfl, mT 951 rfl rfl, mT 49 rfl rfl, 3, TX2, 13, rfl, rfl⟩⟩
set_option maxRecDepth 20000 in
theorem caX2_applySymbol : p_cal cls TS MT false 47 2 yX2_applySymbol := ⟨qX2_applySymbol, rfl, rfl, (mT 110 rfl rfl), (mT 956 rfl rfl), ⟨by decide +kernel, by decide +kernel⟩, by decide +kernel, ⟨rfl, mT 955 rfl rfl, mT 50 rfl rfl, 3, TX2, 13, rfl, rfl⟩⟩
set_option maxRecDepth 20000 in
theorem caX2_applyLambda : p_cal cls TS MT false 48 2 yX2_applyLambda := ⟨qX2_applyLambda, rfl, rfl, (mT 110 rfl rfl), (mT 961 rfl rfl), ⟨by decide +kernel, by decide +kernel⟩, by decide +kernel, ⟨rfl, mT 960 rfl rfl, mT 51 rfl rfl, 3, TX2, 13, rfl, rfl⟩⟩
set_option maxRecDepth 20000 in
theorem caX2_lookAtVariables : p_cal cls TS MT false 49 2 yX2_lookAtVariables := ⟨qX2_lookAtVariables, rfl, rfl, (mT 110 rfl rfl), (mT 965 rfl rfl), ⟨by decide +kernel, by decide +kernel⟩, by decide +kernel, ⟨rfl, mT 964 rfl rfl, mT 52 rfl rfl, 3, TX2, 13, rfl, rfl⟩⟩
set_option maxRecDepth 20000 in
theorem caX2_askVariable : p_cal cls TS MT false 50 2 yX2_askVariable := ⟨qX2_askVariable, rfl, rfl, (mT 110 rfl rfl), (mT 969 rfl rfl), ⟨by decide +kernel, by decide +kernel⟩, by decide +kernel, ⟨rfl, mT 968 rfl rfl, mT 53 rfl rfl, 3, TX2, 13, rfl, rfl⟩⟩
set_option maxRecDepth 20000 in
theorem caX2_applyLabel : p_cal cls TS MT false 51 2 yX2_applyLabel := ⟨qX2_applyLabel, rfl, rfl, (mT 110 rfl rfl), (mT 978 rfl rfl), ⟨by decide +kernel, by decide +kernel⟩, by decide +kernel, ⟨rfl, mT 977 rfl rfl, mT 55 rfl rfl, 3, TX2, 13, rfl, rfl⟩⟩
set_option maxRecDepth 20000 in
theorem caX2_applyFunarg : p_cal cls TS MT false 52 2 yX2_applyFunarg := ⟨qX2_applyFunarg, rfl, rfl, (mT 110 rfl rfl), (mT 982 rfl rfl), ⟨by decide +kernel, by decide +kernel⟩, by decide +kernel, ⟨rfl, mT 981 rfl rfl, mT 56 rfl rfl, 3, TX2, 13, rfl, rfl⟩⟩
set_option maxRecDepth 20000 in
theorem caX2_applyBuiltIn : p_cal cls TS MT false 53 1 yX2_applyBuiltIn := ⟨qX2_applyBuiltIn, rfl, rfl, (mT 110 rfl rfl), (mT 927 rfl rfl), ⟨by decide +kernel, by decide +kernel⟩, by decide +kernel, ⟨rfl, mT 926 rfl rfl, mT 45 rfl rfl, 3, TX2, 13, rfl, rfl⟩⟩
set_option maxRecDepth 20000 in
theorem caX2_valuesWanted : p_cal cls TS MT true 54 1 yX2_valuesWanted := ⟨qX2_valuesWanted, rfl, rfl, (mT 110 rfl rfl), (mT 930 rfl rfl), ⟨by decide +kernel, by decide +kernel⟩, by decide +kernel, ⟨rfl, rfl, mT 929 rfl rfl⟩⟩
set_option maxRecDepth 20000 in
theorem caX2_givePart : p_cal cls TS MT false 55 3 yX2_givePart := ⟨qX2_givePart, rfl, rfl, (mT 110 rfl rfl), (mT 934 rfl rfl), ⟨by decide +kernel, by decide +kernel⟩, by decide +kernel, ⟨rfl, mT 933 rfl rfl, mT 46 rfl rfl, 3, TX2, 13, rfl, rfl⟩⟩
set_option maxRecDepth 20000 in
theorem caX2_giveList : p_cal cls TS MT false 56 1 yX2_giveList := ⟨qX2_giveList, rfl, rfl, (mT 110 rfl rfl), (mT 941 rfl rfl), ⟨by decide +kernel, by decide +kernel⟩, by decide +kernel, ⟨rfl, mT 940 rfl rfl, mT 47 rfl rfl, 3, TX2, 13, rfl, rfl⟩⟩
set_option maxRecDepth 20000 in
theorem caX2_giveReckoned : p_cal cls TS MT false 57 4 yX2_giveReckoned := ⟨qX2_giveReckoned, rfl, rfl, (mT 110 rfl rfl), (mT 946 rfl rfl), ⟨by decide +kernel, by decide +kernel⟩, by decide +kernel, ⟨rfl, mT 945 rfl rfl, mT 48 rfl rfl, 3, TX2, 13, rfl, rfl⟩⟩
set_option maxRecDepth 20000 in
theorem caX3_print : p_cal cls TS MT false 58 2 yX3_print := ⟨qX3_print, rfl, rfl, (mT 111 rfl rfl), (mT 543 rfl rfl), ⟨by decide +kernel, by decide +kernel⟩, by decide +kernel, ⟨rfl, mT 541 rfl rfl, mT 542 rfl rfl, 4, TX3, 4, rfl, rfl⟩⟩
set_option maxRecDepth 20000 in
theorem caX3_nextElement : p_cal cls TS MT false 59 1 yX3_nextElement := ⟨qX3_nextElement, rfl, rfl, (mT 111 rfl rfl), (mT 601 rfl rfl), ⟨by decide +kernel, by decide +kernel⟩, by decide +kernel, ⟨rfl, mT 600 rfl rfl, mT 7 rfl rfl, 4, TX3, 4, rfl, rfl⟩⟩
set_option maxRecDepth 20000 in
theorem caX3_closeList : p_cal cls TS MT false 60 2 yX3_closeList := ⟨qX3_closeList, rfl, rfl, (mT 111 rfl rfl), (mT 611 rfl rfl), ⟨by decide +kernel, by decide +kernel⟩, by decide +kernel, ⟨rfl, mT 610 rfl rfl, mT 8 rfl rfl, 4, TX3, 4, rfl, rfl⟩⟩
set_option maxRecDepth 20000 in
theorem caX3_printAtom : p_cal cls TS MT false 61 2 yX3_printAtom := ⟨qX3_printAtom, rfl, rfl, (mT 111 rfl rfl), (mT 572 rfl rfl), ⟨by decide +kernel, by decide +kernel⟩, by decide +kernel, ⟨rfl, mT 571 rfl rfl, mT 5 rfl rfl, 4, TX3, 4, rfl, rfl⟩⟩
set_option maxRecDepth 20000 in
theorem caX3_printNumber : p_cal cls TS MT false 62 2 yX3_printNumber := ⟨qX3_printNumber, rfl, rfl, (mT 111 rfl rfl), (mT 583 rfl rfl), ⟨by decide +kernel, by decide +kernel⟩, by decide +kernel, ⟨rfl, mT 582 rfl rfl, mT 6 rfl rfl, 4, TX3, 4, rfl, rfl⟩⟩
set_option maxRecDepth 20000 in
theorem caX4_fault : p_cal cls TS MT false 63 1 yX4_fault := ⟨qX4_fault, rfl, rfl, (mT 109 rfl rfl), (mT 796 rfl rfl), ⟨by decide +kernel, by decide +kernel⟩, by decide +kernel, ⟨rfl, mT 794 rfl rfl, mT 795 rfl rfl, 5, TX4, 13, rfl, rfl⟩⟩
set_option maxRecDepth 20000 in
theorem caX4_faultPlace : p_cal cls TS MT false 64 1 yX4_faultPlace := ⟨qX4_faultPlace, rfl, rfl, (mT 109 rfl rfl), (mT 478 rfl rfl), ⟨by decide +kernel, by decide +kernel⟩, by decide +kernel, ⟨rfl, mT 476 rfl rfl, mT 477 rfl rfl, 5, TX4, 13, rfl, rfl⟩⟩
set_option maxRecDepth 20000 in
theorem caX4_begin : p_cal cls TS MT false 65 2 yX4_begin := ⟨qX4_begin, rfl, rfl, (mT 109 rfl rfl), (mT 694 rfl rfl), ⟨by decide +kernel, by decide +kernel⟩, by decide +kernel, ⟨rfl, mT 692 rfl rfl, mT 693 rfl rfl, 5, TX4, 13, rfl, rfl⟩⟩
set_option maxRecDepth 20000 in
theorem caX4_readName : p_cal cls TS MT false 66 1 yX4_readName := ⟨qX4_readName, rfl, rfl, (mT 109 rfl rfl), (mT 698 rfl rfl), ⟨by decide +kernel, by decide +kernel⟩, by decide +kernel, ⟨rfl, mT 696 rfl rfl, mT 697 rfl rfl, 5, TX4, 13, rfl, rfl⟩⟩
set_option maxRecDepth 20000 in
theorem caX4_readWhole : p_cal cls TS MT false 67 1 yX4_readWhole := ⟨qX4_readWhole, rfl, rfl, (mT 109 rfl rfl), (mT 729 rfl rfl), ⟨by decide +kernel, by decide +kernel⟩, by decide +kernel, ⟨rfl, mT 727 rfl rfl, mT 728 rfl rfl, 5, TX4, 13, rfl, rfl⟩⟩
set_option maxRecDepth 20000 in
theorem caX4_fail : p_cal cls TS MT false 68 3 yX4_fail := ⟨qX4_fail, rfl, rfl, (mT 109 rfl rfl), (mT 709 rfl rfl), ⟨by decide +kernel, by decide +kernel⟩, by decide +kernel, ⟨rfl, mT 708 rfl rfl, mT 10 rfl rfl, 5, TX4, 13, rfl, rfl⟩⟩
set_option maxRecDepth 20000 in
theorem caX4_readToken : p_cal cls TS MT false 69 1 yX4_readToken := ⟨qX4_readToken, rfl, rfl, (mT 109 rfl rfl), (mT 733 rfl rfl), ⟨by decide +kernel, by decide +kernel⟩, by decide +kernel, ⟨rfl, mT 732 rfl rfl, mT 13 rfl rfl, 5, TX4, 13, rfl, rfl⟩⟩
set_option maxRecDepth 20000 in
theorem caX4_state : p_cal cls TS MT false 70 1 yX4_state := ⟨qX4_state, rfl, rfl, (mT 109 rfl rfl), (mT 745 rfl rfl), ⟨by decide +kernel, by decide +kernel⟩, by decide +kernel, ⟨rfl, mT 744 rfl rfl, mT 16 rfl rfl, 5, TX4, 13, rfl, rfl⟩⟩
set_option maxRecDepth 20000 in
theorem caX4_setState : p_cal cls TS MT false 71 2 yX4_setState := ⟨qX4_setState, rfl, rfl, (mT 109 rfl rfl), (mT 770 rfl rfl), ⟨by decide +kernel, by decide +kernel⟩, by decide +kernel, ⟨rfl, mT 769 rfl rfl, mT 19 rfl rfl, 5, TX4, 13, rfl, rfl⟩⟩
set_option maxRecDepth 20000 in
theorem caX4_mayBegin : p_cal cls TS MT false 72 1 yX4_mayBegin := ⟨qX4_mayBegin, rfl, rfl, (mT 109 rfl rfl), (mT 741 rfl rfl), ⟨by decide +kernel, by decide +kernel⟩, by decide +kernel, ⟨rfl, mT 740 rfl rfl, mT 15 rfl rfl, 5, TX4, 13, rfl, rfl⟩⟩
set_option maxRecDepth 20000 in
theorem caX4_openOne : p_cal cls TS MT false 73 2 yX4_openOne := ⟨qX4_openOne, rfl, rfl, (mT 109 rfl rfl), (mT 737 rfl rfl), ⟨by decide +kernel, by decide +kernel⟩, by decide +kernel, ⟨rfl, mT 736 rfl rfl, mT 14 rfl rfl, 5, TX4, 13, rfl, rfl⟩⟩
set_option maxRecDepth 20000 in
theorem caX4_readDot : p_cal cls TS MT false 74 1 yX4_readDot := ⟨qX4_readDot, rfl, rfl, (mT 109 rfl rfl), (mT 774 rfl rfl), ⟨by decide +kernel, by decide +kernel⟩, by decide +kernel, ⟨rfl, mT 773 rfl rfl, mT 20 rfl rfl, 5, TX4, 13, rfl, rfl⟩⟩
set_option maxRecDepth 20000 in
theorem caX4_closeList : p_cal cls TS MT false 75 1 yX4_closeList := ⟨qX4_closeList, rfl, rfl, (mT 109 rfl rfl), (mT 750 rfl rfl), ⟨by decide +kernel, by decide +kernel⟩, by decide +kernel, ⟨rfl, mT 749 rfl rfl, mT 17 rfl rfl, 5, TX4, 13, rfl, rfl⟩⟩
set_option maxRecDepth 20000 in
theorem caX4_readAtom : p_cal cls TS MT false 76 2 yX4_readAtom := ⟨qX4_readAtom, rfl, rfl, (mT 109 rfl rfl), (mT 778 rfl rfl), ⟨by decide +kernel, by decide +kernel⟩, by decide +kernel, ⟨rfl, mT 777 rfl rfl, mT 21 rfl rfl, 5, TX4, 13, rfl, rfl⟩⟩
set_option maxRecDepth 20000 in
theorem caX4_readSymbol : p_cal cls TS MT false 77 1 yX4_readSymbol := ⟨qX4_readSymbol, rfl, rfl, (mT 109 rfl rfl), (mT 713 rfl rfl), ⟨by decide +kernel, by decide +kernel⟩, by decide +kernel, ⟨rfl, mT 712 rfl rfl, mT 11 rfl rfl, 5, TX4, 13, rfl, rfl⟩⟩
set_option maxRecDepth 20000 in
theorem caX4_readNumber : p_cal cls TS MT false 78 1 yX4_readNumber := ⟨qX4_readNumber, rfl, rfl, (mT 109 rfl rfl), (mT 782 rfl rfl), ⟨by decide +kernel, by decide +kernel⟩, by decide +kernel, ⟨rfl, mT 781 rfl rfl, mT 22 rfl rfl, 5, TX4, 13, rfl, rfl⟩⟩
set_option maxRecDepth 20000 in
theorem caX4_complete : p_cal cls TS MT false 79 3 yX4_complete := ⟨qX4_complete, rfl, rfl, (mT 109 rfl rfl), (mT 764 rfl rfl), ⟨by decide +kernel, by decide +kernel⟩, by decide +kernel, ⟨rfl, mT 763 rfl rfl, mT 18 rfl rfl, 5, TX4, 13, rfl, rfl⟩⟩
set_option maxRecDepth 20000 in
theorem caX4_isBlank : p_cal cls TS MT true 80 1 yX4_isBlank := ⟨qX4_isBlank, rfl, rfl, (mT 109 rfl rfl), (mT 702 rfl rfl), ⟨by decide +kernel, by decide +kernel⟩, by decide +kernel, ⟨rfl, rfl, mT 701 rfl rfl⟩⟩
set_option maxRecDepth 20000 in
theorem caX4_isLetter : p_cal cls TS MT true 81 1 yX4_isLetter := ⟨qX4_isLetter, rfl, rfl, (mT 109 rfl rfl), (mT 705 rfl rfl), ⟨by decide +kernel, by decide +kernel⟩, by decide +kernel, ⟨rfl, rfl, mT 704 rfl rfl⟩⟩
set_option maxRecDepth 20000 in
theorem caX4_isDigit : p_cal cls TS MT true 82 1 yX4_isDigit := ⟨qX4_isDigit, rfl, rfl, (mT 109 rfl rfl), (mT 716 rfl rfl), ⟨by decide +kernel, by decide +kernel⟩, by decide +kernel, ⟨rfl, rfl, mT 715 rfl rfl⟩⟩
set_option maxRecDepth 20000 in
theorem caX6_size : p_cal cls TS MT false 83 1 yX6_size := ⟨qX6_size, rfl, rfl, (mT 101 rfl rfl), (mT 504 rfl rfl), ⟨by decide +kernel, by decide +kernel⟩, by decide +kernel, ⟨rfl, mT 502 rfl rfl, mT 503 rfl rfl, 7, TX6, 2, rfl, rfl⟩⟩
set_option maxRecDepth 20000 in
theorem caX6_at : p_cal cls TS MT false 84 2 yX6_at := ⟨qX6_at, rfl, rfl, (mT 101 rfl rfl), (mT 508 rfl rfl), ⟨by decide +kernel, by decide +kernel⟩, by decide +kernel, ⟨rfl, mT 506 rfl rfl, mT 507 rfl rfl, 7, TX6, 2, rfl, rfl⟩⟩
set_option maxRecDepth 20000 in
theorem caX6_put : p_cal cls TS MT false 85 3 yX6_put := ⟨qX6_put, rfl, rfl, (mT 101 rfl rfl), (mT 607 rfl rfl), ⟨by decide +kernel, by decide +kernel⟩, by decide +kernel, ⟨rfl, mT 605 rfl rfl, mT 606 rfl rfl, 7, TX6, 2, rfl, rfl⟩⟩
set_option maxRecDepth 20000 in
theorem caX6_add : p_cal cls TS MT false 86 2 yX6_add := ⟨qX6_add, rfl, rfl, (mT 101 rfl rfl), (mT 152 rfl rfl), ⟨by decide +kernel, by decide +kernel⟩, by decide +kernel, ⟨rfl, mT 150 rfl rfl, mT 151 rfl rfl, 7, TX6, 2, rfl, rfl⟩⟩
set_option maxRecDepth 20000 in
theorem caX6_cut : p_cal cls TS MT false 87 2 yX6_cut := ⟨qX6_cut, rfl, rfl, (mT 101 rfl rfl), (mT 551 rfl rfl), ⟨by decide +kernel, by decide +kernel⟩, by decide +kernel, ⟨rfl, mT 549 rfl rfl, mT 550 rfl rfl, 7, TX6, 2, rfl, rfl⟩⟩
set_option maxRecDepth 20000 in
theorem caX6_present : p_cal cls TS MT false 88 1 yX6_present := ⟨qX6_present, rfl, rfl, (mT 101 rfl rfl), (mT 533 rfl rfl), ⟨by decide +kernel, by decide +kernel⟩, by decide +kernel, ⟨rfl, mT 531 rfl rfl, mT 532 rfl rfl, 7, TX6, 2, rfl, rfl⟩⟩
set_option maxRecDepth 20000 in
theorem caX7_size : p_cal cls TS MT false 89 1 yX7_size := ⟨qX7_size, rfl, rfl, (mT 103 rfl rfl), (mT 486 rfl rfl), ⟨by decide +kernel, by decide +kernel⟩, by decide +kernel, ⟨rfl, mT 484 rfl rfl, mT 485 rfl rfl, 8, TX7, 3, rfl, rfl⟩⟩
set_option maxRecDepth 20000 in
theorem caX7_lengthOf : p_cal cls TS MT false 90 2 yX7_lengthOf := ⟨qX7_lengthOf, rfl, rfl, (mT 103 rfl rfl), (mT 592 rfl rfl), ⟨by decide +kernel, by decide +kernel⟩, by decide +kernel, ⟨rfl, mT 590 rfl rfl, mT 591 rfl rfl, 8, TX7, 3, rfl, rfl⟩⟩
set_option maxRecDepth 20000 in
theorem caX7_signOf : p_cal cls TS MT false 91 3 yX7_signOf := ⟨qX7_signOf, rfl, rfl, (mT 103 rfl rfl), (mT 596 rfl rfl), ⟨by decide +kernel, by decide +kernel⟩, by decide +kernel, ⟨rfl, mT 594 rfl rfl, mT 595 rfl rfl, 8, TX7, 3, rfl, rfl⟩⟩
set_option maxRecDepth 20000 in
theorem caX7_named : p_cal cls TS MT false 92 4 yX7_named := ⟨qX7_named, rfl, rfl, (mT 103 rfl rfl), (mT 720 rfl rfl), ⟨by decide +kernel, by decide +kernel⟩, by decide +kernel, ⟨rfl, mT 718 rfl rfl, mT 719 rfl rfl, 8, TX7, 3, rfl, rfl⟩⟩
set_option maxRecDepth 20000 in
theorem caX7_isNamed : p_cal cls TS MT false 93 4 yX7_isNamed := ⟨qX7_isNamed, rfl, rfl, (mT 103 rfl rfl), (mT 724 rfl rfl), ⟨by decide +kernel, by decide +kernel⟩, by decide +kernel, ⟨rfl, mT 723 rfl rfl, mT 12 rfl rfl, 8, TX7, 3, rfl, rfl⟩⟩
set_option maxRecDepth 20000 in
theorem caX7_addSign : p_cal cls TS MT false 94 2 yX7_addSign := ⟨qX7_addSign, rfl, rfl, (mT 103 rfl rfl), (mT 259 rfl rfl), ⟨by decide +kernel, by decide +kernel⟩, by decide +kernel, ⟨rfl, mT 258 rfl rfl, mT 0 rfl rfl, 8, TX7, 3, rfl, rfl⟩⟩
set_option maxRecDepth 20000 in
theorem caX8_isSymbol : p_cal cls TS MT true 95 1 yX8_isSymbol := ⟨qX8_isSymbol, rfl, rfl, (mT 118 rfl rfl), (mT 832 rfl rfl), ⟨by decide +kernel, by decide +kernel⟩, by decide +kernel, ⟨rfl, rfl, mT 831 rfl rfl⟩⟩
set_option maxRecDepth 20000 in
theorem caX8_isNumber : p_cal cls TS MT true 96 1 yX8_isNumber := ⟨qX8_isNumber, rfl, rfl, (mT 118 rfl rfl), (mT 575 rfl rfl), ⟨by decide +kernel, by decide +kernel⟩, by decide +kernel, ⟨rfl, rfl, mT 574 rfl rfl⟩⟩
set_option maxRecDepth 20000 in
theorem caX8_isCell : p_cal cls TS MT true 97 1 yX8_isCell := ⟨qX8_isCell, rfl, rfl, (mT 118 rfl rfl), (mT 555 rfl rfl), ⟨by decide +kernel, by decide +kernel⟩, by decide +kernel, ⟨rfl, rfl, mT 554 rfl rfl⟩⟩
set_option maxRecDepth 20000 in
theorem caX8_ofNumber : p_cal cls TS MT true 98 1 yX8_ofNumber := ⟨qX8_ofNumber, rfl, rfl, (mT 118 rfl rfl), (mT 790 rfl rfl), ⟨by decide +kernel, by decide +kernel⟩, by decide +kernel, ⟨rfl, rfl, mT 789 rfl rfl⟩⟩
set_option maxRecDepth 20000 in
theorem caX8_ofCell : p_cal cls TS MT true 99 1 yX8_ofCell := ⟨qX8_ofCell, rfl, rfl, (mT 118 rfl rfl), (mT 759 rfl rfl), ⟨by decide +kernel, by decide +kernel⟩, by decide +kernel, ⟨rfl, rfl, mT 758 rfl rfl⟩⟩
set_option maxRecDepth 20000 in
theorem caX8_ofTruth : p_cal cls TS MT true 100 1 yX8_ofTruth := ⟨qX8_ofTruth, rfl, rfl, (mT 118 rfl rfl), (mT 937 rfl rfl), ⟨by decide +kernel, by decide +kernel⟩, by decide +kernel, ⟨rfl, rfl, mT 936 rfl rfl⟩⟩
set_option maxRecDepth 20000 in
theorem caX8_number : p_cal cls TS MT true 101 1 yX8_number := ⟨qX8_number, rfl, rfl, (mT 118 rfl rfl), (mT 579 rfl rfl), ⟨by decide +kernel, by decide +kernel⟩, by decide +kernel, ⟨rfl, rfl, mT 578 rfl rfl⟩⟩
set_option maxRecDepth 20000 in
theorem caX10_isSymbol : p_cal cls TS MT true 112 1 yX10_isSymbol := ⟨qX10_isSymbol, rfl, rfl, (mT 112 rfl rfl), (mT 1330 rfl rfl), ⟨by decide +kernel, by decide +kernel⟩, by decide +kernel, ⟨rfl, rfl, mT 1329 rfl rfl⟩⟩
set_option maxRecDepth 20000 in
theorem caX10_isNumber : p_cal cls TS MT true 113 1 yX10_isNumber := ⟨qX10_isNumber, rfl, rfl, (mT 112 rfl rfl), (mT 1345 rfl rfl), ⟨by decide +kernel, by decide +kernel⟩, by decide +kernel, ⟨rfl, rfl, mT 1344 rfl rfl⟩⟩
set_option maxRecDepth 20000 in
theorem caX10_isCell : p_cal cls TS MT true 114 1 yX10_isCell := ⟨qX10_isCell, rfl, rfl, (mT 112 rfl rfl), (mT 1271 rfl rfl), ⟨by decide +kernel, by decide +kernel⟩, by decide +kernel, ⟨rfl, rfl, mT 1270 rfl rfl⟩⟩
set_option maxRecDepth 20000 in
theorem caX10_symbolOf : p_cal cls TS MT true 115 1 yX10_symbolOf := ⟨qX10_symbolOf, rfl, rfl, (mT 112 rfl rfl), (mT 1240 rfl rfl), ⟨by decide +kernel, by decide +kernel⟩, by decide +kernel, ⟨rfl, rfl, mT 1239 rfl rfl⟩⟩
set_option maxRecDepth 20000 in
theorem caX10_fails : p_cal cls TS MT false 116 2 yX10_fails := ⟨qX10_fails, rfl, rfl, (mT 112 rfl rfl), (mT 1230 rfl rfl), ⟨by decide +kernel, by decide +kernel⟩, by decide +kernel, ⟨rfl, mT 1229 rfl rfl, mT 63 rfl rfl, 10, TX10, 48, rfl, rfl⟩⟩
set_option maxRecDepth 20000 in
theorem caX10_visit : p_cal cls TS MT false 117 2 yX10_visit := ⟨qX10_visit, rfl, rfl, (mT 112 rfl rfl), (mT 1268 rfl rfl), ⟨by decide +kernel, by decide +kernel⟩, by decide +kernel, ⟨rfl, mT 1267 rfl rfl, mT 71 rfl rfl, 10, TX10, 48, rfl, rfl⟩⟩
set_option maxRecDepth 20000 in
theorem caX10_walks : p_cal cls TS MT false 118 1 yX10_walks := ⟨qX10_walks, rfl, rfl, (mT 112 rfl rfl), (mT 1276 rfl rfl), ⟨by decide +kernel, by decide +kernel⟩, by decide +kernel, ⟨rfl, mT 1275 rfl rfl, mT 72 rfl rfl, 10, TX10, 48, rfl, rfl⟩⟩
set_option maxRecDepth 20000 in
theorem caX10_reachFunctions : p_cal cls TS MT false 119 1 yX10_reachFunctions := ⟨qX10_reachFunctions, rfl, rfl, (mT 112 rfl rfl), (mT 1264 rfl rfl), ⟨by decide +kernel, by decide +kernel⟩, by decide +kernel, ⟨rfl, mT 1263 rfl rfl, mT 70 rfl rfl, 10, TX10, 48, rfl, rfl⟩⟩
set_option maxRecDepth 20000 in
theorem caX10_reach : p_cal cls TS MT false 120 4 yX10_reach := ⟨qX10_reach, rfl, rfl, (mT 112 rfl rfl), (mT 1260 rfl rfl), ⟨by decide +kernel, by decide +kernel⟩, by decide +kernel, ⟨rfl, mT 1259 rfl rfl, mT 69 rfl rfl, 10, TX10, 48, rfl, rfl⟩⟩
set_option maxRecDepth 20000 in
theorem caX10_cons : p_cal cls TS MT false 121 4 yX10_cons := ⟨qX10_cons, rfl, rfl, (mT 112 rfl rfl), (mT 1256 rfl rfl), ⟨by decide +kernel, by decide +kernel⟩, by decide +kernel, ⟨rfl, mT 1255 rfl rfl, mT 68 rfl rfl, 10, TX10, 48, rfl, rfl⟩⟩
set_option maxRecDepth 20000 in
theorem caX10_headOf : p_cal cls TS MT false 122 2 yX10_headOf := ⟨qX10_headOf, rfl, rfl, (mT 112 rfl rfl), (mT 1323 rfl rfl), ⟨by decide +kernel, by decide +kernel⟩, by decide +kernel, ⟨rfl, mT 1322 rfl rfl, mT 81 rfl rfl, 10, TX10, 48, rfl, rfl⟩⟩
set_option maxRecDepth 20000 in
theorem caX10_tailOf : p_cal cls TS MT false 123 2 yX10_tailOf := ⟨qX10_tailOf, rfl, rfl, (mT 112 rfl rfl), (mT 1319 rfl rfl), ⟨by decide +kernel, by decide +kernel⟩, by decide +kernel, ⟨rfl, mT 1318 rfl rfl, mT 80 rfl rfl, 10, TX10, 48, rfl, rfl⟩⟩
set_option maxRecDepth 20000 in
theorem caX10_second : p_cal cls TS MT false 124 2 yX10_second := ⟨qX10_second, rfl, rfl, (mT 112 rfl rfl), (mT 1355 rfl rfl), ⟨by decide +kernel, by decide +kernel⟩, by decide +kernel, ⟨rfl, mT 1354 rfl rfl, mT 86 rfl rfl, 10, TX10, 48, rfl, rfl⟩⟩
set_option maxRecDepth 20000 in
theorem caX10_third : p_cal cls TS MT false 125 2 yX10_third := ⟨qX10_third, rfl, rfl, (mT 112 rfl rfl), (mT 1395 rfl rfl), ⟨by decide +kernel, by decide +kernel⟩, by decide +kernel, ⟨rfl, mT 1394 rfl rfl, mT 95 rfl rfl, 10, TX10, 48, rfl, rfl⟩⟩
set_option maxRecDepth 20000 in
theorem caX10_byteAt : p_cal cls TS MT false 126 2 yX10_byteAt := ⟨qX10_byteAt, rfl, rfl, (mT 112 rfl rfl), (mT 1219 rfl rfl), ⟨by decide +kernel, by decide +kernel⟩, by decide +kernel, ⟨rfl, mT 1218 rfl rfl, mT 61 rfl rfl, 10, TX10, 48, rfl, rfl⟩⟩
set_option maxRecDepth 20000 in
theorem caX10_failsAt : p_cal cls TS MT false 127 3 yX10_failsAt := ⟨qX10_failsAt, rfl, rfl, (mT 112 rfl rfl), (mT 1226 rfl rfl), ⟨by decide +kernel, by decide +kernel⟩, by decide +kernel, ⟨rfl, mT 1225 rfl rfl, mT 62 rfl rfl, 10, TX10, 48, rfl, rfl⟩⟩
set_option maxRecDepth 20000 in
theorem caX10_isCapital : p_cal cls TS MT true 128 1 yX10_isCapital := ⟨qX10_isCapital, rfl, rfl, (mT 112 rfl rfl), (mT 1222 rfl rfl), ⟨by decide +kernel, by decide +kernel⟩, by decide +kernel, ⟨rfl, rfl, mT 1221 rfl rfl⟩⟩
set_option maxRecDepth 20000 in
theorem caX10_isDigit : p_cal cls TS MT true 129 1 yX10_isDigit := ⟨qX10_isDigit, rfl, rfl, (mT 112 rfl rfl), (mT 1237 rfl rfl), ⟨by decide +kernel, by decide +kernel⟩, by decide +kernel, ⟨rfl, rfl, mT 1236 rfl rfl⟩⟩
set_option maxRecDepth 20000 in
theorem caX10_blanks : p_cal cls TS MT false 130 1 yX10_blanks := ⟨qX10_blanks, rfl, rfl, (mT 112 rfl rfl), (mT 1215 rfl rfl), ⟨by decide +kernel, by decide +kernel⟩, by decide +kernel, ⟨rfl, mT 1214 rfl rfl, mT 60 rfl rfl, 10, TX10, 48, rfl, rfl⟩⟩
set_option maxRecDepth 20000 in
theorem caX10_symbol : p_cal cls TS MT false 131 1 yX10_symbol := ⟨qX10_symbol, rfl, rfl, (mT 112 rfl rfl), (mT 1234 rfl rfl), ⟨by decide +kernel, by decide +kernel⟩, by decide +kernel, ⟨rfl, mT 1233 rfl rfl, mT 64 rfl rfl, 10, TX10, 48, rfl, rfl⟩⟩
set_option maxRecDepth 20000 in
theorem caX10_number : p_cal cls TS MT false 132 1 yX10_number := ⟨qX10_number, rfl, rfl, (mT 112 rfl rfl), (mT 1288 rfl rfl), ⟨by decide +kernel, by decide +kernel⟩, by decide +kernel, ⟨rfl, mT 1287 rfl rfl, mT 75 rfl rfl, 10, TX10, 48, rfl, rfl⟩⟩
set_option maxRecDepth 20000 in
theorem caX10_isAtom : p_cal cls TS MT false 133 1 yX10_isAtom := ⟨qX10_isAtom, rfl, rfl, (mT 112 rfl rfl), (mT 1284 rfl rfl), ⟨by decide +kernel, by decide +kernel⟩, by decide +kernel, ⟨rfl, mT 1283 rfl rfl, mT 74 rfl rfl, 10, TX10, 48, rfl, rfl⟩⟩
set_option maxRecDepth 20000 in
theorem caX10_mayBegin : p_cal cls TS MT false 134 1 yX10_mayBegin := ⟨qX10_mayBegin, rfl, rfl, (mT 112 rfl rfl), (mT 1280 rfl rfl), ⟨by decide +kernel, by decide +kernel⟩, by decide +kernel, ⟨rfl, mT 1279 rfl rfl, mT 73 rfl rfl, 10, TX10, 48, rfl, rfl⟩⟩
set_option maxRecDepth 20000 in
theorem caX10_reads : p_cal cls TS MT false 135 1 yX10_reads := ⟨qX10_reads, rfl, rfl, (mT 112 rfl rfl), (mT 1248 rfl rfl), ⟨by decide +kernel, by decide +kernel⟩, by decide +kernel, ⟨rfl, mT 1247 rfl rfl, mT 66 rfl rfl, 10, TX10, 48, rfl, rfl⟩⟩
set_option maxRecDepth 20000 in
theorem caX10_quotes : p_cal cls TS MT false 136 3 yX10_quotes := ⟨qX10_quotes, rfl, rfl, (mT 112 rfl rfl), (mT 1298 rfl rfl), ⟨by decide +kernel, by decide +kernel⟩, by decide +kernel, ⟨rfl, mT 1297 rfl rfl, mT 76 rfl rfl, 10, TX10, 48, rfl, rfl⟩⟩
set_option maxRecDepth 20000 in
theorem caX10_closes : p_cal cls TS MT false 137 1 yX10_closes := ⟨qX10_closes, rfl, rfl, (mT 112 rfl rfl), (mT 1252 rfl rfl), ⟨by decide +kernel, by decide +kernel⟩, by decide +kernel, ⟨rfl, mT 1251 rfl rfl, mT 67 rfl rfl, 10, TX10, 48, rfl, rfl⟩⟩
set_option maxRecDepth 20000 in
theorem caX10_nothing : p_cal cls TS MT false 138 1 yX10_nothing := ⟨qX10_nothing, rfl, rfl, (mT 112 rfl rfl), (mT 1211 rfl rfl), ⟨by decide +kernel, by decide +kernel⟩, by decide +kernel, ⟨rfl, mT 1210 rfl rfl, mT 59 rfl rfl, 10, TX10, 48, rfl, rfl⟩⟩
set_option maxRecDepth 20000 in
theorem caX10_burn : p_cal cls TS MT false 139 1 yX10_burn := ⟨qX10_burn, rfl, rfl, (mT 112 rfl rfl), (mT 1338 rfl rfl), ⟨by decide +kernel, by decide +kernel⟩, by decide +kernel, ⟨rfl, mT 1337 rfl rfl, mT 83 rfl rfl, 10, TX10, 48, rfl, rfl⟩⟩
set_option maxRecDepth 20000 in
theorem caX10_pairOf : p_cal cls TS MT false 140 2 yX10_pairOf := ⟨qX10_pairOf, rfl, rfl, (mT 112 rfl rfl), (mT 1351 rfl rfl), ⟨by decide +kernel, by decide +kernel⟩, by decide +kernel, ⟨rfl, mT 1350 rfl rfl, mT 85 rfl rfl, 10, TX10, 48, rfl, rfl⟩⟩
set_option maxRecDepth 20000 in
theorem caX10_frame : p_cal cls TS MT false 141 4 yX10_frame := ⟨qX10_frame, rfl, rfl, (mT 112 rfl rfl), (mT 1360 rfl rfl), ⟨by decide +kernel, by decide +kernel⟩, by decide +kernel, ⟨rfl, mT 1359 rfl rfl, mT 87 rfl rfl, 10, TX10, 48, rfl, rfl⟩⟩
set_option maxRecDepth 20000 in
theorem caX10_evaluates : p_cal cls TS MT false 142 1 yX10_evaluates := ⟨qX10_evaluates, rfl, rfl, (mT 112 rfl rfl), (mT 1342 rfl rfl), ⟨by decide +kernel, by decide +kernel⟩, by decide +kernel, ⟨rfl, mT 1341 rfl rfl, mT 84 rfl rfl, 10, TX10, 48, rfl, rfl⟩⟩
set_option maxRecDepth 20000 in
theorem caX10_returns : p_cal cls TS MT false 143 1 yX10_returns := ⟨qX10_returns, rfl, rfl, (mT 112 rfl rfl), (mT 1366 rfl rfl), ⟨by decide +kernel, by decide +kernel⟩, by decide +kernel, ⟨rfl, mT 1365 rfl rfl, mT 88 rfl rfl, 10, TX10, 48, rfl, rfl⟩⟩
set_option maxRecDepth 20000 in
theorem caX10_applies : p_cal cls TS MT false 144 1 yX10_applies := ⟨qX10_applies, rfl, rfl, (mT 112 rfl rfl), (mT 1370 rfl rfl), ⟨by decide +kernel, by decide +kernel⟩, by decide +kernel, ⟨rfl, mT 1369 rfl rfl, mT 89 rfl rfl, 10, TX10, 48, rfl, rfl⟩⟩
set_option maxRecDepth 20000 in
theorem caX10_variable : p_cal cls TS MT false 145 2 yX10_variable := ⟨qX10_variable, rfl, rfl, (mT 112 rfl rfl), (mT 1399 rfl rfl), ⟨by decide +kernel, by decide +kernel⟩, by decide +kernel, ⟨rfl, mT 1398 rfl rfl, mT 96 rfl rfl, 10, TX10, 48, rfl, rfl⟩⟩
set_option maxRecDepth 20000 in
theorem caX10_binds : p_cal cls TS MT false 146 1 yX10_binds := ⟨qX10_binds, rfl, rfl, (mT 112 rfl rfl), (mT 1391 rfl rfl), ⟨by decide +kernel, by decide +kernel⟩, by decide +kernel, ⟨rfl, mT 1390 rfl rfl, mT 94 rfl rfl, 10, TX10, 48, rfl, rfl⟩⟩
set_option maxRecDepth 20000 in
theorem caX10_gives : p_cal cls TS MT false 147 2 yX10_gives := ⟨qX10_gives, rfl, rfl, (mT 112 rfl rfl), (mT 1378 rfl rfl), ⟨by decide +kernel, by decide +kernel⟩, by decide +kernel, ⟨rfl, mT 1377 rfl rfl, mT 91 rfl rfl, 10, TX10, 48, rfl, rfl⟩⟩
set_option maxRecDepth 20000 in
theorem caX10_says : p_cal cls TS MT false 148 2 yX10_says := ⟨qX10_says, rfl, rfl, (mT 112 rfl rfl), (mT 1382 rfl rfl), ⟨by decide +kernel, by decide +kernel⟩, by decide +kernel, ⟨rfl, mT 1381 rfl rfl, mT 92 rfl rfl, 10, TX10, 48, rfl, rfl⟩⟩
set_option maxRecDepth 20000 in
theorem caX10_built : p_cal cls TS MT false 149 2 yX10_built := ⟨qX10_built, rfl, rfl, (mT 112 rfl rfl), (mT 1374 rfl rfl), ⟨by decide +kernel, by decide +kernel⟩, by decide +kernel, ⟨rfl, mT 1373 rfl rfl, mT 90 rfl rfl, 10, TX10, 48, rfl, rfl⟩⟩
set_option maxRecDepth 20000 in
theorem caX10_counts : p_cal cls TS MT false 150 4 yX10_counts := ⟨qX10_counts, rfl, rfl, (mT 112 rfl rfl), (mT 1386 rfl rfl), ⟨by decide +kernel, by decide +kernel⟩, by decide +kernel, ⟨rfl, mT 1385 rfl rfl, mT 93 rfl rfl, 10, TX10, 48, rfl, rfl⟩⟩
set_option maxRecDepth 20000 in
theorem caX10_puts : p_cal cls TS MT false 151 2 yX10_puts := ⟨qX10_puts, rfl, rfl, (mT 112 rfl rfl), (mT 1315 rfl rfl), ⟨by decide +kernel, by decide +kernel⟩, by decide +kernel, ⟨rfl, mT 1314 rfl rfl, mT 79 rfl rfl, 10, TX10, 48, rfl, rfl⟩⟩
set_option maxRecDepth 20000 in
theorem caX10_atom : p_cal cls TS MT false 152 2 yX10_atom := ⟨qX10_atom, rfl, rfl, (mT 112 rfl rfl), (mT 1327 rfl rfl), ⟨by decide +kernel, by decide +kernel⟩, by decide +kernel, ⟨rfl, mT 1326 rfl rfl, mT 82 rfl rfl, 10, TX10, 48, rfl, rfl⟩⟩
set_option maxRecDepth 20000 in
theorem caX10_prints : p_cal cls TS MT false 153 2 yX10_prints := ⟨qX10_prints, rfl, rfl, (mT 112 rfl rfl), (mT 1311 rfl rfl), ⟨by decide +kernel, by decide +kernel⟩, by decide +kernel, ⟨rfl, mT 1310 rfl rfl, mT 78 rfl rfl, 10, TX10, 48, rfl, rfl⟩⟩
set_option maxRecDepth 20000 in
theorem caX10_begins : p_cal cls TS MT false 155 3 yX10_begins := ⟨qX10_begins, rfl, rfl, (mT 112 rfl rfl), (mT 1207 rfl rfl), ⟨by decide +kernel, by decide +kernel⟩, by decide +kernel, ⟨rfl, mT 1206 rfl rfl, mT 58 rfl rfl, 10, TX10, 48, rfl, rfl⟩⟩
set_option maxRecDepth 20000 in
theorem caX10_whole : p_cal cls TS MT false 156 1 yX10_whole := ⟨qX10_whole, rfl, rfl, (mT 112 rfl rfl), (mT 1244 rfl rfl), ⟨by decide +kernel, by decide +kernel⟩, by decide +kernel, ⟨rfl, mT 1243 rfl rfl, mT 65 rfl rfl, 10, TX10, 48, rfl, rfl⟩⟩
set_option maxRecDepth 20000 in
theorem caX10_failed : p_cal cls TS MT false 157 2 yX10_failed := ⟨qX10_failed, rfl, rfl, (mT 112 rfl rfl), (mT 1303 rfl rfl), ⟨by decide +kernel, by decide +kernel⟩, by decide +kernel, ⟨rfl, mT 1302 rfl rfl, mT 77 rfl rfl, 10, TX10, 48, rfl, rfl⟩⟩
set_option maxRecDepth 20000 in
theorem caX10_ofFunctions : p_cal cls TS MT false 162 1 yX10_ofFunctions := ⟨qX10_ofFunctions, rfl, rfl, (mT 112 rfl rfl), (mT 1412 rfl rfl), ⟨by decide +kernel, by decide +kernel⟩, by decide +kernel, ⟨rfl, mT 1411 rfl rfl, mT 97 rfl rfl, 10, TX10, 48, rfl, rfl⟩⟩
def FTX0 : List (Nat × Nat × Nat) := [(9, 1, 0), (15, 1, 1)]
def MLX0 : List (Bool × Nat × Nat × Nat) := [(false, 19, 2, 2)]
def KCX0 : List (Nat × Int64) := []
set_option maxRecDepth 20000 in
theorem FTX0_ok : ∀ t ∈ FTX0, p_fok cls TS RX0 t.1 t.2.1 t.2.2 := List.forall_mem_cons.mpr ⟨⟨RX0, TX0, 2, tyX0, kdX0, by decide, mT 193 rfl rfl⟩, List.forall_mem_cons.mpr ⟨⟨RX0, TX0, 2, tyX0, kdX0, by decide, mT 194 rfl rfl⟩, fun _ h => (List.not_mem_nil h).elim⟩⟩
set_option maxRecDepth 20000 in
theorem MLX0_ok : ∀ t ∈ MLX0, p_cx cls TS MT RX0 t.1 t.2.1 t.2.2.1 t.2.2.2 := List.forall_mem_cons.mpr ⟨caX0_add.ok (mT 467 rfl rfl), fun _ h => (List.not_mem_nil h).elim⟩
set_option maxRecDepth 20000 in
theorem KCX0_ok : ∀ t ∈ KCX0, Cond.constantLong RX0 t.1 t.2 ∈ TS := fun _ h => (List.not_mem_nil h).elim
def FTX1 : List (Nat × Nat × Nat) := [(9, 2, 2), (15, 2, 3), (18, 2, 4), (22, 2, 5), (26, 2, 6), (29, 2, 8), (33, 2, 0), (54, 2, 1), (61, 2, 9), (80, 2, 7), (91, 6, 4), (95, 6, 5), (98, 6, 6)]
def MLX1 : List (Bool × Nat × Nat × Nat) := [(false, 58, 15, 1), (false, 72, 12, 1), (false, 76, 13, 3), (true, 83, 99, 1), (false, 87, 14, 2), (false, 101, 83, 1), (false, 104, 84, 2)]
def KCX1 : List (Nat × Int64) := [(66, 8589934592), (68, 2000), (70, -1)]
set_option maxRecDepth 20000 in
theorem FTX1_ok : ∀ t ∈ FTX1, p_fok cls TS RX1 t.1 t.2.1 t.2.2 := List.forall_mem_cons.mpr ⟨⟨RX1, TX1, 10, tyX1, kdX1, by decide, mT 285 rfl rfl⟩, List.forall_mem_cons.mpr ⟨⟨RX1, TX1, 10, tyX1, kdX1, by decide, mT 286 rfl rfl⟩, List.forall_mem_cons.mpr ⟨⟨RX1, TX1, 10, tyX1, kdX1, by decide, mT 287 rfl rfl⟩, List.forall_mem_cons.mpr ⟨⟨RX1, TX1, 10, tyX1, kdX1, by decide, mT 288 rfl rfl⟩, List.forall_mem_cons.mpr ⟨⟨RX1, TX1, 10, tyX1, kdX1, by decide, mT 289 rfl rfl⟩, List.forall_mem_cons.mpr ⟨⟨RX1, TX1, 10, tyX1, kdX1, by decide, mT 291 rfl rfl⟩, List.forall_mem_cons.mpr ⟨⟨RX1, TX1, 10, tyX1, kdX1, by decide, mT 283 rfl rfl⟩, List.forall_mem_cons.mpr ⟨⟨RX1, TX1, 10, tyX1, kdX1, by decide, mT 284 rfl rfl⟩, List.forall_mem_cons.mpr ⟨⟨RX1, TX1, 10, tyX1, kdX1, by decide, mT 292 rfl rfl⟩, List.forall_mem_cons.mpr ⟨⟨RX1, TX1, 10, tyX1, kdX1, by decide, mT 290 rfl rfl⟩, List.forall_mem_cons.mpr ⟨⟨RX5, TX5, 7, tyX5, kdX5, by decide, mT 167 rfl rfl⟩, List.forall_mem_cons.mpr ⟨⟨RX5, TX5, 7, tyX5, kdX5, by decide, mT 169 rfl rfl⟩, List.forall_mem_cons.mpr ⟨⟨RX5, TX5, 7, tyX5, kdX5, by decide, mT 171 rfl rfl⟩, fun _ h => (List.not_mem_nil h).elim⟩⟩⟩⟩⟩⟩⟩⟩⟩⟩⟩⟩⟩
set_option maxRecDepth 20000 in
theorem MLX1_ok : ∀ t ∈ MLX1, p_cx cls TS MT RX1 t.1 t.2.1 t.2.2.1 t.2.2.2 := List.forall_mem_cons.mpr ⟨caX1_takeBack.ok (mT 279 rfl rfl), List.forall_mem_cons.mpr ⟨caX1_inUse.ok (mT 510 rfl rfl), List.forall_mem_cons.mpr ⟨caX1_collect.ok (mT 491 rfl rfl), List.forall_mem_cons.mpr ⟨caX8_ofCell.okS (by decide) (by decide) (mT 757 rfl rfl), List.forall_mem_cons.mpr ⟨caX1_reach.ok (mT 495 rfl rfl), List.forall_mem_cons.mpr ⟨caX6_size.ok (mT 501 rfl rfl), List.forall_mem_cons.mpr ⟨caX6_at.ok (mT 505 rfl rfl), fun _ h => (List.not_mem_nil h).elim⟩⟩⟩⟩⟩⟩⟩
set_option maxRecDepth 20000 in
theorem KCX1_ok : ∀ t ∈ KCX1, Cond.constantLong RX1 t.1 t.2 ∈ TS := List.forall_mem_cons.mpr ⟨mT 499 rfl rfl, List.forall_mem_cons.mpr ⟨mT 500 rfl rfl, List.forall_mem_cons.mpr ⟨mT 563 rfl rfl, fun _ h => (List.not_mem_nil h).elim⟩⟩⟩
def FTX2 : List (Nat × Nat × Nat) := [(16, 3, 4), (20, 3, 5), (24, 3, 0), (28, 3, 1), (37, 3, 2), (41, 3, 3), (42, 3, 10), (46, 3, 12), (50, 3, 9), (53, 3, 7), (56, 6, 4), (59, 3, 8), (62, 3, 11), (75, 6, 6), (91, 6, 5), (97, 3, 6), (212, 6, 0)]
def MLX2 : List (Bool × Nat × Nat × Nat) := [(false, 65, 25, 1), (false, 69, 34, 1), (false, 72, 41, 1), (false, 78, 45, 2), (false, 82, 53, 1), (false, 85, 46, 1), (false, 88, 22, 1), (false, 94, 87, 2), (false, 100, 23, 1), (false, 103, 24, 2), (true, 106, 97, 1), (false, 111, 8, 2), (false, 117, 9, 2), (false, 120, 29, 2), (false, 123, 28, 2), (false, 126, 10, 3), (false, 132, 35, 2), (false, 138, 30, 2), (false, 141, 26, 2), (false, 146, 36, 2), (false, 151, 37, 2), (false, 154, 38, 3), (true, 158, 95, 1), (false, 161, 33, 2), (false, 164, 39, 3), (false, 167, 27, 2), (false, 170, 32, 3), (false, 175, 83, 1), (true, 179, 0, 1000), (false, 185, 86, 2), (false, 188, 84, 2), (false, 192, 42, 2), (false, 195, 43, 2), (false, 198, 40, 2), (false, 201, 85, 3), (false, 205, 44, 2), (false, 215, 47, 2), (false, 220, 48, 2), (false, 225, 51, 2), (false, 228, 52, 2), (false, 231, 49, 2), (false, 235, 31, 2), (false, 238, 50, 2), (true, 241, 54, 1), (false, 245, 55, 3), (true, 249, 100, 1), (false, 253, 56, 1), (true, 256, 96, 1), (false, 259, 57, 4), (true, 263, 101, 1), (true, 266, 98, 1)]
def KCX2 : List (Nat × Int64) := [(130, -1), (136, 2), (144, 3), (149, 4), (173, 7), (208, 8), (210, 22), (218, 5), (223, 6)]
set_option maxRecDepth 20000 in
theorem FTX2_ok : ∀ t ∈ FTX2, p_fok cls TS RX2 t.1 t.2.1 t.2.2 := List.forall_mem_cons.mpr ⟨⟨RX2, TX2, 13, tyX2, kdX2, by decide, mT 373 rfl rfl⟩, List.forall_mem_cons.mpr ⟨⟨RX2, TX2, 13, tyX2, kdX2, by decide, mT 374 rfl rfl⟩, List.forall_mem_cons.mpr ⟨⟨RX2, TX2, 13, tyX2, kdX2, by decide, mT 369 rfl rfl⟩, List.forall_mem_cons.mpr ⟨⟨RX2, TX2, 13, tyX2, kdX2, by decide, mT 370 rfl rfl⟩, List.forall_mem_cons.mpr ⟨⟨RX2, TX2, 13, tyX2, kdX2, by decide, mT 371 rfl rfl⟩, List.forall_mem_cons.mpr ⟨⟨RX2, TX2, 13, tyX2, kdX2, by decide, mT 372 rfl rfl⟩, List.forall_mem_cons.mpr ⟨⟨RX2, TX2, 13, tyX2, kdX2, by decide, mT 379 rfl rfl⟩, List.forall_mem_cons.mpr ⟨⟨RX2, TX2, 13, tyX2, kdX2, by decide, mT 381 rfl rfl⟩, List.forall_mem_cons.mpr ⟨⟨RX2, TX2, 13, tyX2, kdX2, by decide, mT 378 rfl rfl⟩, List.forall_mem_cons.mpr ⟨⟨RX2, TX2, 13, tyX2, kdX2, by decide, mT 376 rfl rfl⟩, List.forall_mem_cons.mpr ⟨⟨RX5, TX5, 7, tyX5, kdX5, by decide, mT 166 rfl rfl⟩, List.forall_mem_cons.mpr ⟨⟨RX2, TX2, 13, tyX2, kdX2, by decide, mT 377 rfl rfl⟩, List.forall_mem_cons.mpr ⟨⟨RX2, TX2, 13, tyX2, kdX2, by decide, mT 380 rfl rfl⟩, List.forall_mem_cons.mpr ⟨⟨RX5, TX5, 7, tyX5, kdX5, by decide, mT 170 rfl rfl⟩, List.forall_mem_cons.mpr ⟨⟨RX5, TX5, 7, tyX5, kdX5, by decide, mT 168 rfl rfl⟩, List.forall_mem_cons.mpr ⟨⟨RX2, TX2, 13, tyX2, kdX2, by decide, mT 375 rfl rfl⟩, List.forall_mem_cons.mpr ⟨⟨RX5, TX5, 7, tyX5, kdX5, by decide, mT 156 rfl rfl⟩, fun _ h => (List.not_mem_nil h).elim⟩⟩⟩⟩⟩⟩⟩⟩⟩⟩⟩⟩⟩⟩⟩⟩⟩
set_option maxRecDepth 20000 in
theorem MLX2_ok : ∀ t ∈ MLX2, p_cx cls TS MT RX2 t.1 t.2.1 t.2.2.1 t.2.2.2 := List.forall_mem_cons.mpr ⟨caX2_burn.ok (mT 813 rfl rfl), List.forall_mem_cons.mpr ⟨caX2_evaluate.ok (mT 821 rfl rfl), List.forall_mem_cons.mpr ⟨caX2_takeValue.ok (mT 896 rfl rfl), List.forall_mem_cons.mpr ⟨caX2_isBuiltIn.ok (mT 918 rfl rfl), List.forall_mem_cons.mpr ⟨caX2_applyBuiltIn.ok (mT 924 rfl rfl), List.forall_mem_cons.mpr ⟨caX2_apply.ok (mT 949 rfl rfl), List.forall_mem_cons.mpr ⟨caX2_letGo.ok (mT 983 rfl rfl), List.forall_mem_cons.mpr ⟨caX6_cut.ok (mT 842 rfl rfl), List.forall_mem_cons.mpr ⟨caX2_emptyHand.ok (mT 838 rfl rfl), List.forall_mem_cons.mpr ⟨caX2_fail.ok (mT 817 rfl rfl), List.forall_mem_cons.mpr ⟨caX8_isCell.okS (by decide) (by decide) (mT 825 rfl rfl), List.forall_mem_cons.mpr ⟨caX1_head.ok (mT 847 rfl rfl), List.forall_mem_cons.mpr ⟨caX1_tail.ok (mT 853 rfl rfl), List.forall_mem_cons.mpr ⟨caX2_askTail.ok (mT 859 rfl rfl), List.forall_mem_cons.mpr ⟨caX2_askHead.ok (mT 848 rfl rfl), List.forall_mem_cons.mpr ⟨caX1_make.ok (mT 890 rfl rfl), List.forall_mem_cons.mpr ⟨caX2_evaluateAtom.ok (mT 826 rfl rfl), List.forall_mem_cons.mpr ⟨caX2_askSecond.ok (mT 855 rfl rfl), List.forall_mem_cons.mpr ⟨caX2_give.ok (mT 834 rfl rfl), List.forall_mem_cons.mpr ⟨caX2_evaluateCond.ok (mT 864 rfl rfl), List.forall_mem_cons.mpr ⟨caX2_evaluateFunction.ok (mT 882 rfl rfl), List.forall_mem_cons.mpr ⟨caX2_evaluateCall.ok (mT 892 rfl rfl), List.forall_mem_cons.mpr ⟨caX8_isSymbol.okS (by decide) (by decide) (mT 830 rfl rfl), List.forall_mem_cons.mpr ⟨caX2_lookUp.ok (mT 843 rfl rfl), List.forall_mem_cons.mpr ⟨caX2_pushFrame.ok (mT 868 rfl rfl), List.forall_mem_cons.mpr ⟨caX2_evaluateNext.ok (mT 877 rfl rfl), List.forall_mem_cons.mpr ⟨caX2_cons.ok (mT 886 rfl rfl), List.forall_mem_cons.mpr ⟨caX6_size.ok (mT 872 rfl rfl), List.forall_mem_cons.mpr ⟨(show p_mw _ _ _ _ _ from ⟨mT 873 rfl rfl, mT 874 rfl rfl, mT 119 rfl rfl, mT 875 rfl rfl⟩), List.forall_mem_cons.mpr ⟨caX6_add.ok (mT 876 rfl rfl), List.forall_mem_cons.mpr ⟨caX6_at.ok (mT 900 rfl rfl), List.forall_mem_cons.mpr ⟨caX2_takeChoice.ok (mT 901 rfl rfl), List.forall_mem_cons.mpr ⟨caX2_takeArgument.ok (mT 910 rfl rfl), List.forall_mem_cons.mpr ⟨caX2_popFrame.ok (mT 905 rfl rfl), List.forall_mem_cons.mpr ⟨caX6_put.ok (mT 909 rfl rfl), List.forall_mem_cons.mpr ⟨caX2_takeInHand.ok (mT 914 rfl rfl), List.forall_mem_cons.mpr ⟨caX2_applySymbol.ok (mT 953 rfl rfl), List.forall_mem_cons.mpr ⟨caX2_applyLambda.ok (mT 958 rfl rfl), List.forall_mem_cons.mpr ⟨caX2_applyLabel.ok (mT 975 rfl rfl), List.forall_mem_cons.mpr ⟨caX2_applyFunarg.ok (mT 979 rfl rfl), List.forall_mem_cons.mpr ⟨caX2_lookAtVariables.ok (mT 962 rfl rfl), List.forall_mem_cons.mpr ⟨caX2_askThird.ok (mT 970 rfl rfl), List.forall_mem_cons.mpr ⟨caX2_askVariable.ok (mT 966 rfl rfl), List.forall_mem_cons.mpr ⟨caX2_valuesWanted.okS (by decide) (by decide) (mT 928 rfl rfl), List.forall_mem_cons.mpr ⟨caX2_givePart.ok (mT 931 rfl rfl), List.forall_mem_cons.mpr ⟨caX8_ofTruth.okS (by decide) (by decide) (mT 935 rfl rfl), List.forall_mem_cons.mpr ⟨caX2_giveList.ok (mT 938 rfl rfl), List.forall_mem_cons.mpr ⟨caX8_isNumber.okS (by decide) (by decide) (mT 942 rfl rfl), List.forall_mem_cons.mpr ⟨caX2_giveReckoned.ok (mT 943 rfl rfl), List.forall_mem_cons.mpr ⟨caX8_number.okS (by decide) (by decide) (mT 947 rfl rfl), List.forall_mem_cons.mpr ⟨caX8_ofNumber.okS (by decide) (by decide) (mT 948 rfl rfl), fun _ h => (List.not_mem_nil h).elim⟩⟩⟩⟩⟩⟩⟩⟩⟩⟩⟩⟩⟩⟩⟩⟩⟩⟩⟩⟩⟩⟩⟩⟩⟩⟩⟩⟩⟩⟩⟩⟩⟩⟩⟩⟩⟩⟩⟩⟩⟩⟩⟩⟩⟩⟩⟩⟩⟩⟩⟩
set_option maxRecDepth 20000 in
theorem KCX2_ok : ∀ t ∈ KCX2, Cond.constantLong RX2 t.1 t.2 ∈ TS := List.forall_mem_cons.mpr ⟨mT 852 rfl rfl, List.forall_mem_cons.mpr ⟨mT 854 rfl rfl, List.forall_mem_cons.mpr ⟨mT 863 rfl rfl, List.forall_mem_cons.mpr ⟨mT 881 rfl rfl, List.forall_mem_cons.mpr ⟨mT 891 rfl rfl, List.forall_mem_cons.mpr ⟨mT 922 rfl rfl, List.forall_mem_cons.mpr ⟨mT 923 rfl rfl, List.forall_mem_cons.mpr ⟨mT 957 rfl rfl, List.forall_mem_cons.mpr ⟨mT 974 rfl rfl, fun _ h => (List.not_mem_nil h).elim⟩⟩⟩⟩⟩⟩⟩⟩⟩
def FTX3 : List (Nat × Nat × Nat) := [(14, 4, 3), (20, 4, 0), (24, 4, 1), (28, 4, 2)]
def MLX3 : List (Bool × Nat × Nat × Nat) := [(false, 32, 4, 1), (false, 37, 87, 2), (true, 44, 97, 1), (false, 48, 2, 2), (false, 51, 9, 2), (false, 57, 86, 2), (false, 60, 8, 2), (false, 63, 61, 2), (false, 66, 59, 1), (false, 70, 83, 1), (false, 74, 84, 2), (false, 78, 85, 3), (false, 82, 60, 2), (true, 85, 96, 1), (true, 88, 101, 1), (false, 92, 62, 2), (false, 95, 90, 2), (false, 101, 91, 3), (true, 105, 0, 1001)]
def KCX3 : List (Nat × Int64) := [(42, -1), (110, 1000000000), (112, 10)]
set_option maxRecDepth 20000 in
theorem FTX3_ok : ∀ t ∈ FTX3, p_fok cls TS RX3 t.1 t.2.1 t.2.2 := List.forall_mem_cons.mpr ⟨⟨RX3, TX3, 4, tyX3, kdX3, by decide, mT 420 rfl rfl⟩, List.forall_mem_cons.mpr ⟨⟨RX3, TX3, 4, tyX3, kdX3, by decide, mT 417 rfl rfl⟩, List.forall_mem_cons.mpr ⟨⟨RX3, TX3, 4, tyX3, kdX3, by decide, mT 418 rfl rfl⟩, List.forall_mem_cons.mpr ⟨⟨RX3, TX3, 4, tyX3, kdX3, by decide, mT 419 rfl rfl⟩, fun _ h => (List.not_mem_nil h).elim⟩⟩⟩⟩
set_option maxRecDepth 20000 in
theorem MLX3_ok : ∀ t ∈ MLX3, p_cx cls TS MT RX3 t.1 t.2.1 t.2.2.1 t.2.2.2 := List.forall_mem_cons.mpr ⟨caX0_clear.ok (mT 544 rfl rfl), List.forall_mem_cons.mpr ⟨caX6_cut.ok (mT 548 rfl rfl), List.forall_mem_cons.mpr ⟨caX8_isCell.okS (by decide) (by decide) (mT 553 rfl rfl), List.forall_mem_cons.mpr ⟨caX0_add.ok (mT 558 rfl rfl), List.forall_mem_cons.mpr ⟨caX1_tail.ok (mT 559 rfl rfl), List.forall_mem_cons.mpr ⟨caX6_add.ok (mT 564 rfl rfl), List.forall_mem_cons.mpr ⟨caX1_head.ok (mT 565 rfl rfl), List.forall_mem_cons.mpr ⟨caX3_printAtom.ok (mT 569 rfl rfl), List.forall_mem_cons.mpr ⟨caX3_nextElement.ok (mT 598 rfl rfl), List.forall_mem_cons.mpr ⟨caX6_size.ok (mT 602 rfl rfl), List.forall_mem_cons.mpr ⟨caX6_at.ok (mT 603 rfl rfl), List.forall_mem_cons.mpr ⟨caX6_put.ok (mT 604 rfl rfl), List.forall_mem_cons.mpr ⟨caX3_closeList.ok (mT 608 rfl rfl), List.forall_mem_cons.mpr ⟨caX8_isNumber.okS (by decide) (by decide) (mT 573 rfl rfl), List.forall_mem_cons.mpr ⟨caX8_number.okS (by decide) (by decide) (mT 577 rfl rfl), List.forall_mem_cons.mpr ⟨caX3_printNumber.ok (mT 580 rfl rfl), List.forall_mem_cons.mpr ⟨caX7_lengthOf.ok (mT 589 rfl rfl), List.forall_mem_cons.mpr ⟨caX7_signOf.ok (mT 593 rfl rfl), List.forall_mem_cons.mpr ⟨(show p_mw _ _ _ _ _ from ⟨mT 584 rfl rfl, mT 585 rfl rfl, mT 119 rfl rfl, mT 586 rfl rfl⟩), fun _ h => (List.not_mem_nil h).elim⟩⟩⟩⟩⟩⟩⟩⟩⟩⟩⟩⟩⟩⟩⟩⟩⟩⟩⟩
set_option maxRecDepth 20000 in
theorem KCX3_ok : ∀ t ∈ KCX3, Cond.constantLong RX3 t.1 t.2 ∈ TS := List.forall_mem_cons.mpr ⟨mT 552 rfl rfl, List.forall_mem_cons.mpr ⟨mT 587 rfl rfl, List.forall_mem_cons.mpr ⟨mT 588 rfl rfl, fun _ h => (List.not_mem_nil h).elim⟩⟩⟩
def FTX4 : List (Nat × Nat × Nat) := [(9, 5, 4), (15, 5, 5), (18, 5, 10), (22, 5, 0), (26, 5, 1), (30, 5, 2), (34, 5, 3), (38, 5, 9), (41, 5, 6), (44, 5, 7), (47, 5, 8), (50, 5, 11), (54, 5, 12)]
def MLX4 : List (Bool × Nat × Nat × Nat) := [(false, 58, 1, 2), (true, 63, 80, 1), (true, 67, 81, 1), (false, 70, 68, 3), (false, 74, 77, 1), (false, 78, 69, 1), (false, 81, 87, 2), (false, 87, 73, 2), (false, 90, 75, 1), (false, 93, 74, 1), (false, 96, 76, 2), (false, 99, 70, 1), (false, 102, 72, 1), (false, 106, 83, 1), (false, 109, 71, 2), (false, 112, 84, 2), (false, 119, 10, 3), (false, 125, 79, 3), (true, 129, 82, 1), (false, 132, 78, 1), (false, 136, 92, 4), (true, 154, 98, 1), (false, 159, 86, 2)]
def KCX4 : List (Nat × Int64) := [(117, -1), (142, 2147483648), (144, 10), (146, 48), (150, -2147483648), (152, 2147483647), (157, 2)]
set_option maxRecDepth 20000 in
theorem FTX4_ok : ∀ t ∈ FTX4, p_fok cls TS RX4 t.1 t.2.1 t.2.2 := List.forall_mem_cons.mpr ⟨⟨RX4, TX4, 13, tyX4, kdX4, by decide, mT 325 rfl rfl⟩, List.forall_mem_cons.mpr ⟨⟨RX4, TX4, 13, tyX4, kdX4, by decide, mT 326 rfl rfl⟩, List.forall_mem_cons.mpr ⟨⟨RX4, TX4, 13, tyX4, kdX4, by decide, mT 331 rfl rfl⟩, List.forall_mem_cons.mpr ⟨⟨RX4, TX4, 13, tyX4, kdX4, by decide, mT 321 rfl rfl⟩, List.forall_mem_cons.mpr ⟨⟨RX4, TX4, 13, tyX4, kdX4, by decide, mT 322 rfl rfl⟩, List.forall_mem_cons.mpr ⟨⟨RX4, TX4, 13, tyX4, kdX4, by decide, mT 323 rfl rfl⟩, List.forall_mem_cons.mpr ⟨⟨RX4, TX4, 13, tyX4, kdX4, by decide, mT 324 rfl rfl⟩, List.forall_mem_cons.mpr ⟨⟨RX4, TX4, 13, tyX4, kdX4, by decide, mT 330 rfl rfl⟩, List.forall_mem_cons.mpr ⟨⟨RX4, TX4, 13, tyX4, kdX4, by decide, mT 327 rfl rfl⟩, List.forall_mem_cons.mpr ⟨⟨RX4, TX4, 13, tyX4, kdX4, by decide, mT 328 rfl rfl⟩, List.forall_mem_cons.mpr ⟨⟨RX4, TX4, 13, tyX4, kdX4, by decide, mT 329 rfl rfl⟩, List.forall_mem_cons.mpr ⟨⟨RX4, TX4, 13, tyX4, kdX4, by decide, mT 332 rfl rfl⟩, List.forall_mem_cons.mpr ⟨⟨RX4, TX4, 13, tyX4, kdX4, by decide, mT 333 rfl rfl⟩, fun _ h => (List.not_mem_nil h).elim⟩⟩⟩⟩⟩⟩⟩⟩⟩⟩⟩⟩⟩
set_option maxRecDepth 20000 in
theorem MLX4_ok : ∀ t ∈ MLX4, p_cx cls TS MT RX4 t.1 t.2.1 t.2.2.1 t.2.2.2 := List.forall_mem_cons.mpr ⟨caX0_at.ok (mT 699 rfl rfl), List.forall_mem_cons.mpr ⟨caX4_isBlank.okS (by decide) (by decide) (mT 700 rfl rfl), List.forall_mem_cons.mpr ⟨caX4_isLetter.okS (by decide) (by decide) (mT 703 rfl rfl), List.forall_mem_cons.mpr ⟨caX4_fail.ok (mT 706 rfl rfl), List.forall_mem_cons.mpr ⟨caX4_readSymbol.ok (mT 710 rfl rfl), List.forall_mem_cons.mpr ⟨caX4_readToken.ok (mT 730 rfl rfl), List.forall_mem_cons.mpr ⟨caX6_cut.ok (mT 760 rfl rfl), List.forall_mem_cons.mpr ⟨caX4_openOne.ok (mT 734 rfl rfl), List.forall_mem_cons.mpr ⟨caX4_closeList.ok (mT 747 rfl rfl), List.forall_mem_cons.mpr ⟨caX4_readDot.ok (mT 771 rfl rfl), List.forall_mem_cons.mpr ⟨caX4_readAtom.ok (mT 775 rfl rfl), List.forall_mem_cons.mpr ⟨caX4_state.ok (mT 742 rfl rfl), List.forall_mem_cons.mpr ⟨caX4_mayBegin.ok (mT 738 rfl rfl), List.forall_mem_cons.mpr ⟨caX6_size.ok (mT 746 rfl rfl), List.forall_mem_cons.mpr ⟨caX4_setState.ok (mT 767 rfl rfl), List.forall_mem_cons.mpr ⟨caX6_at.ok (mT 751 rfl rfl), List.forall_mem_cons.mpr ⟨caX1_make.ok (mT 753 rfl rfl), List.forall_mem_cons.mpr ⟨caX4_complete.ok (mT 761 rfl rfl), List.forall_mem_cons.mpr ⟨caX4_isDigit.okS (by decide) (by decide) (mT 714 rfl rfl), List.forall_mem_cons.mpr ⟨caX4_readNumber.ok (mT 779 rfl rfl), List.forall_mem_cons.mpr ⟨caX7_named.ok (mT 717 rfl rfl), List.forall_mem_cons.mpr ⟨caX8_ofNumber.okS (by decide) (by decide) (mT 788 rfl rfl), List.forall_mem_cons.mpr ⟨caX6_add.ok (mT 766 rfl rfl), fun _ h => (List.not_mem_nil h).elim⟩⟩⟩⟩⟩⟩⟩⟩⟩⟩⟩⟩⟩⟩⟩⟩⟩⟩⟩⟩⟩⟩⟩
set_option maxRecDepth 20000 in
theorem KCX4_ok : ∀ t ∈ KCX4, Cond.constantLong RX4 t.1 t.2 ∈ TS := List.forall_mem_cons.mpr ⟨mT 752 rfl rfl, List.forall_mem_cons.mpr ⟨mT 783 rfl rfl, List.forall_mem_cons.mpr ⟨mT 784 rfl rfl, List.forall_mem_cons.mpr ⟨mT 785 rfl rfl, List.forall_mem_cons.mpr ⟨mT 786 rfl rfl, List.forall_mem_cons.mpr ⟨mT 787 rfl rfl, List.forall_mem_cons.mpr ⟨mT 765 rfl rfl, fun _ h => (List.not_mem_nil h).elim⟩⟩⟩⟩⟩⟩⟩
def FTX6 : List (Nat × Nat × Nat) := [(7, 7, 0), (13, 7, 1)]
def MLX6 : List (Bool × Nat × Nat × Nat) := []
def KCX6 : List (Nat × Int64) := [(19, -1)]
set_option maxRecDepth 20000 in
theorem FTX6_ok : ∀ t ∈ FTX6, p_fok cls TS RX6 t.1 t.2.1 t.2.2 := List.forall_mem_cons.mpr ⟨⟨RX6, TX6, 2, tyX6, kdX6, by decide, mT 140 rfl rfl⟩, List.forall_mem_cons.mpr ⟨⟨RX6, TX6, 2, tyX6, kdX6, by decide, mT 141 rfl rfl⟩, fun _ h => (List.not_mem_nil h).elim⟩⟩
set_option maxRecDepth 20000 in
theorem MLX6_ok : ∀ t ∈ MLX6, p_cx cls TS MT RX6 t.1 t.2.1 t.2.2.1 t.2.2.2 := fun _ h => (List.not_mem_nil h).elim
set_option maxRecDepth 20000 in
theorem KCX6_ok : ∀ t ∈ KCX6, Cond.constantLong RX6 t.1 t.2 ∈ TS := List.forall_mem_cons.mpr ⟨mT 509 rfl rfl, fun _ h => (List.not_mem_nil h).elim⟩
def FTX7 : List (Nat × Nat × Nat) := [(9, 8, 0), (15, 8, 1), (19, 8, 2)]
def MLX7 : List (Bool × Nat × Nat × Nat) := [(false, 35, 94, 2), (false, 39, 90, 2), (false, 43, 93, 4), (false, 47, 1, 2)]
def KCX7 : List (Nat × Int64) := []
set_option maxRecDepth 20000 in
theorem FTX7_ok : ∀ t ∈ FTX7, p_fok cls TS RX7 t.1 t.2.1 t.2.2 := List.forall_mem_cons.mpr ⟨⟨RX7, TX7, 3, tyX7, kdX7, by decide, mT 260 rfl rfl⟩, List.forall_mem_cons.mpr ⟨⟨RX7, TX7, 3, tyX7, kdX7, by decide, mT 261 rfl rfl⟩, List.forall_mem_cons.mpr ⟨⟨RX7, TX7, 3, tyX7, kdX7, by decide, mT 262 rfl rfl⟩, fun _ h => (List.not_mem_nil h).elim⟩⟩⟩
set_option maxRecDepth 20000 in
theorem MLX7_ok : ∀ t ∈ MLX7, p_cx cls TS MT RX7 t.1 t.2.1 t.2.2.1 t.2.2.2 := List.forall_mem_cons.mpr ⟨caX7_addSign.ok (mT 256 rfl rfl), List.forall_mem_cons.mpr ⟨caX7_lengthOf.ok (mT 597 rfl rfl), List.forall_mem_cons.mpr ⟨caX7_isNamed.ok (mT 721 rfl rfl), List.forall_mem_cons.mpr ⟨caX0_at.ok (mT 725 rfl rfl), fun _ h => (List.not_mem_nil h).elim⟩⟩⟩⟩
set_option maxRecDepth 20000 in
theorem KCX7_ok : ∀ t ∈ KCX7, Cond.constantLong RX7 t.1 t.2 ∈ TS := fun _ h => (List.not_mem_nil h).elim
def FTX8 : List (Nat × Nat × Nat) := []
def MLX8 : List (Bool × Nat × Nat × Nat) := []
def KCX8 : List (Nat × Int64) := [(9, 300), (13, 4294967296), (15, 8589934592), (17, 8589936592), (19, 4294967295)]
set_option maxRecDepth 20000 in
theorem FTX8_ok : ∀ t ∈ FTX8, p_fok cls TS RX8 t.1 t.2.1 t.2.2 := fun _ h => (List.not_mem_nil h).elim
set_option maxRecDepth 20000 in
theorem MLX8_ok : ∀ t ∈ MLX8, p_cx cls TS MT RX8 t.1 t.2.1 t.2.2.1 t.2.2.2 := fun _ h => (List.not_mem_nil h).elim
set_option maxRecDepth 20000 in
theorem KCX8_ok : ∀ t ∈ KCX8, Cond.constantLong RX8 t.1 t.2 ∈ TS := List.forall_mem_cons.mpr ⟨mT 833 rfl rfl, List.forall_mem_cons.mpr ⟨mT 576 rfl rfl, List.forall_mem_cons.mpr ⟨mT 556 rfl rfl, List.forall_mem_cons.mpr ⟨mT 557 rfl rfl, List.forall_mem_cons.mpr ⟨mT 791 rfl rfl, fun _ h => (List.not_mem_nil h).elim⟩⟩⟩⟩⟩
def FTX9 : List (Nat × Nat × Nat) := [(13, 9, 0), (19, 9, 1), (25, 9, 2), (33, 9, 3), (39, 9, 4), (51, 9, 5), (60, 9, 6), (69, 9, 7)]
def MLX9 : List (Bool × Nat × Nat × Nat) := [(false, 73, 0, 1), (false, 77, 3, 2), (false, 84, 65, 2), (false, 87, 66, 1), (false, 90, 67, 1), (false, 94, 4, 1), (false, 97, 63, 1), (false, 100, 85, 3), (false, 106, 20, 1), (false, 109, 21, 3), (false, 113, 16, 1), (false, 114, 17, 1), (false, 117, 58, 2), (false, 121, 64, 1), (false, 124, 11, 1), (false, 127, 7, 2), (false, 130, 89, 1), (false, 131, 18, 1), (false, 134, 19, 1), (false, 137, 5, 1), (false, 140, 6, 1), (false, 143, 88, 1), (false, 146, 84, 2), (false, 154, 1, 2)]
def KCX9 : List (Nat × Int64) := [(152, -1)]
set_option maxRecDepth 20000 in
theorem FTX9_ok : ∀ t ∈ FTX9, p_fok cls TS RX9 t.1 t.2.1 t.2.2 := List.forall_mem_cons.mpr ⟨⟨RX9, TX9, 8, tyX9, kdX9, by decide, mT 430 rfl rfl⟩, List.forall_mem_cons.mpr ⟨⟨RX9, TX9, 8, tyX9, kdX9, by decide, mT 431 rfl rfl⟩, List.forall_mem_cons.mpr ⟨⟨RX9, TX9, 8, tyX9, kdX9, by decide, mT 432 rfl rfl⟩, List.forall_mem_cons.mpr ⟨⟨RX9, TX9, 8, tyX9, kdX9, by decide, mT 433 rfl rfl⟩, List.forall_mem_cons.mpr ⟨⟨RX9, TX9, 8, tyX9, kdX9, by decide, mT 434 rfl rfl⟩, List.forall_mem_cons.mpr ⟨⟨RX9, TX9, 8, tyX9, kdX9, by decide, mT 435 rfl rfl⟩, List.forall_mem_cons.mpr ⟨⟨RX9, TX9, 8, tyX9, kdX9, by decide, mT 436 rfl rfl⟩, List.forall_mem_cons.mpr ⟨⟨RX9, TX9, 8, tyX9, kdX9, by decide, mT 437 rfl rfl⟩, fun _ h => (List.not_mem_nil h).elim⟩⟩⟩⟩⟩⟩⟩⟩
set_option maxRecDepth 20000 in
theorem MLX9_ok : ∀ t ∈ MLX9, p_cx cls TS MT RX9 t.1 t.2.1 t.2.2.1 t.2.2.2 := List.forall_mem_cons.mpr ⟨caX0_size.ok (mT 459 rfl rfl), List.forall_mem_cons.mpr ⟨caX0_addNumber.ok (mT 463 rfl rfl), List.forall_mem_cons.mpr ⟨caX4_begin.ok (mT 691 rfl rfl), List.forall_mem_cons.mpr ⟨caX4_readName.ok (mT 695 rfl rfl), List.forall_mem_cons.mpr ⟨caX4_readWhole.ok (mT 726 rfl rfl), List.forall_mem_cons.mpr ⟨caX0_clear.ok (mT 792 rfl rfl), List.forall_mem_cons.mpr ⟨caX4_fault.ok (mT 793 rfl rfl), List.forall_mem_cons.mpr ⟨caX6_put.ok (mT 797 rfl rfl), List.forall_mem_cons.mpr ⟨caX2_forget.ok (mT 805 rfl rfl), List.forall_mem_cons.mpr ⟨caX2_run.ok (mT 809 rfl rfl), List.forall_mem_cons.mpr ⟨caX2_fault.ok (mT 987 rfl rfl), List.forall_mem_cons.mpr ⟨caX2_answer.ok (mT 991 rfl rfl), List.forall_mem_cons.mpr ⟨caX3_print.ok (mT 540 rfl rfl), List.forall_mem_cons.mpr ⟨caX4_faultPlace.ok (mT 475 rfl rfl), List.forall_mem_cons.mpr ⟨caX1_reachedByFunctions.ok (mT 487 rfl rfl), List.forall_mem_cons.mpr ⟨caX1_setLimit.ok (mT 1009 rfl rfl), List.forall_mem_cons.mpr ⟨caX7_size.ok (mT 483 rfl rfl), List.forall_mem_cons.mpr ⟨caX2_fuelTaken.ok (mT 514 rfl rfl), List.forall_mem_cons.mpr ⟨caX2_mostFrames.ok (mT 518 rfl rfl), List.forall_mem_cons.mpr ⟨caX1_made.ok (mT 522 rfl rfl), List.forall_mem_cons.mpr ⟨caX1_limit.ok (mT 526 rfl rfl), List.forall_mem_cons.mpr ⟨caX6_present.ok (mT 530 rfl rfl), List.forall_mem_cons.mpr ⟨caX6_at.ok (mT 538 rfl rfl), List.forall_mem_cons.mpr ⟨caX0_at.ok (mT 616 rfl rfl), fun _ h => (List.not_mem_nil h).elim⟩⟩⟩⟩⟩⟩⟩⟩⟩⟩⟩⟩⟩⟩⟩⟩⟩⟩⟩⟩⟩⟩⟩⟩
set_option maxRecDepth 20000 in
theorem KCX9_ok : ∀ t ∈ KCX9, Cond.constantLong RX9 t.1 t.2 ∈ TS := List.forall_mem_cons.mpr ⟨mT 539 rfl rfl, fun _ h => (List.not_mem_nil h).elim⟩
def FTX10 : List (Nat × Nat × Nat) := [(7, 10, 1), (13, 10, 2), (16, 10, 3), (20, 10, 4), (31, 10, 7), (34, 10, 9), (37, 10, 10), (40, 10, 11), (43, 10, 12), (46, 10, 17), (50, 10, 19), (54, 10, 23), (57, 10, 24), (60, 10, 26), (63, 10, 27), (68, 10, 29), (72, 10, 30), (75, 10, 31), (78, 10, 32), (81, 10, 33), (84, 10, 35), (87, 10, 36), (90, 10, 37), (93, 10, 38), (96, 10, 39), (99, 10, 40), (102, 10, 45), (105, 10, 47), (120, 10, 5), (123, 10, 0), (130, 10, 8), (137, 10, 14), (140, 10, 13), (153, 10, 25), (156, 10, 34), (159, 10, 41), (162, 10, 15), (165, 10, 16), (176, 10, 18), (186, 10, 21), (189, 10, 22), (219, 10, 28), (252, 10, 44), (255, 10, 43), (261, 10, 42), (319, 10, 46), (329, 10, 20), (345, 10, 6)]
def MLX10 : List (Bool × Nat × Nat × Nat) := [(true, 133, 114, 1), (false, 143, 117, 2), (false, 147, 118, 1), (false, 150, 119, 1), (false, 168, 120, 4), (false, 172, 116, 2), (false, 179, 123, 2), (false, 183, 122, 2), (false, 192, 126, 2), (true, 196, 128, 1), (true, 200, 129, 1), (false, 203, 127, 3), (false, 222, 130, 1), (false, 225, 137, 1), (false, 229, 134, 1), (false, 233, 133, 1), (false, 236, 131, 1), (false, 239, 132, 1), (false, 242, 136, 3), (false, 246, 121, 4), (false, 258, 139, 1), (true, 264, 113, 1), (true, 269, 112, 1), (false, 272, 140, 2), (false, 275, 124, 2), (false, 280, 141, 4), (true, 288, 115, 1), (false, 292, 149, 2), (false, 297, 146, 1), (false, 302, 125, 2), (false, 305, 145, 2), (false, 308, 147, 2), (false, 311, 148, 2), (false, 315, 150, 4), (false, 322, 151, 2), (false, 326, 152, 2), (false, 332, 138, 1), (false, 335, 135, 1), (false, 338, 155, 3), (false, 342, 156, 1), (false, 348, 157, 2), (false, 351, 153, 2), (false, 354, 142, 1), (false, 357, 143, 1), (false, 360, 144, 1), (false, 363, 162, 1)]
def KCX10 : List (Nat × Int64) := [(66, -1), (126, 1097364144128), (128, 2400), (207, 3000000000), (209, 10), (211, 48), (213, -2147483648), (215, 2147483647), (217, 1099511627776), (250, -3), (267, -2), (278, -4), (284, -5), (286, -8), (295, -6), (300, -7)]
set_option maxRecDepth 20000 in
theorem FTX10_ok : ∀ t ∈ FTX10, p_fok cls TS RX10 t.1 t.2.1 t.2.2 := List.forall_mem_cons.mpr ⟨⟨RX10, TX10, 48, tyX10, kdX10, by decide, mT 1048 rfl rfl⟩, List.forall_mem_cons.mpr ⟨⟨RX10, TX10, 48, tyX10, kdX10, by decide, mT 1049 rfl rfl⟩, List.forall_mem_cons.mpr ⟨⟨RX10, TX10, 48, tyX10, kdX10, by decide, mT 1050 rfl rfl⟩, List.forall_mem_cons.mpr ⟨⟨RX10, TX10, 48, tyX10, kdX10, by decide, mT 1051 rfl rfl⟩, List.forall_mem_cons.mpr ⟨⟨RX10, TX10, 48, tyX10, kdX10, by decide, mT 1054 rfl rfl⟩, List.forall_mem_cons.mpr ⟨⟨RX10, TX10, 48, tyX10, kdX10, by decide, mT 1056 rfl rfl⟩, List.forall_mem_cons.mpr ⟨⟨RX10, TX10, 48, tyX10, kdX10, by decide, mT 1057 rfl rfl⟩, List.forall_mem_cons.mpr ⟨⟨RX10, TX10, 48, tyX10, kdX10, by decide, mT 1058 rfl rfl⟩, List.forall_mem_cons.mpr ⟨⟨RX10, TX10, 48, tyX10, kdX10, by decide, mT 1059 rfl rfl⟩, List.forall_mem_cons.mpr ⟨⟨RX10, TX10, 48, tyX10, kdX10, by decide, mT 1064 rfl rfl⟩, List.forall_mem_cons.mpr ⟨⟨RX10, TX10, 48, tyX10, kdX10, by decide, mT 1066 rfl rfl⟩, List.forall_mem_cons.mpr ⟨⟨RX10, TX10, 48, tyX10, kdX10, by decide, mT 1070 rfl rfl⟩, List.forall_mem_cons.mpr ⟨⟨RX10, TX10, 48, tyX10, kdX10, by decide, mT 1071 rfl rfl⟩, List.forall_mem_cons.mpr ⟨⟨RX10, TX10, 48, tyX10, kdX10, by decide, mT 1073 rfl rfl⟩, List.forall_mem_cons.mpr ⟨⟨RX10, TX10, 48, tyX10, kdX10, by decide, mT 1074 rfl rfl⟩, List.forall_mem_cons.mpr ⟨⟨RX10, TX10, 48, tyX10, kdX10, by decide, mT 1076 rfl rfl⟩, List.forall_mem_cons.mpr ⟨⟨RX10, TX10, 48, tyX10, kdX10, by decide, mT 1077 rfl rfl⟩, List.forall_mem_cons.mpr ⟨⟨RX10, TX10, 48, tyX10, kdX10, by decide, mT 1078 rfl rfl⟩, List.forall_mem_cons.mpr ⟨⟨RX10, TX10, 48, tyX10, kdX10, by decide, mT 1079 rfl rfl⟩, List.forall_mem_cons.mpr ⟨⟨RX10, TX10, 48, tyX10, kdX10, by decide, mT 1080 rfl rfl⟩, List.forall_mem_cons.mpr ⟨⟨RX10, TX10, 48, tyX10, kdX10, by decide, mT 1082 rfl rfl⟩, List.forall_mem_cons.mpr ⟨⟨RX10, TX10, 48, tyX10, kdX10, by decide, mT 1083 rfl rfl⟩, List.forall_mem_cons.mpr ⟨⟨RX10, TX10, 48, tyX10, kdX10, by decide, mT 1084 rfl rfl⟩, List.forall_mem_cons.mpr ⟨⟨RX10, TX10, 48, tyX10, kdX10, by decide, mT 1085 rfl rfl⟩, List.forall_mem_cons.mpr ⟨⟨RX10, TX10, 48, tyX10, kdX10, by decide, mT 1086 rfl rfl⟩, List.forall_mem_cons.mpr ⟨⟨RX10, TX10, 48, tyX10, kdX10, by decide, mT 1087 rfl rfl⟩, List.forall_mem_cons.mpr ⟨⟨RX10, TX10, 48, tyX10, kdX10, by decide, mT 1092 rfl rfl⟩, List.forall_mem_cons.mpr ⟨⟨RX10, TX10, 48, tyX10, kdX10, by decide, mT 1094 rfl rfl⟩, List.forall_mem_cons.mpr ⟨⟨RX10, TX10, 48, tyX10, kdX10, by decide, mT 1052 rfl rfl⟩, List.forall_mem_cons.mpr ⟨⟨RX10, TX10, 48, tyX10, kdX10, by decide, mT 1047 rfl rfl⟩, List.forall_mem_cons.mpr ⟨⟨RX10, TX10, 48, tyX10, kdX10, by decide, mT 1055 rfl rfl⟩, List.forall_mem_cons.mpr ⟨⟨RX10, TX10, 48, tyX10, kdX10, by decide, mT 1061 rfl rfl⟩, List.forall_mem_cons.mpr ⟨⟨RX10, TX10, 48, tyX10, kdX10, by decide, mT 1060 rfl rfl⟩, List.forall_mem_cons.mpr ⟨⟨RX10, TX10, 48, tyX10, kdX10, by decide, mT 1072 rfl rfl⟩, List.forall_mem_cons.mpr ⟨⟨RX10, TX10, 48, tyX10, kdX10, by decide, mT 1081 rfl rfl⟩, List.forall_mem_cons.mpr ⟨⟨RX10, TX10, 48, tyX10, kdX10, by decide, mT 1088 rfl rfl⟩, List.forall_mem_cons.mpr ⟨⟨RX10, TX10, 48, tyX10, kdX10, by decide, mT 1062 rfl rfl⟩, List.forall_mem_cons.mpr ⟨⟨RX10, TX10, 48, tyX10, kdX10, by decide, mT 1063 rfl rfl⟩, List.forall_mem_cons.mpr ⟨⟨RX10, TX10, 48, tyX10, kdX10, by decide, mT 1065 rfl rfl⟩, List.forall_mem_cons.mpr ⟨⟨RX10, TX10, 48, tyX10, kdX10, by decide, mT 1068 rfl rfl⟩, List.forall_mem_cons.mpr ⟨⟨RX10, TX10, 48, tyX10, kdX10, by decide, mT 1069 rfl rfl⟩, List.forall_mem_cons.mpr ⟨⟨RX10, TX10, 48, tyX10, kdX10, by decide, mT 1075 rfl rfl⟩, List.forall_mem_cons.mpr ⟨⟨RX10, TX10, 48, tyX10, kdX10, by decide, mT 1091 rfl rfl⟩, List.forall_mem_cons.mpr ⟨⟨RX10, TX10, 48, tyX10, kdX10, by decide, mT 1090 rfl rfl⟩, List.forall_mem_cons.mpr ⟨⟨RX10, TX10, 48, tyX10, kdX10, by decide, mT 1089 rfl rfl⟩, List.forall_mem_cons.mpr ⟨⟨RX10, TX10, 48, tyX10, kdX10, by decide, mT 1093 rfl rfl⟩, List.forall_mem_cons.mpr ⟨⟨RX10, TX10, 48, tyX10, kdX10, by decide, mT 1067 rfl rfl⟩, List.forall_mem_cons.mpr ⟨⟨RX10, TX10, 48, tyX10, kdX10, by decide, mT 1053 rfl rfl⟩, fun _ h => (List.not_mem_nil h).elim⟩⟩⟩⟩⟩⟩⟩⟩⟩⟩⟩⟩⟩⟩⟩⟩⟩⟩⟩⟩⟩⟩⟩⟩⟩⟩⟩⟩⟩⟩⟩⟩⟩⟩⟩⟩⟩⟩⟩⟩⟩⟩⟩⟩⟩⟩⟩⟩
set_option maxRecDepth 20000 in
theorem MLX10_ok : ∀ t ∈ MLX10, p_cx cls TS MT RX10 t.1 t.2.1 t.2.2.1 t.2.2.2 := List.forall_mem_cons.mpr ⟨caX10_isCell.okS (by decide) (by decide) (mT 1269 rfl rfl), List.forall_mem_cons.mpr ⟨caX10_visit.ok (mT 1265 rfl rfl), List.forall_mem_cons.mpr ⟨caX10_walks.ok (mT 1273 rfl rfl), List.forall_mem_cons.mpr ⟨caX10_reachFunctions.ok (mT 1261 rfl rfl), List.forall_mem_cons.mpr ⟨caX10_reach.ok (mT 1257 rfl rfl), List.forall_mem_cons.mpr ⟨caX10_fails.ok (mT 1227 rfl rfl), List.forall_mem_cons.mpr ⟨caX10_tailOf.ok (mT 1316 rfl rfl), List.forall_mem_cons.mpr ⟨caX10_headOf.ok (mT 1320 rfl rfl), List.forall_mem_cons.mpr ⟨caX10_byteAt.ok (mT 1216 rfl rfl), List.forall_mem_cons.mpr ⟨caX10_isCapital.okS (by decide) (by decide) (mT 1220 rfl rfl), List.forall_mem_cons.mpr ⟨caX10_isDigit.okS (by decide) (by decide) (mT 1235 rfl rfl), List.forall_mem_cons.mpr ⟨caX10_failsAt.ok (mT 1223 rfl rfl), List.forall_mem_cons.mpr ⟨caX10_blanks.ok (mT 1212 rfl rfl), List.forall_mem_cons.mpr ⟨caX10_closes.ok (mT 1249 rfl rfl), List.forall_mem_cons.mpr ⟨caX10_mayBegin.ok (mT 1277 rfl rfl), List.forall_mem_cons.mpr ⟨caX10_isAtom.ok (mT 1281 rfl rfl), List.forall_mem_cons.mpr ⟨caX10_symbol.ok (mT 1231 rfl rfl), List.forall_mem_cons.mpr ⟨caX10_number.ok (mT 1285 rfl rfl), List.forall_mem_cons.mpr ⟨caX10_quotes.ok (mT 1295 rfl rfl), List.forall_mem_cons.mpr ⟨caX10_cons.ok (mT 1253 rfl rfl), List.forall_mem_cons.mpr ⟨caX10_burn.ok (mT 1335 rfl rfl), List.forall_mem_cons.mpr ⟨caX10_isNumber.okS (by decide) (by decide) (mT 1343 rfl rfl), List.forall_mem_cons.mpr ⟨caX10_isSymbol.okS (by decide) (by decide) (mT 1328 rfl rfl), List.forall_mem_cons.mpr ⟨caX10_pairOf.ok (mT 1348 rfl rfl), List.forall_mem_cons.mpr ⟨caX10_second.ok (mT 1352 rfl rfl), List.forall_mem_cons.mpr ⟨caX10_frame.ok (mT 1357 rfl rfl), List.forall_mem_cons.mpr ⟨caX10_symbolOf.okS (by decide) (by decide) (mT 1238 rfl rfl), List.forall_mem_cons.mpr ⟨caX10_built.ok (mT 1371 rfl rfl), List.forall_mem_cons.mpr ⟨caX10_binds.ok (mT 1388 rfl rfl), List.forall_mem_cons.mpr ⟨caX10_third.ok (mT 1392 rfl rfl), List.forall_mem_cons.mpr ⟨caX10_variable.ok (mT 1396 rfl rfl), List.forall_mem_cons.mpr ⟨caX10_gives.ok (mT 1375 rfl rfl), List.forall_mem_cons.mpr ⟨caX10_says.ok (mT 1379 rfl rfl), List.forall_mem_cons.mpr ⟨caX10_counts.ok (mT 1383 rfl rfl), List.forall_mem_cons.mpr ⟨caX10_puts.ok (mT 1312 rfl rfl), List.forall_mem_cons.mpr ⟨caX10_atom.ok (mT 1324 rfl rfl), List.forall_mem_cons.mpr ⟨caX10_nothing.ok (mT 1208 rfl rfl), List.forall_mem_cons.mpr ⟨caX10_reads.ok (mT 1245 rfl rfl), List.forall_mem_cons.mpr ⟨caX10_begins.ok (mT 1204 rfl rfl), List.forall_mem_cons.mpr ⟨caX10_whole.ok (mT 1241 rfl rfl), List.forall_mem_cons.mpr ⟨caX10_failed.ok (mT 1300 rfl rfl), List.forall_mem_cons.mpr ⟨caX10_prints.ok (mT 1308 rfl rfl), List.forall_mem_cons.mpr ⟨caX10_evaluates.ok (mT 1339 rfl rfl), List.forall_mem_cons.mpr ⟨caX10_returns.ok (mT 1363 rfl rfl), List.forall_mem_cons.mpr ⟨caX10_applies.ok (mT 1367 rfl rfl), List.forall_mem_cons.mpr ⟨caX10_ofFunctions.ok (mT 1409 rfl rfl), fun _ h => (List.not_mem_nil h).elim⟩⟩⟩⟩⟩⟩⟩⟩⟩⟩⟩⟩⟩⟩⟩⟩⟩⟩⟩⟩⟩⟩⟩⟩⟩⟩⟩⟩⟩⟩⟩⟩⟩⟩⟩⟩⟩⟩⟩⟩⟩⟩⟩⟩⟩⟩
set_option maxRecDepth 20000 in
theorem KCX10_ok : ∀ t ∈ KCX10, Cond.constantLong RX10 t.1 t.2 ∈ TS := List.forall_mem_cons.mpr ⟨mT 1043 rfl rfl, List.forall_mem_cons.mpr ⟨mT 1346 rfl rfl, List.forall_mem_cons.mpr ⟨mT 1272 rfl rfl, List.forall_mem_cons.mpr ⟨mT 1289 rfl rfl, List.forall_mem_cons.mpr ⟨mT 1290 rfl rfl, List.forall_mem_cons.mpr ⟨mT 1291 rfl rfl, List.forall_mem_cons.mpr ⟨mT 1292 rfl rfl, List.forall_mem_cons.mpr ⟨mT 1293 rfl rfl, List.forall_mem_cons.mpr ⟨mT 1294 rfl rfl, List.forall_mem_cons.mpr ⟨mT 1299 rfl rfl, List.forall_mem_cons.mpr ⟨mT 1347 rfl rfl, List.forall_mem_cons.mpr ⟨mT 1356 rfl rfl, List.forall_mem_cons.mpr ⟨mT 1361 rfl rfl, List.forall_mem_cons.mpr ⟨mT 1362 rfl rfl, List.forall_mem_cons.mpr ⟨mT 1387 rfl rfl, List.forall_mem_cons.mpr ⟨mT 1400 rfl rfl, fun _ h => (List.not_mem_nil h).elim⟩⟩⟩⟩⟩⟩⟩⟩⟩⟩⟩⟩⟩⟩⟩⟩
end
section
/-! every method is checked -/
theorem p_hok1 {Ts : List Cond} {own XN : String} {bytes : ByteArray} {nL a b h ct p2 i : Nat} (h0 : ct ≠ 0) (h1 : Cond.classLink own ct XN ∈ Ts) (h3 : i < nL)
    (h4 : (∃ k : Fin 4, (k : Nat) = i ∧ decode bytes h = .ok (.astore_n k, 1) ∧ p2 = h + 1) ∨ (decode bytes h = .ok (.astore i, 2) ∧ p2 = h + 2)) : p_hok Ts own XN bytes nL [(a, b, h, ct)] (fun pc => if a ≤ pc ∧ pc < b then some (p2, i) else none) := by
  refine ⟨fun pc hn x hx => ?_, fun pc p2' i' hn => ?_⟩
  · obtain rfl : x = ⟨a, b, h, ct⟩ := List.mem_singleton.mp hx
    by_cases hc : a ≤ pc ∧ pc < b
    · simp [hc] at hn
    · simp only [covers]; simpa using hc
  · by_cases hc : a ≤ pc ∧ pc < b
    · simp only [hc, and_self, if_true, Option.some.injEq, Prod.mk.injEq] at hn
      obtain ⟨rfl, rfl⟩ := hn
      exact ⟨[], ⟨a, b, h, ct⟩, [], rfl, fun _ hz => (List.not_mem_nil hz).elim, by simp only [covers]; simpa using hc, h0, h1, h3, h4⟩
    · simp [hc] at hn
set_option maxRecDepth 20000 in
theorem mkX0_size : p_mok cls TS MT RJxb5711 qX0_size := p_ck_ok (F := FTX0) (Ml := MLX0) (Kc := KCX0) 5 (by decide +kernel) p_hok_nil FTX0_ok MLX0_ok KCX0_ok (fun pc h => if_neg h) (by decide +kernel)
set_option maxRecDepth 20000 in
theorem mkX0_at : p_mok cls TS MT RJxb5711 qX0_at := p_ck_ok (F := FTX0) (Ml := MLX0) (Kc := KCX0) 27 (by decide +kernel) p_hok_nil FTX0_ok MLX0_ok KCX0_ok (fun pc h => if_neg h) (by decide +kernel)
set_option maxRecDepth 20000 in
theorem mkX0_add : p_mok cls TS MT RJxb5711 qX0_add := p_ck_ok (F := FTX0) (Ml := MLX0) (Kc := KCX0) 34 (by decide +kernel) p_hok_nil FTX0_ok MLX0_ok KCX0_ok (fun pc h => if_neg h) (by decide +kernel)
set_option maxRecDepth 20000 in
theorem mkX0_addNumber : p_mok cls TS MT RJxb5711 qX0_addNumber := p_ck_ok (F := FTX0) (Ml := MLX0) (Kc := KCX0) 21 (by decide +kernel) p_hok_nil FTX0_ok MLX0_ok KCX0_ok (fun pc h => if_neg h) (by decide +kernel)
set_option maxRecDepth 20000 in
theorem mkX0_clear : p_mok cls TS MT RJxb5711 qX0_clear := p_ck_ok (F := FTX0) (Ml := MLX0) (Kc := KCX0) 6 (by decide +kernel) p_hok_nil FTX0_ok MLX0_ok KCX0_ok (fun pc h => if_neg h) (by decide +kernel)
set_option maxRecDepth 20000 in
theorem mkX1_made : p_mok cls TS MT RJxb5711 qX1_made := p_ck_ok (F := FTX1) (Ml := MLX1) (Kc := KCX1) 5 (by decide +kernel) p_hok_nil FTX1_ok MLX1_ok KCX1_ok (fun pc h => if_neg h) (by decide +kernel)
set_option maxRecDepth 20000 in
theorem mkX1_limit : p_mok cls TS MT RJxb5711 qX1_limit := p_ck_ok (F := FTX1) (Ml := MLX1) (Kc := KCX1) 5 (by decide +kernel) p_hok_nil FTX1_ok MLX1_ok KCX1_ok (fun pc h => if_neg h) (by decide +kernel)
set_option maxRecDepth 20000 in
theorem mkX1_setLimit : p_mok cls TS MT RJxb5711 qX1_setLimit := p_ck_ok (F := FTX1) (Ml := MLX1) (Kc := KCX1) 6 (by decide +kernel) p_hok_nil FTX1_ok MLX1_ok KCX1_ok (fun pc h => if_neg h) (by decide +kernel)
set_option maxRecDepth 20000 in
theorem mkX1_head : p_mok cls TS MT RJxb5711 qX1_head := p_ck_ok (F := FTX1) (Ml := MLX1) (Kc := KCX1) 34 (by decide +kernel) p_hok_nil FTX1_ok MLX1_ok KCX1_ok (fun pc h => if_neg h) (by decide +kernel)
set_option maxRecDepth 20000 in
theorem mkX1_tail : p_mok cls TS MT RJxb5711 qX1_tail := p_ck_ok (F := FTX1) (Ml := MLX1) (Kc := KCX1) 34 (by decide +kernel) p_hok_nil FTX1_ok MLX1_ok KCX1_ok (fun pc h => if_neg h) (by decide +kernel)
set_option maxRecDepth 20000 in
theorem mkX1_make : p_mok cls TS MT RJxb5711 qX1_make := p_ck_ok (F := FTX1) (Ml := MLX1) (Kc := KCX1) 121 (by decide +kernel) p_hok_nil FTX1_ok MLX1_ok KCX1_ok (fun pc h => if_neg h) (by decide +kernel)
set_option maxRecDepth 20000 in
theorem mkX1_reachedByFunctions : p_mok cls TS MT RJxb5711 qX1_reachedByFunctions := p_ck_ok (F := FTX1) (Ml := MLX1) (Kc := KCX1) 11 (by decide +kernel) p_hok_nil FTX1_ok MLX1_ok KCX1_ok (fun pc h => if_neg h) (by decide +kernel)
set_option maxRecDepth 20000 in
theorem mkX1_inUse : p_mok cls TS MT RJxb5711 qX1_inUse := p_ck_ok (F := FTX1) (Ml := MLX1) (Kc := KCX1) 9 (by decide +kernel) p_hok_nil FTX1_ok MLX1_ok KCX1_ok (fun pc h => if_neg h) (by decide +kernel)
set_option maxRecDepth 20000 in
theorem mkX1_collect : p_mok cls TS MT RJxb5711 qX1_collect := p_ck_ok (F := FTX1) (Ml := MLX1) (Kc := KCX1) 112 (by decide +kernel) p_hok_nil FTX1_ok MLX1_ok KCX1_ok (fun pc h => if_neg h) (by decide +kernel)
set_option maxRecDepth 20000 in
theorem mkX1_reach : p_mok cls TS MT RJxb5711 qX1_reach := p_ck_ok (F := FTX1) (Ml := MLX1) (Kc := KCX1) 136 (by decide +kernel) p_hok_nil FTX1_ok MLX1_ok KCX1_ok (fun pc h => if_neg h) (by decide +kernel)
set_option maxRecDepth 20000 in
theorem mkX1_takeBack : p_mok cls TS MT RJxb5711 qX1_takeBack := p_ck_ok (F := FTX1) (Ml := MLX1) (Kc := KCX1) 56 (by decide +kernel) p_hok_nil FTX1_ok MLX1_ok KCX1_ok (fun pc h => if_neg h) (by decide +kernel)
set_option maxRecDepth 20000 in
theorem mkX2_fault : p_mok cls TS MT RJxb5711 qX2_fault := p_ck_ok (F := FTX2) (Ml := MLX2) (Kc := KCX2) 5 (by decide +kernel) p_hok_nil FTX2_ok MLX2_ok KCX2_ok (fun pc h => if_neg h) (by decide +kernel)
set_option maxRecDepth 20000 in
theorem mkX2_answer : p_mok cls TS MT RJxb5711 qX2_answer := p_ck_ok (F := FTX2) (Ml := MLX2) (Kc := KCX2) 5 (by decide +kernel) p_hok_nil FTX2_ok MLX2_ok KCX2_ok (fun pc h => if_neg h) (by decide +kernel)
set_option maxRecDepth 20000 in
theorem mkX2_fuelTaken : p_mok cls TS MT RJxb5711 qX2_fuelTaken := p_ck_ok (F := FTX2) (Ml := MLX2) (Kc := KCX2) 5 (by decide +kernel) p_hok_nil FTX2_ok MLX2_ok KCX2_ok (fun pc h => if_neg h) (by decide +kernel)
set_option maxRecDepth 20000 in
theorem mkX2_mostFrames : p_mok cls TS MT RJxb5711 qX2_mostFrames := p_ck_ok (F := FTX2) (Ml := MLX2) (Kc := KCX2) 5 (by decide +kernel) p_hok_nil FTX2_ok MLX2_ok KCX2_ok (fun pc h => if_neg h) (by decide +kernel)
set_option maxRecDepth 20000 in
theorem mkX2_forget : p_mok cls TS MT RJxb5711 qX2_forget := p_ck_ok (F := FTX2) (Ml := MLX2) (Kc := KCX2) 16 (by decide +kernel) p_hok_nil FTX2_ok MLX2_ok KCX2_ok (fun pc h => if_neg h) (by decide +kernel)
set_option maxRecDepth 20000 in
theorem mkX2_run : p_mok cls TS MT RJxb5711 qX2_run := p_ck_ok (F := FTX2) (Ml := MLX2) (Kc := KCX2) 119 (by decide +kernel) p_hok_nil FTX2_ok MLX2_ok KCX2_ok (fun pc h => if_neg h) (by decide +kernel)
set_option maxRecDepth 20000 in
theorem mkX2_letGo : p_mok cls TS MT RJxb5711 qX2_letGo := p_ck_ok (F := FTX2) (Ml := MLX2) (Kc := KCX2) 34 (by decide +kernel) p_hok_nil FTX2_ok MLX2_ok KCX2_ok (fun pc h => if_neg h) (by decide +kernel)
set_option maxRecDepth 20000 in
theorem mkX2_emptyHand : p_mok cls TS MT RJxb5711 qX2_emptyHand := p_ck_ok (F := FTX2) (Ml := MLX2) (Kc := KCX2) 17 (by decide +kernel) p_hok_nil FTX2_ok MLX2_ok KCX2_ok (fun pc h => if_neg h) (by decide +kernel)
set_option maxRecDepth 20000 in
theorem mkX2_fail : p_mok cls TS MT RJxb5711 qX2_fail := p_ck_ok (F := FTX2) (Ml := MLX2) (Kc := KCX2) 18 (by decide +kernel) p_hok_nil FTX2_ok MLX2_ok KCX2_ok (fun pc h => if_neg h) (by decide +kernel)
set_option maxRecDepth 20000 in
theorem mkX2_burn : p_mok cls TS MT RJxb5711 qX2_burn := p_ck_ok (F := FTX2) (Ml := MLX2) (Kc := KCX2) 27 (by decide +kernel) p_hok_nil FTX2_ok MLX2_ok KCX2_ok (fun pc h => if_neg h) (by decide +kernel)
set_option maxRecDepth 20000 in
theorem mkX2_give : p_mok cls TS MT RJxb5711 qX2_give := p_ck_ok (F := FTX2) (Ml := MLX2) (Kc := KCX2) 22 (by decide +kernel) p_hok_nil FTX2_ok MLX2_ok KCX2_ok (fun pc h => if_neg h) (by decide +kernel)
set_option maxRecDepth 20000 in
theorem mkX2_evaluateNext : p_mok cls TS MT RJxb5711 qX2_evaluateNext := p_ck_ok (F := FTX2) (Ml := MLX2) (Kc := KCX2) 25 (by decide +kernel) p_hok_nil FTX2_ok MLX2_ok KCX2_ok (fun pc h => if_neg h) (by decide +kernel)
set_option maxRecDepth 20000 in
theorem mkX2_askHead : p_mok cls TS MT RJxb5711 qX2_askHead := p_ck_ok (F := FTX2) (Ml := MLX2) (Kc := KCX2) 23 (by decide +kernel) p_hok_nil FTX2_ok MLX2_ok KCX2_ok (fun pc h => if_neg h) (by decide +kernel)
set_option maxRecDepth 20000 in
theorem mkX2_askTail : p_mok cls TS MT RJxb5711 qX2_askTail := p_ck_ok (F := FTX2) (Ml := MLX2) (Kc := KCX2) 23 (by decide +kernel) p_hok_nil FTX2_ok MLX2_ok KCX2_ok (fun pc h => if_neg h) (by decide +kernel)
set_option maxRecDepth 20000 in
theorem mkX2_askSecond : p_mok cls TS MT RJxb5711 qX2_askSecond := p_ck_ok (F := FTX2) (Ml := MLX2) (Kc := KCX2) 10 (by decide +kernel) p_hok_nil FTX2_ok MLX2_ok KCX2_ok (fun pc h => if_neg h) (by decide +kernel)
set_option maxRecDepth 20000 in
theorem mkX2_askThird : p_mok cls TS MT RJxb5711 qX2_askThird := p_ck_ok (F := FTX2) (Ml := MLX2) (Kc := KCX2) 14 (by decide +kernel) p_hok_nil FTX2_ok MLX2_ok KCX2_ok (fun pc h => if_neg h) (by decide +kernel)
set_option maxRecDepth 20000 in
theorem mkX2_cons : p_mok cls TS MT RJxb5711 qX2_cons := p_ck_ok (F := FTX2) (Ml := MLX2) (Kc := KCX2) 38 (by decide +kernel) p_hok_nil FTX2_ok MLX2_ok KCX2_ok (fun pc h => if_neg h) (by decide +kernel)
set_option maxRecDepth 20000 in
theorem mkX2_lookUp : p_mok cls TS MT RJxb5711 qX2_lookUp := p_ck_ok (F := FTX2) (Ml := MLX2) (Kc := KCX2) 109 (by decide +kernel) p_hok_nil FTX2_ok MLX2_ok KCX2_ok (fun pc h => if_neg h) (by decide +kernel)
set_option maxRecDepth 20000 in
theorem mkX2_evaluate : p_mok cls TS MT RJxb5711 qX2_evaluate := p_ck_ok (F := FTX2) (Ml := MLX2) (Kc := KCX2) 107 (by decide +kernel) p_hok_nil FTX2_ok MLX2_ok KCX2_ok (fun pc h => if_neg h) (by decide +kernel)
set_option maxRecDepth 20000 in
theorem mkX2_evaluateAtom : p_mok cls TS MT RJxb5711 qX2_evaluateAtom := p_ck_ok (F := FTX2) (Ml := MLX2) (Kc := KCX2) 54 (by decide +kernel) p_hok_nil FTX2_ok MLX2_ok KCX2_ok (fun pc h => if_neg h) (by decide +kernel)
set_option maxRecDepth 20000 in
theorem mkX2_evaluateCond : p_mok cls TS MT RJxb5711 qX2_evaluateCond := p_ck_ok (F := FTX2) (Ml := MLX2) (Kc := KCX2) 39 (by decide +kernel) p_hok_nil FTX2_ok MLX2_ok KCX2_ok (fun pc h => if_neg h) (by decide +kernel)
set_option maxRecDepth 20000 in
theorem mkX2_evaluateFunction : p_mok cls TS MT RJxb5711 qX2_evaluateFunction := p_ck_ok (F := FTX2) (Ml := MLX2) (Kc := KCX2) 33 (by decide +kernel) p_hok_nil FTX2_ok MLX2_ok KCX2_ok (fun pc h => if_neg h) (by decide +kernel)
set_option maxRecDepth 20000 in
theorem mkX2_evaluateCall : p_mok cls TS MT RJxb5711 qX2_evaluateCall := p_ck_ok (F := FTX2) (Ml := MLX2) (Kc := KCX2) 56 (by decide +kernel) p_hok_nil FTX2_ok MLX2_ok KCX2_ok (fun pc h => if_neg h) (by decide +kernel)
set_option maxRecDepth 20000 in
theorem mkX2_pushFrame : p_mok cls TS MT RJxb5711 qX2_pushFrame := p_ck_ok (F := FTX2) (Ml := MLX2) (Kc := KCX2) 96 (by decide +kernel) p_hok_nil FTX2_ok MLX2_ok KCX2_ok (fun pc h => if_neg h) (by decide +kernel)
set_option maxRecDepth 20000 in
theorem mkX2_popFrame : p_mok cls TS MT RJxb5711 qX2_popFrame := p_ck_ok (F := FTX2) (Ml := MLX2) (Kc := KCX2) 19 (by decide +kernel) p_hok_nil FTX2_ok MLX2_ok KCX2_ok (fun pc h => if_neg h) (by decide +kernel)
set_option maxRecDepth 20000 in
theorem mkX2_takeValue : p_mok cls TS MT RJxb5711 qX2_takeValue := p_ck_ok (F := FTX2) (Ml := MLX2) (Kc := KCX2) 81 (by decide +kernel) p_hok_nil FTX2_ok MLX2_ok KCX2_ok (fun pc h => if_neg h) (by decide +kernel)
set_option maxRecDepth 20000 in
theorem mkX2_takeChoice : p_mok cls TS MT RJxb5711 qX2_takeChoice := p_ck_ok (F := FTX2) (Ml := MLX2) (Kc := KCX2) 93 (by decide +kernel) p_hok_nil FTX2_ok MLX2_ok KCX2_ok (fun pc h => if_neg h) (by decide +kernel)
set_option maxRecDepth 20000 in
theorem mkX2_takeArgument : p_mok cls TS MT RJxb5711 qX2_takeArgument := p_ck_ok (F := FTX2) (Ml := MLX2) (Kc := KCX2) 100 (by decide +kernel) p_hok_nil FTX2_ok MLX2_ok KCX2_ok (fun pc h => if_neg h) (by decide +kernel)
set_option maxRecDepth 20000 in
theorem mkX2_takeInHand : p_mok cls TS MT RJxb5711 qX2_takeInHand := p_ck_ok (F := FTX2) (Ml := MLX2) (Kc := KCX2) 66 (by decide +kernel) p_hok_nil FTX2_ok MLX2_ok KCX2_ok (fun pc h => if_neg h) (by decide +kernel)
set_option maxRecDepth 20000 in
theorem mkX2_isBuiltIn : p_mok cls TS MT RJxb5711 qX2_isBuiltIn := p_ck_ok (F := FTX2) (Ml := MLX2) (Kc := KCX2) 41 (by decide +kernel) p_hok_nil FTX2_ok MLX2_ok KCX2_ok (fun pc h => if_neg h) (by decide +kernel)
set_option maxRecDepth 20000 in
theorem mkX2_apply : p_mok cls TS MT RJxb5711 qX2_apply := p_ck_ok (F := FTX2) (Ml := MLX2) (Kc := KCX2) 98 (by decide +kernel) p_hok_nil FTX2_ok MLX2_ok KCX2_ok (fun pc h => if_neg h) (by decide +kernel)
set_option maxRecDepth 20000 in
theorem mkX2_applySymbol : p_mok cls TS MT RJxb5711 qX2_applySymbol := p_ck_ok (F := FTX2) (Ml := MLX2) (Kc := KCX2) 53 (by decide +kernel) p_hok_nil FTX2_ok MLX2_ok KCX2_ok (fun pc h => if_neg h) (by decide +kernel)
set_option maxRecDepth 20000 in
theorem mkX2_applyLambda : p_mok cls TS MT RJxb5711 qX2_applyLambda := p_ck_ok (F := FTX2) (Ml := MLX2) (Kc := KCX2) 125 (by decide +kernel) p_hok_nil FTX2_ok MLX2_ok KCX2_ok (fun pc h => if_neg h) (by decide +kernel)
set_option maxRecDepth 20000 in
theorem mkX2_lookAtVariables : p_mok cls TS MT RJxb5711 qX2_lookAtVariables := p_ck_ok (F := FTX2) (Ml := MLX2) (Kc := KCX2) 85 (by decide +kernel) p_hok_nil FTX2_ok MLX2_ok KCX2_ok (fun pc h => if_neg h) (by decide +kernel)
set_option maxRecDepth 20000 in
theorem mkX2_askVariable : p_mok cls TS MT RJxb5711 qX2_askVariable := p_ck_ok (F := FTX2) (Ml := MLX2) (Kc := KCX2) 25 (by decide +kernel) p_hok_nil FTX2_ok MLX2_ok KCX2_ok (fun pc h => if_neg h) (by decide +kernel)
set_option maxRecDepth 20000 in
theorem mkX2_applyLabel : p_mok cls TS MT RJxb5711 qX2_applyLabel := p_ck_ok (F := FTX2) (Ml := MLX2) (Kc := KCX2) 68 (by decide +kernel) p_hok_nil FTX2_ok MLX2_ok KCX2_ok (fun pc h => if_neg h) (by decide +kernel)
set_option maxRecDepth 20000 in
theorem mkX2_applyFunarg : p_mok cls TS MT RJxb5711 qX2_applyFunarg := p_ck_ok (F := FTX2) (Ml := MLX2) (Kc := KCX2) 38 (by decide +kernel) p_hok_nil FTX2_ok MLX2_ok KCX2_ok (fun pc h => if_neg h) (by decide +kernel)
set_option maxRecDepth 20000 in
theorem mkX2_applyBuiltIn : p_mok cls TS MT RJxb5711 qX2_applyBuiltIn := p_ck_ok (F := FTX2) (Ml := MLX2) (Kc := KCX2) 260 (by decide +kernel) p_hok_nil FTX2_ok MLX2_ok KCX2_ok (fun pc h => if_neg h) (by decide +kernel)
set_option maxRecDepth 20000 in
theorem mkX2_valuesWanted : p_mok cls TS MT RJxb5711 qX2_valuesWanted := p_ck_ok (F := FTX2) (Ml := MLX2) (Kc := KCX2) 56 (by decide +kernel) p_hok_nil FTX2_ok MLX2_ok KCX2_ok (fun pc h => if_neg h) (by decide +kernel)
set_option maxRecDepth 20000 in
theorem mkX2_givePart : p_mok cls TS MT RJxb5711 qX2_givePart := p_ck_ok (F := FTX2) (Ml := MLX2) (Kc := KCX2) 42 (by decide +kernel) p_hok_nil FTX2_ok MLX2_ok KCX2_ok (fun pc h => if_neg h) (by decide +kernel)
set_option maxRecDepth 20000 in
theorem mkX2_giveList : p_mok cls TS MT RJxb5711 qX2_giveList := p_ck_ok (F := FTX2) (Ml := MLX2) (Kc := KCX2) 42 (by decide +kernel) p_hok_nil FTX2_ok MLX2_ok KCX2_ok (fun pc h => if_neg h) (by decide +kernel)
set_option maxRecDepth 20000 in
theorem mkX2_giveReckoned : p_mok cls TS MT RJxb5711 qX2_giveReckoned := p_ck_ok (F := FTX2) (Ml := MLX2) (Kc := KCX2) 167 (by decide +kernel) p_hok_nil FTX2_ok MLX2_ok KCX2_ok (fun pc h => if_neg h) (by decide +kernel)
set_option maxRecDepth 20000 in
theorem mkX3_print : p_mok cls TS MT RJxb5711 qX3_print := p_ck_ok (F := FTX3) (Ml := MLX3) (Kc := KCX3) 96 (by decide +kernel) p_hok_nil FTX3_ok MLX3_ok KCX3_ok (fun pc h => if_neg h) (by decide +kernel)
set_option maxRecDepth 20000 in
theorem mkX3_nextElement : p_mok cls TS MT RJxb5711 qX3_nextElement := p_ck_ok (F := FTX3) (Ml := MLX3) (Kc := KCX3) 87 (by decide +kernel) p_hok_nil FTX3_ok MLX3_ok KCX3_ok (fun pc h => if_neg h) (by decide +kernel)
set_option maxRecDepth 20000 in
theorem mkX3_closeList : p_mok cls TS MT RJxb5711 qX3_closeList := p_ck_ok (F := FTX3) (Ml := MLX3) (Kc := KCX3) 48 (by decide +kernel) p_hok_nil FTX3_ok MLX3_ok KCX3_ok (fun pc h => if_neg h) (by decide +kernel)
set_option maxRecDepth 20000 in
theorem mkX3_printAtom : p_mok cls TS MT RJxb5711 qX3_printAtom := p_ck_ok (F := FTX3) (Ml := MLX3) (Kc := KCX3) 59 (by decide +kernel) p_hok_nil FTX3_ok MLX3_ok KCX3_ok (fun pc h => if_neg h) (by decide +kernel)
set_option maxRecDepth 20000 in
theorem mkX3_printNumber : p_mok cls TS MT RJxb5711 qX3_printNumber := p_ck_ok (F := FTX3) (Ml := MLX3) (Kc := KCX3) 76 (by decide +kernel) p_hok_nil FTX3_ok MLX3_ok KCX3_ok (fun pc h => if_neg h) (by decide +kernel)
set_option maxRecDepth 20000 in
theorem mkX4_fault : p_mok cls TS MT RJxb5711 qX4_fault := p_ck_ok (F := FTX4) (Ml := MLX4) (Kc := KCX4) 5 (by decide +kernel) p_hok_nil FTX4_ok MLX4_ok KCX4_ok (fun pc h => if_neg h) (by decide +kernel)
set_option maxRecDepth 20000 in
theorem mkX4_faultPlace : p_mok cls TS MT RJxb5711 qX4_faultPlace := p_ck_ok (F := FTX4) (Ml := MLX4) (Kc := KCX4) 5 (by decide +kernel) p_hok_nil FTX4_ok MLX4_ok KCX4_ok (fun pc h => if_neg h) (by decide +kernel)
set_option maxRecDepth 20000 in
theorem mkX4_begin : p_mok cls TS MT RJxb5711 qX4_begin := p_ck_ok (F := FTX4) (Ml := MLX4) (Kc := KCX4) 36 (by decide +kernel) p_hok_nil FTX4_ok MLX4_ok KCX4_ok (fun pc h => if_neg h) (by decide +kernel)
set_option maxRecDepth 20000 in
theorem mkX4_readName : p_mok cls TS MT RJxb5711 qX4_readName := p_ck_ok (F := FTX4) (Ml := MLX4) (Kc := KCX4) 105 (by decide +kernel) p_hok_nil FTX4_ok MLX4_ok KCX4_ok (fun pc h => if_neg h) (by decide +kernel)
set_option maxRecDepth 20000 in
theorem mkX4_readWhole : p_mok cls TS MT RJxb5711 qX4_readWhole := p_ck_ok (F := FTX4) (Ml := MLX4) (Kc := KCX4) 66 (by decide +kernel) p_hok_nil FTX4_ok MLX4_ok KCX4_ok (fun pc h => if_neg h) (by decide +kernel)
set_option maxRecDepth 20000 in
theorem mkX4_fail : p_mok cls TS MT RJxb5711 qX4_fail := p_ck_ok (F := FTX4) (Ml := MLX4) (Kc := KCX4) 18 (by decide +kernel) p_hok_nil FTX4_ok MLX4_ok KCX4_ok (fun pc h => if_neg h) (by decide +kernel)
set_option maxRecDepth 20000 in
theorem mkX4_readToken : p_mok cls TS MT RJxb5711 qX4_readToken := p_ck_ok (F := FTX4) (Ml := MLX4) (Kc := KCX4) 92 (by decide +kernel) p_hok_nil FTX4_ok MLX4_ok KCX4_ok (fun pc h => if_neg h) (by decide +kernel)
set_option maxRecDepth 20000 in
theorem mkX4_state : p_mok cls TS MT RJxb5711 qX4_state := p_ck_ok (F := FTX4) (Ml := MLX4) (Kc := KCX4) 41 (by decide +kernel) p_hok_nil FTX4_ok MLX4_ok KCX4_ok (fun pc h => if_neg h) (by decide +kernel)
set_option maxRecDepth 20000 in
theorem mkX4_setState : p_mok cls TS MT RJxb5711 qX4_setState := p_ck_ok (F := FTX4) (Ml := MLX4) (Kc := KCX4) 29 (by decide +kernel) p_hok_nil FTX4_ok MLX4_ok KCX4_ok (fun pc h => if_neg h) (by decide +kernel)
set_option maxRecDepth 20000 in
theorem mkX4_mayBegin : p_mok cls TS MT RJxb5711 qX4_mayBegin := p_ck_ok (F := FTX4) (Ml := MLX4) (Kc := KCX4) 22 (by decide +kernel) p_hok_nil FTX4_ok MLX4_ok KCX4_ok (fun pc h => if_neg h) (by decide +kernel)
set_option maxRecDepth 20000 in
theorem mkX4_openOne : p_mok cls TS MT RJxb5711 qX4_openOne := p_ck_ok (F := FTX4) (Ml := MLX4) (Kc := KCX4) 87 (by decide +kernel) p_hok_nil FTX4_ok MLX4_ok KCX4_ok (fun pc h => if_neg h) (by decide +kernel)
set_option maxRecDepth 20000 in
theorem mkX4_readDot : p_mok cls TS MT RJxb5711 qX4_readDot := p_ck_ok (F := FTX4) (Ml := MLX4) (Kc := KCX4) 34 (by decide +kernel) p_hok_nil FTX4_ok MLX4_ok KCX4_ok (fun pc h => if_neg h) (by decide +kernel)
set_option maxRecDepth 20000 in
theorem mkX4_closeList : p_mok cls TS MT RJxb5711 qX4_closeList := p_ck_ok (F := FTX4) (Ml := MLX4) (Kc := KCX4) 200 (by decide +kernel) p_hok_nil FTX4_ok MLX4_ok KCX4_ok (fun pc h => if_neg h) (by decide +kernel)
set_option maxRecDepth 20000 in
theorem mkX4_readAtom : p_mok cls TS MT RJxb5711 qX4_readAtom := p_ck_ok (F := FTX4) (Ml := MLX4) (Kc := KCX4) 105 (by decide +kernel) p_hok_nil FTX4_ok MLX4_ok KCX4_ok (fun pc h => if_neg h) (by decide +kernel)
set_option maxRecDepth 20000 in
theorem mkX4_readSymbol : p_mok cls TS MT RJxb5711 qX4_readSymbol := p_ck_ok (F := FTX4) (Ml := MLX4) (Kc := KCX4) 114 (by decide +kernel) p_hok_nil FTX4_ok MLX4_ok KCX4_ok (fun pc h => if_neg h) (by decide +kernel)
set_option maxRecDepth 20000 in
theorem mkX4_readNumber : p_mok cls TS MT RJxb5711 qX4_readNumber := p_ck_ok (F := FTX4) (Ml := MLX4) (Kc := KCX4) 158 (by decide +kernel) p_hok_nil FTX4_ok MLX4_ok KCX4_ok (fun pc h => if_neg h) (by decide +kernel)
set_option maxRecDepth 20000 in
theorem mkX4_complete : p_mok cls TS MT RJxb5711 qX4_complete := p_ck_ok (F := FTX4) (Ml := MLX4) (Kc := KCX4) 157 (by decide +kernel) p_hok_nil FTX4_ok MLX4_ok KCX4_ok (fun pc h => if_neg h) (by decide +kernel)
set_option maxRecDepth 20000 in
theorem mkX4_isBlank : p_mok cls TS MT RJxb5711 qX4_isBlank := p_ck_ok (F := FTX4) (Ml := MLX4) (Kc := KCX4) 18 (by decide +kernel) p_hok_nil FTX4_ok MLX4_ok KCX4_ok (fun pc h => if_neg h) (by decide +kernel)
set_option maxRecDepth 20000 in
theorem mkX4_isLetter : p_mok cls TS MT RJxb5711 qX4_isLetter := p_ck_ok (F := FTX4) (Ml := MLX4) (Kc := KCX4) 18 (by decide +kernel) p_hok_nil FTX4_ok MLX4_ok KCX4_ok (fun pc h => if_neg h) (by decide +kernel)
set_option maxRecDepth 20000 in
theorem mkX4_isDigit : p_mok cls TS MT RJxb5711 qX4_isDigit := p_ck_ok (F := FTX4) (Ml := MLX4) (Kc := KCX4) 18 (by decide +kernel) p_hok_nil FTX4_ok MLX4_ok KCX4_ok (fun pc h => if_neg h) (by decide +kernel)
set_option maxRecDepth 20000 in
theorem mkX6_size : p_mok cls TS MT RJxb5711 qX6_size := p_ck_ok (F := FTX6) (Ml := MLX6) (Kc := KCX6) 5 (by decide +kernel) p_hok_nil FTX6_ok MLX6_ok KCX6_ok (fun pc h => if_neg h) (by decide +kernel)
set_option maxRecDepth 20000 in
theorem mkX6_at : p_mok cls TS MT RJxb5711 qX6_at := p_ck_ok (F := FTX6) (Ml := MLX6) (Kc := KCX6) 25 (by decide +kernel) p_hok_nil FTX6_ok MLX6_ok KCX6_ok (fun pc h => if_neg h) (by decide +kernel)
set_option maxRecDepth 20000 in
theorem mkX6_put : p_mok cls TS MT RJxb5711 qX6_put := p_ck_ok (F := FTX6) (Ml := MLX6) (Kc := KCX6) 20 (by decide +kernel) p_hok_nil FTX6_ok MLX6_ok KCX6_ok (fun pc h => if_neg h) (by decide +kernel)
set_option maxRecDepth 20000 in
theorem mkX6_add : p_mok cls TS MT RJxb5711 qX6_add := p_ck_ok (F := FTX6) (Ml := MLX6) (Kc := KCX6) 33 (by decide +kernel) p_hok_nil FTX6_ok MLX6_ok KCX6_ok (fun pc h => if_neg h) (by decide +kernel)
set_option maxRecDepth 20000 in
theorem mkX6_cut : p_mok cls TS MT RJxb5711 qX6_cut := p_ck_ok (F := FTX6) (Ml := MLX6) (Kc := KCX6) 18 (by decide +kernel) p_hok_nil FTX6_ok MLX6_ok KCX6_ok (fun pc h => if_neg h) (by decide +kernel)
set_option maxRecDepth 20000 in
theorem mkX6_present : p_mok cls TS MT RJxb5711 qX6_present := p_ck_ok (F := FTX6) (Ml := MLX6) (Kc := KCX6) 36 (by decide +kernel) p_hok_nil FTX6_ok MLX6_ok KCX6_ok (fun pc h => if_neg h) (by decide +kernel)
set_option maxRecDepth 20000 in
theorem mkX7_size : p_mok cls TS MT RJxb5711 qX7_size := p_ck_ok (F := FTX7) (Ml := MLX7) (Kc := KCX7) 5 (by decide +kernel) p_hok_nil FTX7_ok MLX7_ok KCX7_ok (fun pc h => if_neg h) (by decide +kernel)
set_option maxRecDepth 20000 in
theorem mkX7_lengthOf : p_mok cls TS MT RJxb5711 qX7_lengthOf := p_ck_ok (F := FTX7) (Ml := MLX7) (Kc := KCX7) 23 (by decide +kernel) p_hok_nil FTX7_ok MLX7_ok KCX7_ok (fun pc h => if_neg h) (by decide +kernel)
set_option maxRecDepth 20000 in
theorem mkX7_signOf : p_mok cls TS MT RJxb5711 qX7_signOf := p_ck_ok (F := FTX7) (Ml := MLX7) (Kc := KCX7) 29 (by decide +kernel) p_hok_nil FTX7_ok MLX7_ok KCX7_ok (fun pc h => if_neg h) (by decide +kernel)
set_option maxRecDepth 20000 in
theorem mkX7_named : p_mok cls TS MT RJxb5711 qX7_named := p_ck_ok (F := FTX7) (Ml := MLX7) (Kc := KCX7) 99 (by decide +kernel) p_hok_nil FTX7_ok MLX7_ok KCX7_ok (fun pc h => if_neg h) (by decide +kernel)
set_option maxRecDepth 20000 in
theorem mkX7_isNamed : p_mok cls TS MT RJxb5711 qX7_isNamed := p_ck_ok (F := FTX7) (Ml := MLX7) (Kc := KCX7) 54 (by decide +kernel) p_hok_nil FTX7_ok MLX7_ok KCX7_ok (fun pc h => if_neg h) (by decide +kernel)
set_option maxRecDepth 20000 in
theorem mkX7_addSign : p_mok cls TS MT RJxb5711 qX7_addSign := p_ck_ok (F := FTX7) (Ml := MLX7) (Kc := KCX7) 58 (by decide +kernel) p_hok_nil FTX7_ok MLX7_ok KCX7_ok (fun pc h => if_neg h) (by decide +kernel)
set_option maxRecDepth 20000 in
theorem mkX8_isSymbol : p_mok cls TS MT RJxb5711 qX8_isSymbol := p_ck_ok (F := FTX8) (Ml := MLX8) (Kc := KCX8) 20 (by decide +kernel) p_hok_nil FTX8_ok MLX8_ok KCX8_ok (fun pc h => if_neg h) (by decide +kernel)
set_option maxRecDepth 20000 in
theorem mkX8_isNumber : p_mok cls TS MT RJxb5711 qX8_isNumber := p_ck_ok (F := FTX8) (Ml := MLX8) (Kc := KCX8) 22 (by decide +kernel) p_hok_nil FTX8_ok MLX8_ok KCX8_ok (fun pc h => if_neg h) (by decide +kernel)
set_option maxRecDepth 20000 in
theorem mkX8_isCell : p_mok cls TS MT RJxb5711 qX8_isCell := p_ck_ok (F := FTX8) (Ml := MLX8) (Kc := KCX8) 22 (by decide +kernel) p_hok_nil FTX8_ok MLX8_ok KCX8_ok (fun pc h => if_neg h) (by decide +kernel)
set_option maxRecDepth 20000 in
theorem mkX8_ofNumber : p_mok cls TS MT RJxb5711 qX8_ofNumber := p_ck_ok (F := FTX8) (Ml := MLX8) (Kc := KCX8) 11 (by decide +kernel) p_hok_nil FTX8_ok MLX8_ok KCX8_ok (fun pc h => if_neg h) (by decide +kernel)
set_option maxRecDepth 20000 in
theorem mkX8_ofCell : p_mok cls TS MT RJxb5711 qX8_ofCell := p_ck_ok (F := FTX8) (Ml := MLX8) (Kc := KCX8) 7 (by decide +kernel) p_hok_nil FTX8_ok MLX8_ok KCX8_ok (fun pc h => if_neg h) (by decide +kernel)
set_option maxRecDepth 20000 in
theorem mkX8_ofTruth : p_mok cls TS MT RJxb5711 qX8_ofTruth := p_ck_ok (F := FTX8) (Ml := MLX8) (Kc := KCX8) 10 (by decide +kernel) p_hok_nil FTX8_ok MLX8_ok KCX8_ok (fun pc h => if_neg h) (by decide +kernel)
set_option maxRecDepth 20000 in
theorem mkX8_number : p_mok cls TS MT RJxb5711 qX8_number := p_ck_ok (F := FTX8) (Ml := MLX8) (Kc := KCX8) 3 (by decide +kernel) p_hok_nil FTX8_ok MLX8_ok KCX8_ok (fun pc h => if_neg h) (by decide +kernel)
set_option maxRecDepth 20000 in
theorem mkX9_feed : p_mok cls TS MT RJxb5711 qX9_feed := p_ck_ok (F := FTX9) (Ml := MLX9) (Kc := KCX9) 68 (by decide +kernel) p_hok_nil FTX9_ok MLX9_ok KCX9_ok (fun pc h => if_neg h) (by decide +kernel)
set_option maxRecDepth 20000 in
theorem mkX9_define : p_mok cls TS MT RJxb5711 qX9_define := p_ck_ok (F := FTX9) (Ml := MLX9) (Kc := KCX9) 81 (by decide +kernel) p_hok_nil FTX9_ok MLX9_ok KCX9_ok (fun pc h => if_neg h) (by decide +kernel)
set_option maxRecDepth 20000 in
theorem mkX9_eval : p_mok cls TS MT RJxb5711 qX9_eval := p_ck_ok (F := FTX9) (Ml := MLX9) (Kc := KCX9) 130 (by decide +kernel) p_hok_nil FTX9_ok MLX9_ok KCX9_ok (fun pc h => if_neg h) (by decide +kernel)
set_option maxRecDepth 20000 in
theorem mkX9_echo : p_mok cls TS MT RJxb5711 qX9_echo := p_ck_ok (F := FTX9) (Ml := MLX9) (Kc := KCX9) 79 (by decide +kernel) p_hok_nil FTX9_ok MLX9_ok KCX9_ok (fun pc h => if_neg h) (by decide +kernel)
set_option maxRecDepth 20000 in
theorem mkX9_place : p_mok cls TS MT RJxb5711 qX9_place := p_ck_ok (F := FTX9) (Ml := MLX9) (Kc := KCX9) 8 (by decide +kernel) p_hok_nil FTX9_ok MLX9_ok KCX9_ok (fun pc h => if_neg h) (by decide +kernel)
set_option maxRecDepth 20000 in
theorem mkX9_room : p_mok cls TS MT RJxb5711 qX9_room := p_ck_ok (F := FTX9) (Ml := MLX9) (Kc := KCX9) 44 (by decide +kernel) p_hok_nil FTX9_ok MLX9_ok KCX9_ok (fun pc h => if_neg h) (by decide +kernel)
set_option maxRecDepth 20000 in
theorem mkX9_count : p_mok cls TS MT RJxb5711 qX9_count := p_ck_ok (F := FTX9) (Ml := MLX9) (Kc := KCX9) 126 (by decide +kernel) p_hok_nil FTX9_ok MLX9_ok KCX9_ok (fun pc h => if_neg h) (by decide +kernel)
set_option maxRecDepth 20000 in
theorem mkX9_function : p_mok cls TS MT RJxb5711 qX9_function := p_ck_ok (F := FTX9) (Ml := MLX9) (Kc := KCX9) 35 (by decide +kernel) p_hok_nil FTX9_ok MLX9_ok KCX9_ok (fun pc h => if_neg h) (by decide +kernel)
set_option maxRecDepth 20000 in
theorem mkX9_octet : p_mok cls TS MT RJxb5711 qX9_octet := p_ck_ok (F := FTX9) (Ml := MLX9) (Kc := KCX9) 9 (by decide +kernel) p_hok_nil FTX9_ok MLX9_ok KCX9_ok (fun pc h => if_neg h) (by decide +kernel)
set_option maxRecDepth 20000 in
theorem mkX10_thrown : p_mok cls TS MT RJxb5711 qX10_thrown := p_ck_ok (F := FTX10) (Ml := MLX10) (Kc := KCX10) 5 (by decide +kernel) p_hok_nil FTX10_ok MLX10_ok KCX10_ok (fun pc h => if_neg h) (by decide +kernel)
set_option maxRecDepth 20000 in
theorem mkX10_isSymbol : p_mok cls TS MT RJxb5711 qX10_isSymbol := p_ck_ok (F := FTX10) (Ml := MLX10) (Kc := KCX10) 12 (by decide +kernel) p_hok_nil FTX10_ok MLX10_ok KCX10_ok (fun pc h => if_neg h) (by decide +kernel)
set_option maxRecDepth 20000 in
theorem mkX10_isNumber : p_mok cls TS MT RJxb5711 qX10_isNumber := p_ck_ok (F := FTX10) (Ml := MLX10) (Kc := KCX10) 14 (by decide +kernel) p_hok_nil FTX10_ok MLX10_ok KCX10_ok (fun pc h => if_neg h) (by decide +kernel)
set_option maxRecDepth 20000 in
theorem mkX10_isCell : p_mok cls TS MT RJxb5711 qX10_isCell := p_ck_ok (F := FTX10) (Ml := MLX10) (Kc := KCX10) 20 (by decide +kernel) p_hok_nil FTX10_ok MLX10_ok KCX10_ok (fun pc h => if_neg h) (by decide +kernel)
set_option maxRecDepth 20000 in
theorem mkX10_symbolOf : p_mok cls TS MT RJxb5711 qX10_symbolOf := p_ck_ok (F := FTX10) (Ml := MLX10) (Kc := KCX10) 7 (by decide +kernel) p_hok_nil FTX10_ok MLX10_ok KCX10_ok (fun pc h => if_neg h) (by decide +kernel)
set_option maxRecDepth 20000 in
theorem mkX10_fails : p_mok cls TS MT RJxb5711 qX10_fails := p_ck_ok (F := FTX10) (Ml := MLX10) (Kc := KCX10) 10 (by decide +kernel) p_hok_nil FTX10_ok MLX10_ok KCX10_ok (fun pc h => if_neg h) (by decide +kernel)
set_option maxRecDepth 20000 in
theorem mkX10_visit : p_mok cls TS MT RJxb5711 qX10_visit := p_ck_ok (F := FTX10) (Ml := MLX10) (Kc := KCX10) 58 (by decide +kernel) p_hok_nil FTX10_ok MLX10_ok KCX10_ok (fun pc h => if_neg h) (by decide +kernel)
set_option maxRecDepth 20000 in
theorem mkX10_walks : p_mok cls TS MT RJxb5711 qX10_walks := p_ck_ok (F := FTX10) (Ml := MLX10) (Kc := KCX10) 51 (by decide +kernel) p_hok_nil FTX10_ok MLX10_ok KCX10_ok (fun pc h => if_neg h) (by decide +kernel)
set_option maxRecDepth 20000 in
theorem mkX10_reachFunctions : p_mok cls TS MT RJxb5711 qX10_reachFunctions := p_ck_ok (F := FTX10) (Ml := MLX10) (Kc := KCX10) 72 (by decide +kernel) p_hok_nil FTX10_ok MLX10_ok KCX10_ok (fun pc h => if_neg h) (by decide +kernel)
set_option maxRecDepth 20000 in
theorem mkX10_reach : p_mok cls TS MT RJxb5711 qX10_reach := p_ck_ok (F := FTX10) (Ml := MLX10) (Kc := KCX10) 209 (by decide +kernel) p_hok_nil FTX10_ok MLX10_ok KCX10_ok (fun pc h => if_neg h) (by decide +kernel)
set_option maxRecDepth 20000 in
theorem mkX10_cons : p_mok cls TS MT RJxb5711 qX10_cons := p_ck_ok (F := FTX10) (Ml := MLX10) (Kc := KCX10) 116 (by decide +kernel) p_hok_nil FTX10_ok MLX10_ok KCX10_ok (fun pc h => if_neg h) (by decide +kernel)
set_option maxRecDepth 20000 in
theorem mkX10_headOf : p_mok cls TS MT RJxb5711 qX10_headOf := p_ck_ok (F := FTX10) (Ml := MLX10) (Kc := KCX10) 21 (by decide +kernel) p_hok_nil FTX10_ok MLX10_ok KCX10_ok (fun pc h => if_neg h) (by decide +kernel)
set_option maxRecDepth 20000 in
theorem mkX10_tailOf : p_mok cls TS MT RJxb5711 qX10_tailOf := p_ck_ok (F := FTX10) (Ml := MLX10) (Kc := KCX10) 21 (by decide +kernel) p_hok_nil FTX10_ok MLX10_ok KCX10_ok (fun pc h => if_neg h) (by decide +kernel)
set_option maxRecDepth 20000 in
theorem mkX10_second : p_mok cls TS MT RJxb5711 qX10_second := p_ck_ok (F := FTX10) (Ml := MLX10) (Kc := KCX10) 10 (by decide +kernel) p_hok_nil FTX10_ok MLX10_ok KCX10_ok (fun pc h => if_neg h) (by decide +kernel)
set_option maxRecDepth 20000 in
theorem mkX10_third : p_mok cls TS MT RJxb5711 qX10_third := p_ck_ok (F := FTX10) (Ml := MLX10) (Kc := KCX10) 14 (by decide +kernel) p_hok_nil FTX10_ok MLX10_ok KCX10_ok (fun pc h => if_neg h) (by decide +kernel)
set_option maxRecDepth 20000 in
theorem mkX10_byteAt : p_mok cls TS MT RJxb5711 qX10_byteAt := p_ck_ok (F := FTX10) (Ml := MLX10) (Kc := KCX10) 23 (by decide +kernel) p_hok_nil FTX10_ok MLX10_ok KCX10_ok (fun pc h => if_neg h) (by decide +kernel)
set_option maxRecDepth 20000 in
theorem mkX10_failsAt : p_mok cls TS MT RJxb5711 qX10_failsAt := p_ck_ok (F := FTX10) (Ml := MLX10) (Kc := KCX10) 11 (by decide +kernel) p_hok_nil FTX10_ok MLX10_ok KCX10_ok (fun pc h => if_neg h) (by decide +kernel)
set_option maxRecDepth 20000 in
theorem mkX10_isCapital : p_mok cls TS MT RJxb5711 qX10_isCapital := p_ck_ok (F := FTX10) (Ml := MLX10) (Kc := KCX10) 18 (by decide +kernel) p_hok_nil FTX10_ok MLX10_ok KCX10_ok (fun pc h => if_neg h) (by decide +kernel)
set_option maxRecDepth 20000 in
theorem mkX10_isDigit : p_mok cls TS MT RJxb5711 qX10_isDigit := p_ck_ok (F := FTX10) (Ml := MLX10) (Kc := KCX10) 18 (by decide +kernel) p_hok_nil FTX10_ok MLX10_ok KCX10_ok (fun pc h => if_neg h) (by decide +kernel)
set_option maxRecDepth 20000 in
theorem mkX10_blanks : p_mok cls TS MT RJxb5711 qX10_blanks := p_ck_ok (F := FTX10) (Ml := MLX10) (Kc := KCX10) 51 (by decide +kernel) p_hok_nil FTX10_ok MLX10_ok KCX10_ok (fun pc h => if_neg h) (by decide +kernel)
set_option maxRecDepth 20000 in
theorem mkX10_symbol : p_mok cls TS MT RJxb5711 qX10_symbol := p_ck_ok (F := FTX10) (Ml := MLX10) (Kc := KCX10) 239 (by decide +kernel) p_hok_nil FTX10_ok MLX10_ok KCX10_ok (fun pc h => if_neg h) (by decide +kernel)
set_option maxRecDepth 20000 in
theorem mkX10_number : p_mok cls TS MT RJxb5711 qX10_number := p_ck_ok (F := FTX10) (Ml := MLX10) (Kc := KCX10) 139 (by decide +kernel) p_hok_nil FTX10_ok MLX10_ok KCX10_ok (fun pc h => if_neg h) (by decide +kernel)
set_option maxRecDepth 20000 in
theorem mkX10_isAtom : p_mok cls TS MT RJxb5711 qX10_isAtom := p_ck_ok (F := FTX10) (Ml := MLX10) (Kc := KCX10) 51 (by decide +kernel) p_hok_nil FTX10_ok MLX10_ok KCX10_ok (fun pc h => if_neg h) (by decide +kernel)
set_option maxRecDepth 20000 in
theorem mkX10_mayBegin : p_mok cls TS MT RJxb5711 qX10_mayBegin := p_ck_ok (F := FTX10) (Ml := MLX10) (Kc := KCX10) 28 (by decide +kernel) p_hok_nil FTX10_ok MLX10_ok KCX10_ok (fun pc h => if_neg h) (by decide +kernel)
set_option maxRecDepth 20000 in
theorem mkX10_reads : p_mok cls TS MT RJxb5711 qX10_reads := p_ck_ok (F := FTX10) (Ml := MLX10) (Kc := KCX10) 377 (by decide +kernel) p_hok_nil FTX10_ok MLX10_ok KCX10_ok (fun pc h => if_neg h) (by decide +kernel)
set_option maxRecDepth 20000 in
theorem mkX10_quotes : p_mok cls TS MT RJxb5711 qX10_quotes := p_ck_ok (F := FTX10) (Ml := MLX10) (Kc := KCX10) 36 (by decide +kernel) (p_hok1 (by decide) (mT 1019 rfl rfl) (by decide) (Or.inr ⟨by decide +kernel, rfl⟩)) FTX10_ok MLX10_ok KCX10_ok (fun pc h => if_neg h) (by decide +kernel)
set_option maxRecDepth 20000 in
theorem mkX10_closes : p_mok cls TS MT RJxb5711 qX10_closes := p_ck_ok (F := FTX10) (Ml := MLX10) (Kc := KCX10) 162 (by decide +kernel) (p_hok1 (by decide) (mT 1019 rfl rfl) (by decide) (Or.inr ⟨by decide +kernel, rfl⟩)) FTX10_ok MLX10_ok KCX10_ok (fun pc h => if_neg h) (by decide +kernel)
set_option maxRecDepth 20000 in
theorem mkX10_nothing : p_mok cls TS MT RJxb5711 qX10_nothing := p_ck_ok (F := FTX10) (Ml := MLX10) (Kc := KCX10) 39 (by decide +kernel) p_hok_nil FTX10_ok MLX10_ok KCX10_ok (fun pc h => if_neg h) (by decide +kernel)
set_option maxRecDepth 20000 in
theorem mkX10_burn : p_mok cls TS MT RJxb5711 qX10_burn := p_ck_ok (F := FTX10) (Ml := MLX10) (Kc := KCX10) 29 (by decide +kernel) p_hok_nil FTX10_ok MLX10_ok KCX10_ok (fun pc h => if_neg h) (by decide +kernel)
set_option maxRecDepth 20000 in
theorem mkX10_pairOf : p_mok cls TS MT RJxb5711 qX10_pairOf := p_ck_ok (F := FTX10) (Ml := MLX10) (Kc := KCX10) 64 (by decide +kernel) p_hok_nil FTX10_ok MLX10_ok KCX10_ok (fun pc h => if_neg h) (by decide +kernel)
set_option maxRecDepth 20000 in
theorem mkX10_frame : p_mok cls TS MT RJxb5711 qX10_frame := p_ck_ok (F := FTX10) (Ml := MLX10) (Kc := KCX10) 108 (by decide +kernel) p_hok_nil FTX10_ok MLX10_ok KCX10_ok (fun pc h => if_neg h) (by decide +kernel)
set_option maxRecDepth 20000 in
theorem mkX10_evaluates : p_mok cls TS MT RJxb5711 qX10_evaluates := p_ck_ok (F := FTX10) (Ml := MLX10) (Kc := KCX10) 289 (by decide +kernel) p_hok_nil FTX10_ok MLX10_ok KCX10_ok (fun pc h => if_neg h) (by decide +kernel)
set_option maxRecDepth 20000 in
theorem mkX10_returns : p_mok cls TS MT RJxb5711 qX10_returns := p_ck_ok (F := FTX10) (Ml := MLX10) (Kc := KCX10) 318 (by decide +kernel) p_hok_nil FTX10_ok MLX10_ok KCX10_ok (fun pc h => if_neg h) (by decide +kernel)
set_option maxRecDepth 20000 in
theorem mkX10_applies : p_mok cls TS MT RJxb5711 qX10_applies := p_ck_ok (F := FTX10) (Ml := MLX10) (Kc := KCX10) 246 (by decide +kernel) p_hok_nil FTX10_ok MLX10_ok KCX10_ok (fun pc h => if_neg h) (by decide +kernel)
set_option maxRecDepth 20000 in
theorem mkX10_variable : p_mok cls TS MT RJxb5711 qX10_variable := p_ck_ok (F := FTX10) (Ml := MLX10) (Kc := KCX10) 30 (by decide +kernel) p_hok_nil FTX10_ok MLX10_ok KCX10_ok (fun pc h => if_neg h) (by decide +kernel)
set_option maxRecDepth 20000 in
theorem mkX10_binds : p_mok cls TS MT RJxb5711 qX10_binds := p_ck_ok (F := FTX10) (Ml := MLX10) (Kc := KCX10) 184 (by decide +kernel) p_hok_nil FTX10_ok MLX10_ok KCX10_ok (fun pc h => if_neg h) (by decide +kernel)
set_option maxRecDepth 20000 in
theorem mkX10_gives : p_mok cls TS MT RJxb5711 qX10_gives := p_ck_ok (F := FTX10) (Ml := MLX10) (Kc := KCX10) 7 (by decide +kernel) p_hok_nil FTX10_ok MLX10_ok KCX10_ok (fun pc h => if_neg h) (by decide +kernel)
set_option maxRecDepth 20000 in
theorem mkX10_says : p_mok cls TS MT RJxb5711 qX10_says := p_ck_ok (F := FTX10) (Ml := MLX10) (Kc := KCX10) 18 (by decide +kernel) p_hok_nil FTX10_ok MLX10_ok KCX10_ok (fun pc h => if_neg h) (by decide +kernel)
set_option maxRecDepth 20000 in
theorem mkX10_built : p_mok cls TS MT RJxb5711 qX10_built := p_ck_ok (F := FTX10) (Ml := MLX10) (Kc := KCX10) 314 (by decide +kernel) p_hok_nil FTX10_ok MLX10_ok KCX10_ok (fun pc h => if_neg h) (by decide +kernel)
set_option maxRecDepth 20000 in
theorem mkX10_counts : p_mok cls TS MT RJxb5711 qX10_counts := p_ck_ok (F := FTX10) (Ml := MLX10) (Kc := KCX10) 161 (by decide +kernel) p_hok_nil FTX10_ok MLX10_ok KCX10_ok (fun pc h => if_neg h) (by decide +kernel)
set_option maxRecDepth 20000 in
theorem mkX10_puts : p_mok cls TS MT RJxb5711 qX10_puts := p_ck_ok (F := FTX10) (Ml := MLX10) (Kc := KCX10) 33 (by decide +kernel) p_hok_nil FTX10_ok MLX10_ok KCX10_ok (fun pc h => if_neg h) (by decide +kernel)
set_option maxRecDepth 20000 in
theorem mkX10_atom : p_mok cls TS MT RJxb5711 qX10_atom := p_ck_ok (F := FTX10) (Ml := MLX10) (Kc := KCX10) 140 (by decide +kernel) p_hok_nil FTX10_ok MLX10_ok KCX10_ok (fun pc h => if_neg h) (by decide +kernel)
set_option maxRecDepth 20000 in
theorem mkX10_prints : p_mok cls TS MT RJxb5711 qX10_prints := p_ck_ok (F := FTX10) (Ml := MLX10) (Kc := KCX10) 218 (by decide +kernel) p_hok_nil FTX10_ok MLX10_ok KCX10_ok (fun pc h => if_neg h) (by decide +kernel)
set_option maxRecDepth 20000 in
theorem mkX10_feed : p_mok cls TS MT RJxb5711 qX10_feed := p_ck_ok (F := FTX10) (Ml := MLX10) (Kc := KCX10) 124 (by decide +kernel) p_hok_nil FTX10_ok MLX10_ok KCX10_ok (fun pc h => if_neg h) (by decide +kernel)
set_option maxRecDepth 20000 in
theorem mkX10_begins : p_mok cls TS MT RJxb5711 qX10_begins := p_ck_ok (F := FTX10) (Ml := MLX10) (Kc := KCX10) 60 (by decide +kernel) p_hok_nil FTX10_ok MLX10_ok KCX10_ok (fun pc h => if_neg h) (by decide +kernel)
set_option maxRecDepth 20000 in
theorem mkX10_whole : p_mok cls TS MT RJxb5711 qX10_whole := p_ck_ok (F := FTX10) (Ml := MLX10) (Kc := KCX10) 37 (by decide +kernel) p_hok_nil FTX10_ok MLX10_ok KCX10_ok (fun pc h => if_neg h) (by decide +kernel)
set_option maxRecDepth 20000 in
theorem mkX10_failed : p_mok cls TS MT RJxb5711 qX10_failed := p_ck_ok (F := FTX10) (Ml := MLX10) (Kc := KCX10) 35 (by decide +kernel) p_hok_nil FTX10_ok MLX10_ok KCX10_ok (fun pc h => if_neg h) (by decide +kernel)
set_option maxRecDepth 20000 in
theorem mkX10_define : p_mok cls TS MT RJxb5711 qX10_define := p_ck_ok (F := FTX10) (Ml := MLX10) (Kc := KCX10) 125 (by decide +kernel) (p_hok1 (by decide) (mT 1019 rfl rfl) (by decide) (Or.inl ⟨2, rfl, by decide +kernel, rfl⟩)) FTX10_ok MLX10_ok KCX10_ok (fun pc h => if_neg h) (by decide +kernel)
set_option maxRecDepth 20000 in
theorem mkX10_echo : p_mok cls TS MT RJxb5711 qX10_echo := p_ck_ok (F := FTX10) (Ml := MLX10) (Kc := KCX10) 35 (by decide +kernel) (p_hok1 (by decide) (mT 1019 rfl rfl) (by decide) (Or.inl ⟨2, rfl, by decide +kernel, rfl⟩)) FTX10_ok MLX10_ok KCX10_ok (fun pc h => if_neg h) (by decide +kernel)
set_option maxRecDepth 20000 in
theorem mkX10_eval : p_mok cls TS MT RJxb5711 qX10_eval := p_ck_ok (F := FTX10) (Ml := MLX10) (Kc := KCX10) 137 (by decide +kernel) (p_hok1 (by decide) (mT 1019 rfl rfl) (by decide) (Or.inl ⟨3, rfl, by decide +kernel, rfl⟩)) FTX10_ok MLX10_ok KCX10_ok (fun pc h => if_neg h) (by decide +kernel)
set_option maxRecDepth 20000 in
theorem mkX10_place : p_mok cls TS MT RJxb5711 qX10_place := p_ck_ok (F := FTX10) (Ml := MLX10) (Kc := KCX10) 10 (by decide +kernel) p_hok_nil FTX10_ok MLX10_ok KCX10_ok (fun pc h => if_neg h) (by decide +kernel)
set_option maxRecDepth 20000 in
theorem mkX10_ofFunctions : p_mok cls TS MT RJxb5711 qX10_ofFunctions := p_ck_ok (F := FTX10) (Ml := MLX10) (Kc := KCX10) 22 (by decide +kernel) p_hok_nil FTX10_ok MLX10_ok KCX10_ok (fun pc h => if_neg h) (by decide +kernel)
set_option maxRecDepth 20000 in
theorem mkX10_room : p_mok cls TS MT RJxb5711 qX10_room := p_ck_ok (F := FTX10) (Ml := MLX10) (Kc := KCX10) 48 (by decide +kernel) p_hok_nil FTX10_ok MLX10_ok KCX10_ok (fun pc h => if_neg h) (by decide +kernel)
set_option maxRecDepth 20000 in
theorem mkX10_count : p_mok cls TS MT RJxb5711 qX10_count := p_ck_ok (F := FTX10) (Ml := MLX10) (Kc := KCX10) 103 (by decide +kernel) p_hok_nil FTX10_ok MLX10_ok KCX10_ok (fun pc h => if_neg h) (by decide +kernel)
set_option maxRecDepth 20000 in
theorem mkX10_function : p_mok cls TS MT RJxb5711 qX10_function := p_ck_ok (F := FTX10) (Ml := MLX10) (Kc := KCX10) 48 (by decide +kernel) p_hok_nil FTX10_ok MLX10_ok KCX10_ok (fun pc h => if_neg h) (by decide +kernel)
set_option maxRecDepth 20000 in
theorem mkX10_octet : p_mok cls TS MT RJxb5711 qX10_octet := p_ck_ok (F := FTX10) (Ml := MLX10) (Kc := KCX10) 32 (by decide +kernel) p_hok_nil FTX10_ok MLX10_ok KCX10_ok (fun pc h => if_neg h) (by decide +kernel)
set_option maxRecDepth 20000 in
theorem MTl_ok : ∀ q ∈ MTl, p_mok cls TS MT RJxb5711 q := List.forall_mem_cons.mpr ⟨mkX0_size, List.forall_mem_cons.mpr ⟨mkX0_at, List.forall_mem_cons.mpr ⟨mkX0_add, List.forall_mem_cons.mpr ⟨mkX0_addNumber, List.forall_mem_cons.mpr ⟨mkX0_clear, List.forall_mem_cons.mpr ⟨mkX1_made, List.forall_mem_cons.mpr ⟨mkX1_limit, List.forall_mem_cons.mpr ⟨mkX1_setLimit, List.forall_mem_cons.mpr ⟨mkX1_head, List.forall_mem_cons.mpr ⟨mkX1_tail, List.forall_mem_cons.mpr ⟨mkX1_make, List.forall_mem_cons.mpr ⟨mkX1_reachedByFunctions, List.forall_mem_cons.mpr ⟨mkX1_inUse, List.forall_mem_cons.mpr ⟨mkX1_collect, List.forall_mem_cons.mpr ⟨mkX1_reach, List.forall_mem_cons.mpr ⟨mkX1_takeBack, List.forall_mem_cons.mpr ⟨mkX2_fault, List.forall_mem_cons.mpr ⟨mkX2_answer, List.forall_mem_cons.mpr ⟨mkX2_fuelTaken, List.forall_mem_cons.mpr ⟨mkX2_mostFrames, List.forall_mem_cons.mpr ⟨mkX2_forget, List.forall_mem_cons.mpr ⟨mkX2_run, List.forall_mem_cons.mpr ⟨mkX2_letGo, List.forall_mem_cons.mpr ⟨mkX2_emptyHand, List.forall_mem_cons.mpr ⟨mkX2_fail, List.forall_mem_cons.mpr ⟨mkX2_burn, List.forall_mem_cons.mpr ⟨mkX2_give, List.forall_mem_cons.mpr ⟨mkX2_evaluateNext, List.forall_mem_cons.mpr ⟨mkX2_askHead, List.forall_mem_cons.mpr ⟨mkX2_askTail, List.forall_mem_cons.mpr ⟨mkX2_askSecond, List.forall_mem_cons.mpr ⟨mkX2_askThird, List.forall_mem_cons.mpr ⟨mkX2_cons, List.forall_mem_cons.mpr ⟨mkX2_lookUp, List.forall_mem_cons.mpr ⟨mkX2_evaluate, List.forall_mem_cons.mpr ⟨mkX2_evaluateAtom, List.forall_mem_cons.mpr ⟨mkX2_evaluateCond, List.forall_mem_cons.mpr ⟨mkX2_evaluateFunction, List.forall_mem_cons.mpr ⟨mkX2_evaluateCall, List.forall_mem_cons.mpr ⟨mkX2_pushFrame, List.forall_mem_cons.mpr ⟨mkX2_popFrame, List.forall_mem_cons.mpr ⟨mkX2_takeValue, List.forall_mem_cons.mpr ⟨mkX2_takeChoice, List.forall_mem_cons.mpr ⟨mkX2_takeArgument, List.forall_mem_cons.mpr ⟨mkX2_takeInHand, List.forall_mem_cons.mpr ⟨mkX2_isBuiltIn, List.forall_mem_cons.mpr ⟨mkX2_apply, List.forall_mem_cons.mpr ⟨mkX2_applySymbol, List.forall_mem_cons.mpr ⟨mkX2_applyLambda, List.forall_mem_cons.mpr ⟨mkX2_lookAtVariables, List.forall_mem_cons.mpr ⟨mkX2_askVariable, List.forall_mem_cons.mpr ⟨mkX2_applyLabel, List.forall_mem_cons.mpr ⟨mkX2_applyFunarg, List.forall_mem_cons.mpr ⟨mkX2_applyBuiltIn, List.forall_mem_cons.mpr ⟨mkX2_valuesWanted, List.forall_mem_cons.mpr ⟨mkX2_givePart, List.forall_mem_cons.mpr ⟨mkX2_giveList, List.forall_mem_cons.mpr ⟨mkX2_giveReckoned, List.forall_mem_cons.mpr ⟨mkX3_print, List.forall_mem_cons.mpr ⟨mkX3_nextElement, List.forall_mem_cons.mpr ⟨mkX3_closeList, List.forall_mem_cons.mpr ⟨mkX3_printAtom, List.forall_mem_cons.mpr ⟨mkX3_printNumber, List.forall_mem_cons.mpr ⟨mkX4_fault, List.forall_mem_cons.mpr ⟨mkX4_faultPlace, List.forall_mem_cons.mpr ⟨mkX4_begin, List.forall_mem_cons.mpr ⟨mkX4_readName, List.forall_mem_cons.mpr ⟨mkX4_readWhole, List.forall_mem_cons.mpr ⟨mkX4_fail, List.forall_mem_cons.mpr ⟨mkX4_readToken, List.forall_mem_cons.mpr ⟨mkX4_state, List.forall_mem_cons.mpr ⟨mkX4_setState, List.forall_mem_cons.mpr ⟨mkX4_mayBegin, List.forall_mem_cons.mpr ⟨mkX4_openOne, List.forall_mem_cons.mpr ⟨mkX4_readDot, List.forall_mem_cons.mpr ⟨mkX4_closeList, List.forall_mem_cons.mpr ⟨mkX4_readAtom, List.forall_mem_cons.mpr ⟨mkX4_readSymbol, List.forall_mem_cons.mpr ⟨mkX4_readNumber, List.forall_mem_cons.mpr ⟨mkX4_complete, List.forall_mem_cons.mpr ⟨mkX4_isBlank, List.forall_mem_cons.mpr ⟨mkX4_isLetter, List.forall_mem_cons.mpr ⟨mkX4_isDigit, List.forall_mem_cons.mpr ⟨mkX6_size, List.forall_mem_cons.mpr ⟨mkX6_at, List.forall_mem_cons.mpr ⟨mkX6_put, List.forall_mem_cons.mpr ⟨mkX6_add, List.forall_mem_cons.mpr ⟨mkX6_cut, List.forall_mem_cons.mpr ⟨mkX6_present, List.forall_mem_cons.mpr ⟨mkX7_size, List.forall_mem_cons.mpr ⟨mkX7_lengthOf, List.forall_mem_cons.mpr ⟨mkX7_signOf, List.forall_mem_cons.mpr ⟨mkX7_named, List.forall_mem_cons.mpr ⟨mkX7_isNamed, List.forall_mem_cons.mpr ⟨mkX7_addSign, List.forall_mem_cons.mpr ⟨mkX8_isSymbol, List.forall_mem_cons.mpr ⟨mkX8_isNumber, List.forall_mem_cons.mpr ⟨mkX8_isCell, List.forall_mem_cons.mpr ⟨mkX8_ofNumber, List.forall_mem_cons.mpr ⟨mkX8_ofCell, List.forall_mem_cons.mpr ⟨mkX8_ofTruth, List.forall_mem_cons.mpr ⟨mkX8_number, List.forall_mem_cons.mpr ⟨mkX9_feed, List.forall_mem_cons.mpr ⟨mkX9_define, List.forall_mem_cons.mpr ⟨mkX9_eval, List.forall_mem_cons.mpr ⟨mkX9_echo, List.forall_mem_cons.mpr ⟨mkX9_place, List.forall_mem_cons.mpr ⟨mkX9_room, List.forall_mem_cons.mpr ⟨mkX9_count, List.forall_mem_cons.mpr ⟨mkX9_function, List.forall_mem_cons.mpr ⟨mkX9_octet, List.forall_mem_cons.mpr ⟨mkX10_thrown, List.forall_mem_cons.mpr ⟨mkX10_isSymbol, List.forall_mem_cons.mpr ⟨mkX10_isNumber, List.forall_mem_cons.mpr ⟨mkX10_isCell, List.forall_mem_cons.mpr ⟨mkX10_symbolOf, List.forall_mem_cons.mpr ⟨mkX10_fails, List.forall_mem_cons.mpr ⟨mkX10_visit, List.forall_mem_cons.mpr ⟨mkX10_walks, List.forall_mem_cons.mpr ⟨mkX10_reachFunctions, List.forall_mem_cons.mpr ⟨mkX10_reach, List.forall_mem_cons.mpr ⟨mkX10_cons, List.forall_mem_cons.mpr ⟨mkX10_headOf, List.forall_mem_cons.mpr ⟨mkX10_tailOf, List.forall_mem_cons.mpr ⟨mkX10_second, List.forall_mem_cons.mpr ⟨mkX10_third, List.forall_mem_cons.mpr ⟨mkX10_byteAt, List.forall_mem_cons.mpr ⟨mkX10_failsAt, List.forall_mem_cons.mpr ⟨mkX10_isCapital, List.forall_mem_cons.mpr ⟨mkX10_isDigit, List.forall_mem_cons.mpr ⟨mkX10_blanks, List.forall_mem_cons.mpr ⟨mkX10_symbol, List.forall_mem_cons.mpr ⟨mkX10_number, List.forall_mem_cons.mpr ⟨mkX10_isAtom, List.forall_mem_cons.mpr ⟨mkX10_mayBegin, List.forall_mem_cons.mpr ⟨mkX10_reads, List.forall_mem_cons.mpr ⟨mkX10_quotes, List.forall_mem_cons.mpr ⟨mkX10_closes, List.forall_mem_cons.mpr ⟨mkX10_nothing, List.forall_mem_cons.mpr ⟨mkX10_burn, List.forall_mem_cons.mpr ⟨mkX10_pairOf, List.forall_mem_cons.mpr ⟨mkX10_frame, List.forall_mem_cons.mpr ⟨mkX10_evaluates, List.forall_mem_cons.mpr ⟨mkX10_returns, List.forall_mem_cons.mpr ⟨mkX10_applies, List.forall_mem_cons.mpr ⟨mkX10_variable, List.forall_mem_cons.mpr ⟨mkX10_binds, List.forall_mem_cons.mpr ⟨mkX10_gives, List.forall_mem_cons.mpr ⟨mkX10_says, List.forall_mem_cons.mpr ⟨mkX10_built, List.forall_mem_cons.mpr ⟨mkX10_counts, List.forall_mem_cons.mpr ⟨mkX10_puts, List.forall_mem_cons.mpr ⟨mkX10_atom, List.forall_mem_cons.mpr ⟨mkX10_prints, List.forall_mem_cons.mpr ⟨mkX10_feed, List.forall_mem_cons.mpr ⟨mkX10_begins, List.forall_mem_cons.mpr ⟨mkX10_whole, List.forall_mem_cons.mpr ⟨mkX10_failed, List.forall_mem_cons.mpr ⟨mkX10_define, List.forall_mem_cons.mpr ⟨mkX10_echo, List.forall_mem_cons.mpr ⟨mkX10_eval, List.forall_mem_cons.mpr ⟨mkX10_place, List.forall_mem_cons.mpr ⟨mkX10_ofFunctions, List.forall_mem_cons.mpr ⟨mkX10_room, List.forall_mem_cons.mpr ⟨mkX10_count, List.forall_mem_cons.mpr ⟨mkX10_function, List.forall_mem_cons.mpr ⟨mkX10_octet, fun _ h => (List.not_mem_nil h).elim⟩⟩⟩⟩⟩⟩⟩⟩⟩⟩⟩⟩⟩⟩⟩⟩⟩⟩⟩⟩⟩⟩⟩⟩⟩⟩⟩⟩⟩⟩⟩⟩⟩⟩⟩⟩⟩⟩⟩⟩⟩⟩⟩⟩⟩⟩⟩⟩⟩⟩⟩⟩⟩⟩⟩⟩⟩⟩⟩⟩⟩⟩⟩⟩⟩⟩⟩⟩⟩⟩⟩⟩⟩⟩⟩⟩⟩⟩⟩⟩⟩⟩⟩⟩⟩⟩⟩⟩⟩⟩⟩⟩⟩⟩⟩⟩⟩⟩⟩⟩⟩⟩⟩⟩⟩⟩⟩⟩⟩⟩⟩⟩⟩⟩⟩⟩⟩⟩⟩⟩⟩⟩⟩⟩⟩⟩⟩⟩⟩⟩⟩⟩⟩⟩⟩⟩⟩⟩⟩⟩⟩⟩⟩⟩⟩⟩⟩⟩⟩⟩⟩⟩⟩⟩⟩⟩⟩⟩⟩⟩⟩⟩⟩⟩⟩⟩⟩
theorem MT_ok : ∀ k q, MT k = some q → p_mok cls TS MT RJxb5711 q := fun _ _ h => MTl_ok _ (List.mem_of_getElem? h)
theorem MTl_L : MTl.all (fun q => decide (q.maxL + 19 ≤ 32)) = true := by decide +kernel
theorem MT_L : ∀ k q, MT k = some q → q.maxL + 19 ≤ 32 ∧ 21 ≤ 32 := fun _ _ h => ⟨of_decide_eq_true (List.all_eq_true.mp MTl_L _ (List.mem_of_getElem? h)), by decide⟩
end
section
/-! Steps of the pure machine, as rows. -/
section STEPS
variable {B : PBody} {Q : Option (Option Value) → PM → Prop} {pc : Nat} {L : List (Option Value)} {st r : List Value} {M : PM} {nx ci j k i : Nat} {ts0 : List Nat} {cv : Value} {fs : List (Nat ⊕ FieldType)} {t n : Nat} {rs : List Nat}
theorem ev_getI (hc : B.2.2.2.2.1 pc = some (.getfield i, nx, ci, j, ts0, cv)) (hs : B.1[k]? = some (.inl (ci, fs))) (hf : fs[j]? = some (.inr .int)) (h : Ev B Q nx L (.int (M.1 k j) :: r) M) : Ev B Q pc L (.ref k :: r) M := by
  refine ev_s hc ?_
  show p_obj _ _ _ _
  unfold p_obj
  rw [hs]
  refine ⟨rfl, ?_⟩
  dsimp only
  rw [hf]
  exact h
theorem ev_getJ (hc : B.2.2.2.2.1 pc = some (.getfield i, nx, ci, j, ts0, cv)) (hs : B.1[k]? = some (.inl (ci, fs))) (hf : fs[j]? = some (.inr .long)) (h : Ev B Q nx L (.long (M.2 k j) :: r) M) : Ev B Q pc L (.ref k :: r) M := by
  refine ev_s hc ?_
  show p_obj _ _ _ _
  unfold p_obj
  rw [hs]
  refine ⟨rfl, ?_⟩
  dsimp only
  rw [hf]
  exact h
theorem ev_getR {x : Nat} (hc : B.2.2.2.2.1 pc = some (.getfield i, nx, ci, j, ts0, cv)) (hs : B.1[k]? = some (.inl (ci, fs))) (hf : fs[j]? = some (.inl x)) (h : Ev B Q nx L (.ref x :: r) M) : Ev B Q pc L (.ref k :: r) M := by
  refine ev_s hc ?_
  show p_obj _ _ _ _
  unfold p_obj
  rw [hs]
  refine ⟨rfl, ?_⟩
  dsimp only
  rw [hf]
  exact h
theorem ev_putI {x : Int32} (hc : B.2.2.2.2.1 pc = some (.putfield i, nx, ci, j, ts0, cv)) (hs : B.1[k]? = some (.inl (ci, fs))) (hf : fs[j]? = some (.inr .int)) (h : Ev B Q nx L r (mI M k j x)) : Ev B Q pc L (.int x :: .ref k :: r) M := by
  refine ev_s hc ?_
  show p_obj _ _ _ _
  unfold p_obj
  rw [hs]
  refine ⟨rfl, ?_⟩
  dsimp only
  rw [hf]
  exact ⟨trivial, rfl, rfl, h⟩
theorem ev_putJ {x : Int64} (hc : B.2.2.2.2.1 pc = some (.putfield i, nx, ci, j, ts0, cv)) (hs : B.1[k]? = some (.inl (ci, fs))) (hf : fs[j]? = some (.inr .long)) (h : Ev B Q nx L r (mJ M k j x)) : Ev B Q pc L (.long x :: .ref k :: r) M := by
  refine ev_s hc ?_
  show p_obj _ _ _ _
  unfold p_obj
  rw [hs]
  refine ⟨rfl, ?_⟩
  dsimp only
  rw [hf]
  exact h
theorem ev_lald {x : Int32} (hc : B.2.2.2.2.1 pc = some (.laload, nx, ci, j, ts0, cv)) (hs : B.1[k]? = some (.inr (t, n, .long, rs))) (hi : vp_in x n) (h : Ev B Q nx L (.long (M.2 k x.toNatClampNeg) :: r) M) : Ev B Q pc L (.int x :: .ref k :: r) M := by
  refine ev_s hc ?_
  show p_arr _ _ _
  unfold p_arr
  rw [hs]
  exact ⟨rfl, hi, h⟩
theorem ev_iald {x : Int32} (hc : B.2.2.2.2.1 pc = some (.iaload, nx, ci, j, ts0, cv)) (hs : B.1[k]? = some (.inr (t, n, .int, rs))) (hi : vp_in x n) (h : Ev B Q nx L (.int (M.1 k x.toNatClampNeg) :: r) M) : Ev B Q pc L (.int x :: .ref k :: r) M := by
  refine ev_s hc ?_
  show p_arr _ _ _
  unfold p_arr
  rw [hs]
  exact ⟨rfl, hi, h⟩
theorem ev_bald {x : Int32} (hc : B.2.2.2.2.1 pc = some (.baload, nx, ci, j, ts0, cv)) (hs : B.1[k]? = some (.inr (t, n, .byte, rs))) (hi : vp_in x n) (h : Ev B Q nx L (.int (M.1 k x.toNatClampNeg) :: r) M) : Ev B Q pc L (.int x :: .ref k :: r) M := by
  refine ev_s hc ?_
  show p_arr _ _ _
  unfold p_arr
  rw [hs]
  exact ⟨Or.inl rfl, hi, h⟩
theorem ev_zald {x : Int32} (hc : B.2.2.2.2.1 pc = some (.baload, nx, ci, j, ts0, cv)) (hs : B.1[k]? = some (.inr (t, n, .boolean, rs))) (hi : vp_in x n) (h : Ev B Q nx L (.int (M.1 k x.toNatClampNeg) :: r) M) : Ev B Q pc L (.int x :: .ref k :: r) M := by
  refine ev_s hc ?_
  show p_arr _ _ _
  unfold p_arr
  rw [hs]
  exact ⟨Or.inr rfl, hi, h⟩
theorem ev_last {x : Int32} {v : Int64} (hc : B.2.2.2.2.1 pc = some (.lastore, nx, ci, j, ts0, cv)) (hs : B.1[k]? = some (.inr (t, n, .long, rs))) (hi : vp_in x n) (h : Ev B Q nx L r (mJ M k x.toNatClampNeg v)) : Ev B Q pc L (.long v :: .int x :: .ref k :: r) M := by
  refine ev_s hc ?_
  show p_arr _ _ _
  unfold p_arr
  rw [hs]
  exact ⟨rfl, hi, h⟩
theorem ev_iast {x : Int32} {v : Int32} (hc : B.2.2.2.2.1 pc = some (.iastore, nx, ci, j, ts0, cv)) (hs : B.1[k]? = some (.inr (t, n, .int, rs))) (hi : vp_in x n) (h : Ev B Q nx L r (mI M k x.toNatClampNeg v)) : Ev B Q pc L (.int v :: .int x :: .ref k :: r) M := by
  refine ev_s hc ?_
  show p_arr _ _ _
  unfold p_arr
  rw [hs]
  exact ⟨rfl, hi, h⟩
theorem ev_bast {x : Int32} {v : Int32} (hc : B.2.2.2.2.1 pc = some (.bastore, nx, ci, j, ts0, cv)) (hs : B.1[k]? = some (.inr (t, n, .byte, rs))) (hi : vp_in x n) (h : Ev B Q nx L r (mI M k x.toNatClampNeg (vp_nar .byte v))) : Ev B Q pc L (.int v :: .int x :: .ref k :: r) M := by
  refine ev_s hc ?_
  show p_arr _ _ _
  unfold p_arr
  rw [hs]
  exact ⟨Or.inl rfl, hi, h⟩
theorem ev_zast {x : Int32} {v : Int32} (hc : B.2.2.2.2.1 pc = some (.bastore, nx, ci, j, ts0, cv)) (hs : B.1[k]? = some (.inr (t, n, .boolean, rs))) (hi : vp_in x n) (h : Ev B Q nx L r (mI M k x.toNatClampNeg (vp_nar .boolean v))) : Ev B Q pc L (.int v :: .int x :: .ref k :: r) M := by
  refine ev_s hc ?_
  show p_arr _ _ _
  unfold p_arr
  rw [hs]
  exact ⟨Or.inr rfl, hi, h⟩
theorem ev_alen (hc : B.2.2.2.2.1 pc = some (.arraylength, nx, ci, j, ts0, cv)) {ty : FieldType} (hs : B.1[k]? = some (.inr (t, n, ty, rs))) (h : Ev B Q nx L (.int (Int32.ofNat n) :: r) M) : Ev B Q pc L (.ref k :: r) M := by
  refine ev_s hc ?_
  show p_arr _ _ _
  unfold p_arr
  rw [hs]
  exact h
/-- a branch: both roads -/
theorem ev_if {c : ClassFile.Cond} {off : Int} {x : Int32} {tg b0 : Nat} (hc : B.2.2.2.2.1 pc = some (.ifCond c off, nx, tg, b0, ts0, cv)) (h1 : p_icmp c x 0 → Ev B Q tg L r M) (h2 : ¬ p_icmp c x 0 → Ev B Q nx L r M) : Ev B Q pc L (.int x :: r) M := ev_s hc ⟨h1, h2⟩
theorem ev_ic {c : ClassFile.Cond} {off : Int} {x y : Int32} {tg b0 : Nat} (hc : B.2.2.2.2.1 pc = some (.if_icmp c off, nx, tg, b0, ts0, cv)) (h1 : p_icmp c x y → Ev B Q tg L r M) (h2 : ¬ p_icmp c x y → Ev B Q nx L r M) : Ev B Q pc L (.int y :: .int x :: r) M := ev_s hc ⟨h1, h2⟩
/-- a call whose answer is told -/
theorem ev_cv {i k n : Nat} {as rest : List Value} (hc : B.2.2.2.2.1 pc = some (.invokevirtual i, nx, k, n, ts0, cv)) (hs : st.take n = as.reverse) (hr : st.drop n = rest) (hcat : (rest.map fun v => v.category).sum ≤ 8)
    (h : B.2.1 k as M (fun o M' => match o with
      | some v => Ev B Q nx L (v.toList ++ rest) M'
      | none => p_th B.2.2.1 pc L M' (Ev B Q) Q)) : Ev B Q pc L st M := by
  refine ev_s hc ?_
  refine ⟨by rw [hr]; exact hcat, (fun o M' => match o with
      | some v => Ev B Q nx L (v.toList ++ rest) M'
      | none => p_th B.2.2.1 pc L M' (Ev B Q) Q), ?_, fun v M' h9 => ?_, fun M' h9 => ?_⟩
  · rw [hs, List.reverse_reverse]; exact h
  · rw [hr]; exact h9
  · exact h9
theorem ev_cs {i k n : Nat} {as rest : List Value} (hc : B.2.2.2.2.1 pc = some (.invokestatic i, nx, k, n, ts0, cv)) (h0 : n ≠ 1000) (h1 : n ≠ 1001) (hs : st.take n = as.reverse) (hr : st.drop n = rest) (hcat : (rest.map fun v => v.category).sum ≤ 8)
    (h : B.2.1 k as M (fun o M' => match o with
      | some v => Ev B Q nx L (v.toList ++ rest) M'
      | none => p_th B.2.2.1 pc L M' (Ev B Q) Q)) : Ev B Q pc L st M := by
  refine ev_s hc ?_
  unfold p_ex
  dsimp only
  rw [if_neg h0, if_neg h1]
  refine ⟨by rw [hr]; exact hcat, (fun o M' => match o with
      | some v => Ev B Q nx L (v.toList ++ rest) M'
      | none => p_th B.2.2.1 pc L M' (Ev B Q) Q), ?_, fun v M' h9 => ?_, fun M' h9 => ?_⟩
  · rw [hs, List.reverse_reverse]; exact h
  · rw [hr]; exact h9
  · exact h9
end STEPS
/-- a branch over a compare of longs -/
def p_lc (op : ClassFile.Cond) (x y : Int64) : Prop := match op with
  | .eq => x = y
  | .ne => ¬ x = y
  | .lt => x < y
  | .ge => y ≤ x
  | .gt => y < x
  | .le => x ≤ y
theorem p_lc_iff (op : ClassFile.Cond) (x y : Int64) : p_icmp op (lg_cmp x y) 0 ↔ p_lc op x y := by
  cases op
  · exact lg_cmp_eq x y
  · exact not_congr (lg_cmp_eq x y)
  · exact lg_cmp_lt x y
  · exact lg_cmp_ge x y
  · exact lg_cmp_gt x y
  · exact lg_cmp_le x y
section STEPS2
variable {B : PBody} {Q : Option (Option Value) → PM → Prop} {pc : Nat} {L : List (Option Value)} {st r : List Value} {M : PM} {nx tg b0 : Nat} {ts0 : List Nat} {cv : Value}
theorem ev_lif {c : ClassFile.Cond} {off : Int} {x y : Int64} (hc : B.2.2.2.2.1 pc = some (.ifCond c off, nx, tg, b0, ts0, cv)) (h1 : p_lc c x y → Ev B Q tg L r M) (h2 : ¬ p_lc c x y → Ev B Q nx L r M) : Ev B Q pc L (.int (lg_cmp x y) :: r) M :=
  ev_s hc ⟨fun h => h1 ((p_lc_iff c x y).mp h), fun h => h2 (fun h9 => h ((p_lc_iff c x y).mpr h9))⟩
theorem ev_ifT {c : ClassFile.Cond} {off : Int} {x : Int32} (hc : B.2.2.2.2.1 pc = some (.ifCond c off, nx, tg, b0, ts0, cv)) (hd : p_icmp c x 0) (h : Ev B Q tg L r M) : Ev B Q pc L (.int x :: r) M := ev_s hc ⟨fun _ => h, fun h9 => (h9 hd).elim⟩
theorem ev_ifF {c : ClassFile.Cond} {off : Int} {x : Int32} (hc : B.2.2.2.2.1 pc = some (.ifCond c off, nx, tg, b0, ts0, cv)) (hd : ¬ p_icmp c x 0) (h : Ev B Q nx L r M) : Ev B Q pc L (.int x :: r) M := ev_s hc ⟨fun h9 => (hd h9).elim, fun _ => h⟩
theorem ev_icT {c : ClassFile.Cond} {off : Int} {x y : Int32} (hc : B.2.2.2.2.1 pc = some (.if_icmp c off, nx, tg, b0, ts0, cv)) (hd : p_icmp c x y) (h : Ev B Q tg L r M) : Ev B Q pc L (.int y :: .int x :: r) M := ev_s hc ⟨fun _ => h, fun h9 => (h9 hd).elim⟩
theorem ev_icF {c : ClassFile.Cond} {off : Int} {x y : Int32} (hc : B.2.2.2.2.1 pc = some (.if_icmp c off, nx, tg, b0, ts0, cv)) (hd : ¬ p_icmp c x y) (h : Ev B Q nx L r M) : Ev B Q pc L (.int y :: .int x :: r) M := ev_s hc ⟨fun h9 => (hd h9).elim, fun _ => h⟩
theorem ev_lifT {c : ClassFile.Cond} {off : Int} {x y : Int64} (hc : B.2.2.2.2.1 pc = some (.ifCond c off, nx, tg, b0, ts0, cv)) (hd : p_lc c x y) (h : Ev B Q tg L r M) : Ev B Q pc L (.int (lg_cmp x y) :: r) M := ev_lif hc (fun _ => h) (fun h9 => (h9 hd).elim)
theorem ev_lifF {c : ClassFile.Cond} {off : Int} {x y : Int64} (hc : B.2.2.2.2.1 pc = some (.ifCond c off, nx, tg, b0, ts0, cv)) (hd : ¬ p_lc c x y) (h : Ev B Q nx L r M) : Ev B Q pc L (.int (lg_cmp x y) :: r) M := ev_lif hc (fun h9 => (hd h9).elim) (fun _ => h)
theorem ev_reti {x : Int32} {ty : FieldType} (hc : B.2.2.2.2.1 pc = some (.ireturn, nx, tg, b0, ts0, cv)) (hr : B.2.2.2.1 = some ty) (hs : p_small ty) (hn : narrow ty (.int x) = .int x) (h : Q (some (some (.int x))) M) : Ev B Q pc L [.int x] M := ev_s hc ⟨rfl, ⟨ty, hr, hs, hn⟩, h⟩
theorem ev_retl {x : Int64} (hc : B.2.2.2.2.1 pc = some (.lreturn, nx, tg, b0, ts0, cv)) (hr : B.2.2.2.1 = some .long) (h : Q (some (some (.long x))) M) : Ev B Q pc L [.long x] M := ev_s hc ⟨rfl, hr, h⟩
theorem ev_retv (hc : B.2.2.2.2.1 pc = some (.return_, nx, tg, b0, ts0, cv)) (hr : B.2.2.2.1 = none) (h : Q (some none) M) : Ev B Q pc L [] M := ev_s hc ⟨rfl, hr, h⟩
end STEPS2
/-- nothing has changed but in the cells ids -/
def Same (ids : List Nat) (M M' : PM) : Prop := ∀ k, k ∉ ids → M'.1 k = M.1 k ∧ M'.2 k = M.2 k
theorem Same.rf {ids : List Nat} {M : PM} : Same ids M M := fun _ _ => ⟨rfl, rfl⟩
theorem Same.tr {ids ids' : List Nat} {M M' M'' : PM} (h : Same ids M M') (h' : Same ids' M' M'') : Same (ids ++ ids') M M'' := fun k hk => by
  rw [List.mem_append, not_or] at hk
  exact ⟨(h' k hk.2).1.trans (h k hk.1).1, (h' k hk.2).2.trans (h k hk.1).2⟩
theorem Same.sub {ids ids' : List Nat} {M M' : PM} (h : Same ids M M') (hs : ∀ k ∈ ids, k ∈ ids') : Same ids' M M' := fun k hk => h k (fun h9 => hk (hs k h9))
theorem Same.I {M : PM} {k j : Nat} {v : Int32} : Same [k] M (mI M k j v) := fun i hi => ⟨up2_ne (fun h => hi (List.mem_singleton.mpr h)), rfl⟩
theorem Same.J {M : PM} {k j : Nat} {v : Int64} : Same [k] M (mJ M k j v) := fun i hi => ⟨rfl, up2_ne (fun h => hi (List.mem_singleton.mpr h))⟩
theorem mI_at {M : PM} {k j : Nat} {v : Int32} : (mI M k j v).1 k j = v := by simp [mI, up2]
theorem mI_ne {M : PM} {k j a b : Nat} {v : Int32} (h : a ≠ k ∨ b ≠ j) : (mI M k j v).1 a b = M.1 a b := by
  rcases h with h | h <;> simp [mI, up2, h]
theorem mI_2 {M : PM} {k j : Nat} {v : Int32} : (mI M k j v).2 = M.2 := rfl
theorem mJ_1 {M : PM} {k j : Nat} {v : Int64} : (mJ M k j v).1 = M.1 := rfl
theorem mJ_at {M : PM} {k j : Nat} {v : Int64} : (mJ M k j v).2 k j = v := by simp [mJ, up2]
theorem mJ_ne {M : PM} {k j a b : Nat} {v : Int64} (h : a ≠ k ∨ b ≠ j) : (mJ M k j v).2 a b = M.2 a b := by
  rcases h with h | h <;> simp [mJ, up2, h]
end
section
/-! The class's world, and its rows. -/
abbrev ShC : List PSh := [
  .inl (9, [.inl 2, .inl 4, .inl 6, .inl 9, .inl 17, .inl 24, .inl 27, .inl 31]),
  .inl (6, [.inl 9, .inl 11, .inl 13, .inl 15, .inr .long, .inr .long, .inr .long]),
  .inl (1, [.inl 3, .inr .int]), .inr (0, 2000, .byte, []),
  .inl (1, [.inl 5, .inr .int]), .inr (0, 2000, .byte, []),
  .inl (8, [.inl 7, .inl 8, .inr .int]), .inr (0, 3000, .byte, []), .inr (1, 300, .int, []),
  .inl (7, [.inl 10, .inr .int]), .inr (2, 300, .long, []),
  .inl (7, [.inl 12, .inr .int]), .inr (2, 2000, .long, []),
  .inl (7, [.inl 14, .inr .int]), .inr (2, 10, .long, []),
  .inl (7, [.inl 16, .inr .int]), .inr (2, 2600, .long, []),
  .inl (2, [.inl 1, .inl 18, .inl 19, .inl 20, .inl 21, .inl 22, .inl 23, .inr .int, .inr .int, .inr .int]),
  .inr (4, 4, .object "ConsYard$Row", [9, 11, 13, 15]), .inr (2, 2000, .long, []), .inr (2, 2000, .long, []), .inr (3, 2000, .boolean, []), .inr (1, 2000, .int, []), .inr (2, 2002, .long, []),
  .inl (5, [.inl 2, .inl 6, .inl 17, .inl 11, .inl 25, .inl 26, .inr .int, .inr .int, .inr .int, .inr .int, .inr .int, .inr .boolean, .inr .long]), .inr (1, 60, .int, []), .inr (1, 60, .int, []),
  .inl (3, [.inl 17, .inl 1, .inl 13, .inl 15, .inl 28, .inl 30, .inr .int, .inr .int, .inr .int, .inr .int, .inr .int, .inr .int, .inr .long]),
  .inl (7, [.inl 29, .inr .int]), .inr (2, 10, .long, []), .inr (1, 200, .int, []),
  .inl (4, [.inl 4, .inl 6, .inl 17, .inl 32]), .inl (7, [.inl 33, .inr .int]), .inr (2, 2000, .long, [])]
abbrev SC (d : Nat) : PEnv := p_sem MT ShC d
abbrev BC (d : Nat) (q : PMeth) : PBody := (ShC, p_sem MT ShC d, q.hn, q.ret, q.code, fun _ _ _ _ => False)
/-! Value -/
theorem v_isSymbol {d : Nat} {v : Int64} {M : PM} {Q : Option (Option Value) → PM → Prop} (h1 : 0 ≤ v ∧ v < 300 → Q (some (some (.int 1))) M) (h0 : ¬ (0 ≤ v ∧ v < 300) → Q (some (some (.int 0))) M) : SC (d + 1) 95 [.long v] M Q := by
  refine ⟨qX8_isSymbol, rfl, ⟨Nat.le_of_ble_eq_true rfl, rfl⟩, ?_⟩
  show Ev (BC d qX8_isSymbol) Q 0 [some (.long v), none] [] M
  have hf : ¬ (0 ≤ v ∧ v < 300) → Ev (BC d qX8_isSymbol) Q 18 [some (.long v), none] [] M := fun hn => by
    repeat (refine ev_s rfl (?_ : Ev _ _ _ _ _ _))
    exact ev_reti rfl rfl trivial rfl (h0 hn)
  repeat (refine ev_s rfl (?_ : Ev _ _ _ _ _ _))
  refine ev_lif rfl (fun hc => hf (fun h9 => Int64.not_lt.mpr h9.1 hc)) (fun hc => ?_)
  repeat (refine ev_s rfl (?_ : Ev _ _ _ _ _ _))
  refine ev_lif rfl (fun hc2 => hf (fun h9 => Int64.not_lt.mpr hc2 h9.2)) (fun hc2 => ?_)
  repeat (refine ev_s rfl (?_ : Ev _ _ _ _ _ _))
  exact ev_reti rfl rfl trivial rfl (h1 ⟨Int64.not_lt.mp hc, Int64.not_le.mp hc2⟩)
theorem v_isNumber {d : Nat} {v : Int64} {M : PM} {Q : Option (Option Value) → PM → Prop} (h1 : 4294967296 ≤ v ∧ v < 8589934592 → Q (some (some (.int 1))) M) (h0 : ¬ (4294967296 ≤ v ∧ v < 8589934592) → Q (some (some (.int 0))) M) : SC (d + 1) 96 [.long v] M Q := by
  refine ⟨qX8_isNumber, rfl, ⟨Nat.le_of_ble_eq_true rfl, rfl⟩, ?_⟩
  show Ev (BC d qX8_isNumber) Q 0 [some (.long v), none] [] M
  have hf : ¬ (4294967296 ≤ v ∧ v < 8589934592) → Ev (BC d qX8_isNumber) Q 20 [some (.long v), none] [] M := fun hn => by
    repeat (refine ev_s rfl (?_ : Ev _ _ _ _ _ _))
    exact ev_reti rfl rfl trivial rfl (h0 hn)
  repeat (refine ev_s rfl (?_ : Ev _ _ _ _ _ _))
  refine ev_lif rfl (fun hc => hf (fun h9 => Int64.not_lt.mpr h9.1 hc)) (fun hc => ?_)
  repeat (refine ev_s rfl (?_ : Ev _ _ _ _ _ _))
  refine ev_lif rfl (fun hc2 => hf (fun h9 => Int64.not_lt.mpr hc2 h9.2)) (fun hc2 => ?_)
  repeat (refine ev_s rfl (?_ : Ev _ _ _ _ _ _))
  exact ev_reti rfl rfl trivial rfl (h1 ⟨Int64.not_lt.mp hc, Int64.not_le.mp hc2⟩)
def isC (v : Int64) : Prop := 8589934592 ≤ v ∧ v < 8589936592
theorem v_isCell {d : Nat} {v : Int64} {M : PM} {Q : Option (Option Value) → PM → Prop} (h1 : isC v → Q (some (some (.int 1))) M) (h0 : ¬ isC v → Q (some (some (.int 0))) M) : SC (d + 1) 97 [.long v] M Q := by
  refine ⟨qX8_isCell, rfl, ⟨Nat.le_of_ble_eq_true rfl, rfl⟩, ?_⟩
  show Ev (BC d qX8_isCell) Q 0 [some (.long v), none] [] M
  have hf : ¬ isC v → Ev (BC d qX8_isCell) Q 20 [some (.long v), none] [] M := fun hn => by
    repeat (refine ev_s rfl (?_ : Ev _ _ _ _ _ _))
    exact ev_reti rfl rfl trivial rfl (h0 hn)
  repeat (refine ev_s rfl (?_ : Ev _ _ _ _ _ _))
  refine ev_lif rfl (fun hc => hf (fun h9 => Int64.not_lt.mpr h9.1 hc)) (fun hc => ?_)
  repeat (refine ev_s rfl (?_ : Ev _ _ _ _ _ _))
  refine ev_lif rfl (fun hc2 => hf (fun h9 => Int64.not_lt.mpr hc2 h9.2)) (fun hc2 => ?_)
  repeat (refine ev_s rfl (?_ : Ev _ _ _ _ _ _))
  exact ev_reti rfl rfl trivial rfl (h1 ⟨Int64.not_lt.mp hc, Int64.not_le.mp hc2⟩)
def ofN (n : Int32) : Int64 := 4294967296 ||| (n.toInt64 &&& 4294967295)
theorem v_ofNumber {d : Nat} {n : Int32} {M : PM} {Q : Option (Option Value) → PM → Prop} (h : Q (some (some (.long (ofN n)))) M) : SC (d + 1) 98 [.int n] M Q := by
  refine ⟨qX8_ofNumber, rfl, ⟨Nat.le_of_ble_eq_true rfl, rfl⟩, ?_⟩
  show Ev (BC d qX8_ofNumber) Q 0 [some (.int n)] [] M
  repeat (refine ev_s rfl (?_ : Ev _ _ _ _ _ _))
  exact ev_retl rfl rfl h
theorem v_ofCell {d : Nat} {n : Int32} {M : PM} {Q : Option (Option Value) → PM → Prop} (h : Q (some (some (.long (8589934592 + n.toInt64)))) M) : SC (d + 1) 99 [.int n] M Q := by
  refine ⟨qX8_ofCell, rfl, ⟨Nat.le_of_ble_eq_true rfl, rfl⟩, ?_⟩
  show Ev (BC d qX8_ofCell) Q 0 [some (.int n)] [] M
  repeat (refine ev_s rfl (?_ : Ev _ _ _ _ _ _))
  exact ev_retl rfl rfl h
theorem v_ofTruth {d : Nat} {n : Int32} {M : PM} {Q : Option (Option Value) → PM → Prop} (h : Q (some (some (.long (if n = 0 then 0 else 1)))) M) : SC (d + 1) 100 [.int n] M Q := by
  refine ⟨qX8_ofTruth, rfl, ⟨Nat.le_of_ble_eq_true rfl, rfl⟩, ?_⟩
  show Ev (BC d qX8_ofTruth) Q 0 [some (.int n)] [] M
  repeat (refine ev_s rfl (?_ : Ev _ _ _ _ _ _))
  refine ev_if rfl (fun hc => ?_) (fun hc => ?_)
  · repeat (refine ev_s rfl (?_ : Ev _ _ _ _ _ _))
    rw [if_pos (show n = 0 from hc)] at h
    exact ev_retl rfl rfl h
  · repeat (refine ev_s rfl (?_ : Ev _ _ _ _ _ _))
    rw [if_neg (show ¬ n = 0 from hc)] at h
    exact ev_retl rfl rfl h
theorem v_number {d : Nat} {v : Int64} {M : PM} {Q : Option (Option Value) → PM → Prop} (h : Q (some (some (.int v.toInt32))) M) : SC (d + 1) 101 [.long v] M Q := by
  refine ⟨qX8_number, rfl, ⟨Nat.le_of_ble_eq_true rfl, rfl⟩, ?_⟩
  show Ev (BC d qX8_number) Q 0 [some (.long v), none] [] M
  repeat (refine ev_s rfl (?_ : Ev _ _ _ _ _ _))
  exact ev_reti rfl rfl trivial rfl h
/-! Row -/
/-- a row's object and its array -/
def isRow (r a n : Nat) : Prop := ShC[r]? = some (.inl (7, [.inl a, .inr .int])) ∧ ShC[a]? = some (.inr (2, n, .long, [])) ∧ n < 2147483648 ∧ r ≠ a
/-- what a row holds -/
def RowIs (M : PM) (r a n : Nat) (l : List Int64) : Prop := M.1 r 1 = nI l.length ∧ l.length ≤ n ∧ ∀ i v, l[i]? = some v → M.2 a i = v
theorem RowIs.same {M M' : PM} {r a n : Nat} {l : List Int64} {ids : List Nat} (h : RowIs M r a n l) (hs : Same ids M M') (h1 : r ∉ ids) (h2 : a ∉ ids) : RowIs M' r a n l :=
  ⟨by rw [(hs r h1).1]; exact h.1, h.2.1, fun i v hv => by rw [(hs a h2).2]; exact h.2.2 i v hv⟩
def rowAt (l : List Int64) (k : Int32) : Int64 := if 0 ≤ k then (l[k.toNatClampNeg]?).getD (-1) else -1
theorem rowAt_nI {l : List Int64} {i : Nat} (hi : i < 2147483648) : rowAt l (nI i) = (l[i]?).getD (-1) := by
  unfold rowAt
  rw [if_pos (nI_pos' hi), nI_clamp hi]
theorem row_size {d r a n : Nat} (hr : isRow r a n) {M : PM} {Q : Option (Option Value) → PM → Prop} (h : Q (some (some (.int (M.1 r 1)))) M) : SC (d + 1) 83 [.ref r] M Q := by
  refine ⟨qX6_size, rfl, ⟨Nat.le_of_ble_eq_true rfl, rfl, r, _, _, rfl, hr.1⟩, ?_⟩
  show Ev (BC d qX6_size) Q 0 [some (.ref r)] [] M
  refine ev_s rfl (?_ : Ev _ _ _ _ _ _)
  refine ev_getI rfl hr.1 rfl ?_
  exact ev_reti rfl rfl trivial rfl h
theorem row_in {l : List Int64} {n : Nat} {k : Int32} (hn : n < 2147483648) (hl : l.length ≤ n) (h0 : 0 ≤ k) (h1 : k < nI l.length) : k.toNatClampNeg < l.length ∧ vp_in k n ∧ k = nI k.toNatClampNeg := by
  obtain ⟨j, hj, rfl⟩ := nI_of (x := k) (Int32.not_lt.mpr h0)
  have h2 := (nI_ltI hj (by omega)).mp h1
  rw [nI_clamp hj]
  exact ⟨h2, vp_in_nI (by omega) (by omega), rfl⟩
theorem row_at {d r a n : Nat} (hr : isRow r a n) {k : Int32} {M : PM} {l : List Int64} (hR : RowIs M r a n l) {Q : Option (Option Value) → PM → Prop} (h : Q (some (some (.long (rowAt l k)))) M) : SC (d + 1) 84 [.ref r, .int k] M Q := by
  refine ⟨qX6_at, rfl, ⟨Nat.le_of_ble_eq_true rfl, rfl, r, _, _, rfl, hr.1⟩, ?_⟩
  show Ev (BC d qX6_at) Q 0 [some (.ref r), some (.int k)] [] M
  have hm : rowAt l k = -1 → Ev (BC d qX6_at) Q 21 [some (.ref r), some (.int k)] [] M := fun hn => by
    refine ev_s rfl (?_ : Ev _ _ _ _ _ _)
    rw [hn] at h
    exact ev_retl rfl rfl h
  refine ev_s rfl (?_ : Ev _ _ _ _ _ _)
  refine ev_if rfl (fun hc => hm (if_neg (Int32.not_le.mpr hc))) (fun hc => ?_)
  have hc0 : 0 ≤ k := Int32.not_lt.mp hc
  refine ev_s rfl (?_ : Ev _ _ _ _ _ _)
  refine ev_s rfl (?_ : Ev _ _ _ _ _ _)
  refine ev_getI rfl hr.1 rfl ?_
  rw [hR.1]
  refine ev_ic rfl (fun hc2 => hm ?_) (fun hc2 => ?_)
  · obtain ⟨j, hj, rfl⟩ := nI_of (x := k) hc
    have h2 := (nI_leI (by have := hR.2.1; have := hr.2.2.1; omega) hj).mp hc2
    rw [rowAt_nI hj, List.getElem?_eq_none h2]; rfl
  · obtain ⟨g1, g2, g3⟩ := row_in hr.2.2.1 hR.2.1 hc0 (Int32.not_le.mp hc2)
    refine ev_s rfl (?_ : Ev _ _ _ _ _ _)
    refine ev_getR rfl hr.1 rfl ?_
    refine ev_s rfl (?_ : Ev _ _ _ _ _ _)
    refine ev_lald rfl hr.2.1 g2 ?_
    refine ev_s rfl (?_ : Ev _ _ _ _ _ _)
    refine ev_retl rfl rfl ?_
    have e1 : l[k.toNatClampNeg]? = some l[k.toNatClampNeg] := List.getElem?_eq_getElem g1
    have e2 : rowAt l k = M.2 a k.toNatClampNeg := by unfold rowAt; rw [if_pos hc0, e1, hR.2.2 _ _ e1]; rfl
    rw [← e2]; exact h
theorem row_put {d r a n : Nat} (hr : isRow r a n) {i : Nat} {v : Int64} {M : PM} {l : List Int64} (hR : RowIs M r a n l) (hi : i < l.length) {Q : Option (Option Value) → PM → Prop} (h : ∀ M', RowIs M' r a n (l.set i v) → Same [a] M M' → Q (some none) M') : SC (d + 1) 85 [.ref r, .int (nI i), .long v] M Q := by
  refine ⟨qX6_put, rfl, ⟨Nat.le_of_ble_eq_true rfl, rfl, r, _, _, rfl, hr.1⟩, ?_⟩
  show Ev (BC d qX6_put) Q 0 [some (.ref r), some (.int (nI i)), some (.long v), none] [] M
  have hl := hR.2.1
  have hn := hr.2.2.1
  refine ev_s rfl (?_ : Ev _ _ _ _ _ _)
  refine ev_ifF rfl (nI_pos (by omega)) ?_
  refine ev_s rfl (?_ : Ev _ _ _ _ _ _)
  refine ev_s rfl (?_ : Ev _ _ _ _ _ _)
  refine ev_getI rfl hr.1 rfl ?_
  rw [hR.1]
  refine ev_icF rfl (nI_ge hi (by omega)) ?_
  refine ev_s rfl (?_ : Ev _ _ _ _ _ _)
  refine ev_getR rfl hr.1 rfl ?_
  refine ev_s rfl (?_ : Ev _ _ _ _ _ _)
  refine ev_s rfl (?_ : Ev _ _ _ _ _ _)
  refine ev_last rfl hr.2.1 (vp_in_nI (by omega) (by omega)) ?_
  rw [nI_clamp (by omega)]
  refine ev_retv rfl rfl (h _ ⟨by rw [List.length_set]; exact hR.1, by rw [List.length_set]; exact hl, fun j w hw => ?_⟩ Same.J)
  by_cases hj : j = i
  · subst hj
    rw [List.getElem?_set_self hi] at hw
    cases hw
    exact mJ_at
  · rw [List.getElem?_set_ne (Ne.symm hj)] at hw
    rw [mJ_ne (Or.inr hj)]
    exact hR.2.2 j w hw
theorem row_add {d r a n : Nat} (hr : isRow r a n) {v : Int64} {M : PM} {l : List Int64} (hR : RowIs M r a n l) (hi : l.length < n) {Q : Option (Option Value) → PM → Prop} (h : ∀ M', RowIs M' r a n (l ++ [v]) → Same [r, a] M M' → Q (some none) M') : SC (d + 1) 86 [.ref r, .long v] M Q := by
  refine ⟨qX6_add, rfl, ⟨Nat.le_of_ble_eq_true rfl, rfl, r, _, _, rfl, hr.1⟩, ?_⟩
  show Ev (BC d qX6_add) Q 0 [some (.ref r), some (.long v), none] [] M
  have hn := hr.2.2.1
  refine ev_s rfl (?_ : Ev _ _ _ _ _ _)
  refine ev_getI rfl hr.1 rfl ?_
  refine ev_s rfl (?_ : Ev _ _ _ _ _ _)
  refine ev_getR rfl hr.1 rfl ?_
  refine ev_alen rfl hr.2.1 ?_
  rw [hR.1]
  refine ev_icF rfl (nI_ge hi hn) ?_
  refine ev_s rfl (?_ : Ev _ _ _ _ _ _)
  refine ev_getR rfl hr.1 rfl ?_
  refine ev_s rfl (?_ : Ev _ _ _ _ _ _)
  refine ev_getI rfl hr.1 rfl ?_
  rw [hR.1]
  refine ev_s rfl (?_ : Ev _ _ _ _ _ _)
  refine ev_last rfl hr.2.1 (vp_in_nI hi hn) ?_
  rw [nI_clamp (by omega)]
  refine ev_s rfl (?_ : Ev _ _ _ _ _ _)
  refine ev_s rfl ⟨rfl, (?_ : Ev _ _ _ _ _ _)⟩
  refine ev_getI rfl hr.1 rfl ?_
  rw [mJ_1, hR.1]
  refine ev_s rfl (?_ : Ev _ _ _ _ _ _)
  refine ev_s rfl (?_ : Ev _ _ _ _ _ _)
  refine ev_putI rfl hr.1 rfl ?_
  refine ev_retv rfl rfl (h _ ⟨?_, by simp; omega, fun j w hw => ?_⟩ ?_)
  · rw [mI_at, nI_1]; simp
  · rw [mI_2]
    by_cases hj : j = l.length
    · subst hj
      simp at hw
      rw [← hw]; exact mJ_at
    · have hj2 : j < l.length := by
        have := (List.getElem?_eq_some_iff.mp hw).1
        simp at this; omega
      rw [List.getElem?_append_left hj2] at hw
      rw [mJ_ne (Or.inr hj)]
      exact hR.2.2 j w hw
  · exact (Same.J.tr Same.I).sub (fun k hk => by simp at hk ⊢; omega)
theorem row_cut {d r a n : Nat} (hr : isRow r a n) {i : Nat} {M : PM} {l : List Int64} (hR : RowIs M r a n l) (hi : i ≤ l.length) {Q : Option (Option Value) → PM → Prop} (h : ∀ M', RowIs M' r a n (l.take i) → Same [r] M M' → Q (some none) M') : SC (d + 1) 87 [.ref r, .int (nI i)] M Q := by
  refine ⟨qX6_cut, rfl, ⟨Nat.le_of_ble_eq_true rfl, rfl, r, _, _, rfl, hr.1⟩, ?_⟩
  show Ev (BC d qX6_cut) Q 0 [some (.ref r), some (.int (nI i))] [] M
  have hl := hR.2.1
  have hn := hr.2.2.1
  refine ev_s rfl (?_ : Ev _ _ _ _ _ _)
  refine ev_ifF rfl (nI_pos (by omega)) ?_
  refine ev_s rfl (?_ : Ev _ _ _ _ _ _)
  refine ev_s rfl (?_ : Ev _ _ _ _ _ _)
  refine ev_getI rfl hr.1 rfl ?_
  rw [hR.1]
  refine ev_ic rfl (fun hc => ?_) (fun hc => ?_)
  · have h2 := (nI_leI (by omega) (by omega)).mp hc
    refine ev_retv rfl rfl (h M ?_ Same.rf)
    rw [List.take_of_length_le h2]; exact hR
  · refine ev_s rfl (?_ : Ev _ _ _ _ _ _)
    refine ev_s rfl (?_ : Ev _ _ _ _ _ _)
    refine ev_putI rfl hr.1 rfl ?_
    refine ev_retv rfl rfl (h _ ⟨?_, by simp; omega, fun j w hw => ?_⟩ Same.I)
    · rw [mI_at, List.length_take]; congr 1; omega
    · rw [mI_2]
      have hj : j < i := by
        have := (List.getElem?_eq_some_iff.mp hw).1
        simp at this; omega
      rw [List.getElem?_take_of_lt hj] at hw
      exact hR.2.2 j w hw
end
section
/-! Bytes: the tape and the page. -/
def isBytes (b a : Nat) : Prop := ShC[b]? = some (.inl (1, [.inl a, .inr .int])) ∧ ShC[a]? = some (.inr (0, 2000, .byte, [])) ∧ b ≠ a
def BytesIs (M : PM) (b a : Nat) (l : List Nat) : Prop := M.1 b 1 = nI l.length ∧ l.length ≤ 2000 ∧ ∀ i v, l[i]? = some v → v < 256 ∧ M.1 a i = sb_b v
theorem BytesIs.same {M M' : PM} {b a : Nat} {l : List Nat} {ids : List Nat} (h : BytesIs M b a l) (hs : Same ids M M') (h1 : b ∉ ids) (h2 : a ∉ ids) : BytesIs M' b a l :=
  ⟨by rw [(hs b h1).1]; exact h.1, h.2.1, fun i v hv => by rw [(hs a h2).1]; exact h.2.2 i v hv⟩
def bAt (l : List Nat) (k : Int32) : Int32 := if 0 ≤ k then ((l[k.toNatClampNeg]?).map nI).getD (-1) else -1
theorem bAt_nI {l : List Nat} {i : Nat} (hi : i < 2147483648) : bAt l (nI i) = ((l[i]?).map nI).getD (-1) := by
  unfold bAt
  rw [if_pos (nI_pos' hi), nI_clamp hi]
/-- the byte that is kept of a number -/
def oct (x : Int32) : Nat := x.toBitVec.toNat % 256
theorem oct_lt (x : Int32) : oct x < 256 := Nat.mod_lt _ (by decide)
theorem oct_b (x : Int32) : x.toInt8.toInt32 = sb_b (oct x) := by
  unfold sb_b oct
  have : x.toInt8 = (nI (x.toBitVec.toNat % 256)).toInt8 := by
    apply Int8.toBitVec_inj.mp
    apply BitVec.eq_of_toNat_eq
    show (x.toBitVec.signExtend 8).toNat = ((nI (x.toBitVec.toNat % 256)).toBitVec.signExtend 8).toNat
    rw [BitVec.signExtend_eq_setWidth_of_le _ (by decide), BitVec.signExtend_eq_setWidth_of_le _ (by decide), BitVec.toNat_setWidth, BitVec.toNat_setWidth, pk_tn (by omega)]
    omega
  rw [this]
theorem oct_ushr (x s : Int32) (k : Nat) (hs : ((s.toUInt32 &&& Int32.toUInt32 31).toBitVec % 32).toNat = k) : oct ((x.toUInt32 >>> (s.toUInt32 &&& Int32.toUInt32 31)).toInt32) = x.toBitVec.toNat / 2 ^ k % 256 := by
  unfold oct; rw [pk_ushr x s k hs]
theorem bytes_size {d b a : Nat} (hb : isBytes b a) {M : PM} {Q : Option (Option Value) → PM → Prop} (h : Q (some (some (.int (M.1 b 1)))) M) : SC (d + 1) 0 [.ref b] M Q := by
  refine ⟨qX0_size, rfl, ⟨Nat.le_of_ble_eq_true rfl, rfl, b, _, _, rfl, hb.1⟩, ?_⟩
  show Ev (BC d qX0_size) Q 0 [some (.ref b)] [] M
  refine ev_s rfl (?_ : Ev _ _ _ _ _ _)
  refine ev_getI rfl hb.1 rfl ?_
  exact ev_reti rfl rfl trivial rfl h
theorem bytes_at {d b a : Nat} (hb : isBytes b a) {k : Int32} {M : PM} {l : List Nat} (hR : BytesIs M b a l) {Q : Option (Option Value) → PM → Prop} (h : Q (some (some (.int (bAt l k)))) M) : SC (d + 1) 1 [.ref b, .int k] M Q := by
  refine ⟨qX0_at, rfl, ⟨Nat.le_of_ble_eq_true rfl, rfl, b, _, _, rfl, hb.1⟩, ?_⟩
  show Ev (BC d qX0_at) Q 0 [some (.ref b), some (.int k)] [] M
  have hl := hR.2.1
  have hm : bAt l k = -1 → Ev (BC d qX0_at) Q 25 [some (.ref b), some (.int k)] [] M := fun hn => by
    refine ev_s rfl (?_ : Ev _ _ _ _ _ _)
    rw [hn] at h
    exact ev_reti rfl rfl trivial rfl h
  refine ev_s rfl (?_ : Ev _ _ _ _ _ _)
  refine ev_if rfl (fun hc => hm (if_neg (Int32.not_le.mpr hc))) (fun hc => ?_)
  have hc0 : 0 ≤ k := Int32.not_lt.mp hc
  obtain ⟨j, hj, rfl⟩ := nI_of (x := k) hc
  refine ev_s rfl (?_ : Ev _ _ _ _ _ _)
  refine ev_s rfl (?_ : Ev _ _ _ _ _ _)
  refine ev_getI rfl hb.1 rfl ?_
  rw [hR.1]
  refine ev_ic rfl (fun hc2 => hm ?_) (fun hc2 => ?_)
  · have h2 := (nI_leI (by omega) hj).mp hc2
    rw [bAt_nI hj, List.getElem?_eq_none h2]; rfl
  · have h2 : j < l.length := (nI_ltI hj (by omega)).mp (Int32.not_le.mp hc2)
    refine ev_s rfl (?_ : Ev _ _ _ _ _ _)
    refine ev_getR rfl hb.1 rfl ?_
    refine ev_s rfl (?_ : Ev _ _ _ _ _ _)
    refine ev_bald rfl hb.2.1 (vp_in_nI (by omega) (by omega)) ?_
    rw [nI_clamp hj]
    have e1 : l[j]? = some l[j] := List.getElem?_eq_getElem h2
    obtain ⟨g1, g2⟩ := hR.2.2 j _ e1
    rw [g2]
    refine ev_s rfl (?_ : Ev _ _ _ _ _ _)
    refine ev_s rfl (?_ : Ev _ _ _ _ _ _)
    refine ev_s rfl (?_ : Ev _ _ _ _ _ _)
    rw [bAt_nI hj, e1] at h
    have e2 : sb_b l[j] &&& 255 = nI l[j] := (sb_byte _ g1).1
    refine ev_reti rfl rfl trivial rfl ?_
    show Q (some (some (.int (sb_b l[j] &&& 255)))) M
    rw [e2]; exact h
def addB (l : List Nat) (v : Nat) : List Nat := if l.length < 2000 then l ++ [v] else l
theorem bytes_add {d b a : Nat} (hb : isBytes b a) {x : Int32} {M : PM} {l : List Nat} (hR : BytesIs M b a l) {Q : Option (Option Value) → PM → Prop} (h : ∀ M', BytesIs M' b a (addB l (oct x)) → Same [b, a] M M' → Q (some none) M') : SC (d + 1) 2 [.ref b, .int x] M Q := by
  refine ⟨qX0_add, rfl, ⟨Nat.le_of_ble_eq_true rfl, rfl, b, _, _, rfl, hb.1⟩, ?_⟩
  show Ev (BC d qX0_add) Q 0 [some (.ref b), some (.int x)] [] M
  have hl := hR.2.1
  refine ev_s rfl (?_ : Ev _ _ _ _ _ _)
  refine ev_getI rfl hb.1 rfl ?_
  refine ev_s rfl (?_ : Ev _ _ _ _ _ _)
  refine ev_getR rfl hb.1 rfl ?_
  refine ev_alen rfl hb.2.1 ?_
  rw [hR.1]
  refine ev_ic rfl (fun hc => ?_) (fun hc => ?_)
  · have h2 : 2000 ≤ l.length := (nI_leI (a := 2000) (by omega) (by omega)).mp hc
    refine ev_retv rfl rfl (h M ?_ Same.rf)
    unfold addB; rw [if_neg (by omega)]; exact hR
  · have h2 : l.length < 2000 := (nI_ltI (b := 2000) (by omega) (by omega)).mp (Int32.not_le.mp hc)
    refine ev_s rfl (?_ : Ev _ _ _ _ _ _)
    refine ev_getR rfl hb.1 rfl ?_
    refine ev_s rfl (?_ : Ev _ _ _ _ _ _)
    refine ev_getI rfl hb.1 rfl ?_
    rw [hR.1]
    refine ev_s rfl (?_ : Ev _ _ _ _ _ _)
    refine ev_s rfl (?_ : Ev _ _ _ _ _ _)
    refine ev_bast rfl hb.2.1 (vp_in_nI h2 (by omega)) ?_
    rw [nI_clamp (by omega), pk_vb]
    refine ev_s rfl (?_ : Ev _ _ _ _ _ _)
    refine ev_s rfl ⟨rfl, (?_ : Ev _ _ _ _ _ _)⟩
    refine ev_getI rfl hb.1 rfl ?_
    rw [mI_ne (Or.inl hb.2.2), hR.1]
    refine ev_s rfl (?_ : Ev _ _ _ _ _ _)
    refine ev_s rfl (?_ : Ev _ _ _ _ _ _)
    refine ev_putI rfl hb.1 rfl ?_
    have e1 : addB l (oct x) = l ++ [oct x] := if_pos h2
    rw [e1] at h
    refine ev_retv rfl rfl (h _ ⟨?_, by simp; omega, fun j w hw => ?_⟩ ?_)
    · rw [mI_at, nI_1]; simp
    · rw [mI_ne (Or.inl (Ne.symm hb.2.2))]
      by_cases hj : j = l.length
      · subst hj
        simp at hw
        subst hw
        exact ⟨oct_lt x, by rw [mI_at]; exact oct_b x⟩
      · have hj2 : j < l.length := by
          have := (List.getElem?_eq_some_iff.mp hw).1
          simp at this; omega
        rw [List.getElem?_append_left hj2] at hw
        rw [mI_ne (Or.inr hj)]
        exact hR.2.2 j w hw
    · exact (Same.I.tr Same.I).sub (fun k hk => by simp at hk ⊢; omega)
theorem bytes_clear {d b a : Nat} (hb : isBytes b a) {M : PM} {l : List Nat} (hR : BytesIs M b a l) {Q : Option (Option Value) → PM → Prop} (h : ∀ M', BytesIs M' b a [] → Same [b] M M' → Q (some none) M') : SC (d + 1) 4 [.ref b] M Q := by
  refine ⟨qX0_clear, rfl, ⟨Nat.le_of_ble_eq_true rfl, rfl, b, _, _, rfl, hb.1⟩, ?_⟩
  show Ev (BC d qX0_clear) Q 0 [some (.ref b)] [] M
  refine ev_s rfl (?_ : Ev _ _ _ _ _ _)
  refine ev_s rfl (?_ : Ev _ _ _ _ _ _)
  refine ev_putI rfl hb.1 rfl ?_
  exact ev_retv rfl rfl (h _ ⟨mI_at, by simp, fun j w hw => by simp at hw⟩ Same.I)
def b4 (x : Int32) : List Nat := [x.toBitVec.toNat / 2 ^ 24 % 256, x.toBitVec.toNat / 2 ^ 16 % 256, x.toBitVec.toNat / 2 ^ 8 % 256, x.toBitVec.toNat / 2 ^ 0 % 256]
theorem bytes_addNumber {d b a : Nat} (hb : isBytes b a) {x : Int32} {M : PM} {l : List Nat} (hR : BytesIs M b a l) (hl : l.length + 4 ≤ 2000) {Q : Option (Option Value) → PM → Prop} (h : ∀ M', BytesIs M' b a (l ++ b4 x) → Same [b, a] M M' → Q (some none) M') : SC (d + 2) 3 [.ref b, .int x] M Q := by
  refine ⟨qX0_addNumber, rfl, ⟨Nat.le_of_ble_eq_true rfl, rfl, b, _, _, rfl, hb.1⟩, ?_⟩
  show Ev (BC (d + 1) qX0_addNumber) Q 0 [some (.ref b), some (.int x), none] [] M
  have step : ∀ (s : Int32) (k : Nat) (M1 : PM) (l1 : List Nat), ((s.toUInt32 &&& Int32.toUInt32 31).toBitVec % 32).toNat = k → ¬ s < 0 → BytesIs M1 b a l1 → l1.length < 2000 → Same [b, a] M M1 →
      (∀ M2, BytesIs M2 b a (l1 ++ [x.toBitVec.toNat / 2 ^ k % 256]) → Same [b, a] M M2 → Ev (BC (d + 1) qX0_addNumber) Q 3 [some (.ref b), some (.int x), some (.int (s + -8))] [] M2) →
      Ev (BC (d + 1) qX0_addNumber) Q 3 [some (.ref b), some (.int x), some (.int s)] [] M1 := by
    intro s k M1 l1 hk hs h1 h2 h3 h4
    refine ev_s rfl (?_ : Ev _ _ _ _ _ _)
    refine ev_ifF rfl hs ?_
    repeat (refine ev_s rfl (?_ : Ev _ _ _ _ _ _))
    refine ev_cv rfl (as := [.ref b, .int ((x.toUInt32 >>> (s.toUInt32 &&& Int32.toUInt32 31)).toInt32)]) rfl rfl (Nat.le_of_ble_eq_true rfl) ?_
    refine bytes_add hb h1 (fun M2 g1 g2 => ?_)
    show Ev _ _ _ _ _ _
    refine ev_s rfl (?_ : Ev _ _ _ _ _ _)
    refine ev_s rfl (?_ : Ev _ _ _ _ _ _)
    rw [oct_ushr x s k hk, addB, if_pos h2] at g1
    exact h4 M2 g1 ((h3.tr g2).sub (fun k hk => by simp at hk ⊢; omega))
  refine ev_s rfl (?_ : Ev _ _ _ _ _ _)
  refine ev_s rfl (?_ : Ev _ _ _ _ _ _)
  refine step 24 24 M l (by decide) (by decide) hR (by omega) Same.rf (fun M1 g1 s1 => ?_)
  refine step (24 + -8) 16 M1 _ (by decide) (by decide) g1 (by simp; omega) s1 (fun M2 g2 s2 => ?_)
  refine step (24 + -8 + -8) 8 M2 _ (by decide) (by decide) g2 (by simp; omega) s2 (fun M3 g3 s3 => ?_)
  refine step (24 + -8 + -8 + -8) 0 M3 _ (by decide) (by decide) g3 (by simp; omega) s3 (fun M4 g4 s4 => ?_)
  refine ev_s rfl (?_ : Ev _ _ _ _ _ _)
  refine ev_ifT rfl (show (24 + -8 + -8 + -8 + -8 : Int32) < 0 by decide) ?_
  refine ev_retv rfl rfl (h M4 ?_ s4)
  simpa [b4] using g4
end
section
theorem zz_end : True := trivial
end
