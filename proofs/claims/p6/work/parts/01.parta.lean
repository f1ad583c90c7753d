section
-- ===== PART A: goes FIRST, ahead of the names: the tables' words, and 'selects' of the private methods out of them =====
/-- a private method of a class that the tables say can be made, by its rows of tables_1 -/
def lw_okq (q : MethodName × Nat) : Prop := (q.1.cls ≠ "java/lang/invoke/MethodHandle" ∧ q.1.cls ≠ "java/lang/invoke/VarHandle") ∧ Cond.instantiable q.1.cls q.2 ∈ tables_1 ∧ Cond.privateMethod q.1 ∈ tables_1 ∧ Cond.instanceMethod q.1 ∈ tables_1
theorem lw_p0 : lw_okq (⟨"java/lang/Throwable", "fillInStackTrace", "(I)Ljava/lang/Throwable;"⟩, 6) := ⟨⟨by decide +kernel, by decide +kernel⟩, List.mem_of_getElem? (i := 307) (by decide +kernel), List.mem_of_getElem? (i := 305) (by decide +kernel), List.mem_of_getElem? (i := 306) (by decide +kernel)⟩
theorem lw_p1 : lw_okq (⟨"FormulaTrees", "treeOf", "(I)LFormulaTrees$Tree;"⟩, 7) := ⟨⟨by decide +kernel, by decide +kernel⟩, List.mem_of_getElem? (i := 26) (by decide +kernel), List.mem_of_getElem? (i := 598) (by decide +kernel), List.mem_of_getElem? (i := 599) (by decide +kernel)⟩
theorem lw_p2 : lw_okq (⟨"FormulaTrees$Tree", "lose", "(I)V"⟩, 3) := ⟨⟨by decide +kernel, by decide +kernel⟩, List.mem_of_getElem? (i := 69) (by decide +kernel), List.mem_of_getElem? (i := 613) (by decide +kernel), List.mem_of_getElem? (i := 614) (by decide +kernel)⟩
theorem lw_p3 : lw_okq (⟨"FormulaTrees$Tree", "makePlain", "(III)V"⟩, 3) := ⟨⟨by decide +kernel, by decide +kernel⟩, List.mem_of_getElem? (i := 69) (by decide +kernel), List.mem_of_getElem? (i := 617) (by decide +kernel), List.mem_of_getElem? (i := 618) (by decide +kernel)⟩
theorem lw_p4 : lw_okq (⟨"FormulaTrees$Reader", "skipSpaces", "()V"⟩, 13) := ⟨⟨by decide +kernel, by decide +kernel⟩, List.mem_of_getElem? (i := 88) (by decide +kernel), List.mem_of_getElem? (i := 653) (by decide +kernel), List.mem_of_getElem? (i := 654) (by decide +kernel)⟩
theorem lw_p5 : lw_okq (⟨"FormulaTrees$Reader", "readBehindOperand", "(I)V"⟩, 13) := ⟨⟨by decide +kernel, by decide +kernel⟩, List.mem_of_getElem? (i := 88) (by decide +kernel), List.mem_of_getElem? (i := 659) (by decide +kernel), List.mem_of_getElem? (i := 660) (by decide +kernel)⟩
theorem lw_p6 : lw_okq (⟨"FormulaTrees$Reader", "readPercent", "()V"⟩, 13) := ⟨⟨by decide +kernel, by decide +kernel⟩, List.mem_of_getElem? (i := 88) (by decide +kernel), List.mem_of_getElem? (i := 663) (by decide +kernel), List.mem_of_getElem? (i := 664) (by decide +kernel)⟩
theorem lw_p7 : lw_okq (⟨"FormulaTrees$Reader", "hasRoom", "(I)Z"⟩, 13) := ⟨⟨by decide +kernel, by decide +kernel⟩, List.mem_of_getElem? (i := 88) (by decide +kernel), List.mem_of_getElem? (i := 667) (by decide +kernel), List.mem_of_getElem? (i := 668) (by decide +kernel)⟩
theorem lw_p8 : lw_okq (⟨"FormulaTrees$Reader", "endArgument", "(Z)V"⟩, 13) := ⟨⟨by decide +kernel, by decide +kernel⟩, List.mem_of_getElem? (i := 88) (by decide +kernel), List.mem_of_getElem? (i := 688) (by decide +kernel), List.mem_of_getElem? (i := 689) (by decide +kernel)⟩
theorem lw_p9 : lw_okq (⟨"FormulaTrees$Reader", "closeBrackets", "()V"⟩, 13) := ⟨⟨by decide +kernel, by decide +kernel⟩, List.mem_of_getElem? (i := 88) (by decide +kernel), List.mem_of_getElem? (i := 697) (by decide +kernel), List.mem_of_getElem? (i := 698) (by decide +kernel)⟩
theorem lw_p10 : lw_okq (⟨"FormulaTrees$Reader", "endOperand", "(I)V"⟩, 13) := ⟨⟨by decide +kernel, by decide +kernel⟩, List.mem_of_getElem? (i := 88) (by decide +kernel), List.mem_of_getElem? (i := 714) (by decide +kernel), List.mem_of_getElem? (i := 715) (by decide +kernel)⟩
theorem lw_p11 : lw_okq (⟨"FormulaTrees$Reader", "readBetween", "(I)V"⟩, 13) := ⟨⟨by decide +kernel, by decide +kernel⟩, List.mem_of_getElem? (i := 88) (by decide +kernel), List.mem_of_getElem? (i := 725) (by decide +kernel), List.mem_of_getElem? (i := 726) (by decide +kernel)⟩
theorem lw_p12 : lw_okq (⟨"FormulaTrees$Reader", "readReference", "()V"⟩, 13) := ⟨⟨by decide +kernel, by decide +kernel⟩, List.mem_of_getElem? (i := 88) (by decide +kernel), List.mem_of_getElem? (i := 740) (by decide +kernel), List.mem_of_getElem? (i := 741) (by decide +kernel)⟩
theorem lw_p13 : lw_okq (⟨"FormulaTrees$CellReader", "readColumn", "(LFormulaTrees$Letters;)Z"⟩, 4) := ⟨⟨by decide +kernel, by decide +kernel⟩, List.mem_of_getElem? (i := 96) (by decide +kernel), List.mem_of_getElem? (i := 749) (by decide +kernel), List.mem_of_getElem? (i := 750) (by decide +kernel)⟩
theorem lw_p14 : lw_okq (⟨"FormulaTrees$CellReader", "readRow", "(LFormulaTrees$Letters;)Z"⟩, 4) := ⟨⟨by decide +kernel, by decide +kernel⟩, List.mem_of_getElem? (i := 96) (by decide +kernel), List.mem_of_getElem? (i := 755) (by decide +kernel), List.mem_of_getElem? (i := 756) (by decide +kernel)⟩
theorem lw_p15 : lw_okq (⟨"FormulaTrees$Reader", "readRangeEnd", "()V"⟩, 13) := ⟨⟨by decide +kernel, by decide +kernel⟩, List.mem_of_getElem? (i := 88) (by decide +kernel), List.mem_of_getElem? (i := 789) (by decide +kernel), List.mem_of_getElem? (i := 790) (by decide +kernel)⟩
def lw_privs_1 : List (MethodName × Nat) := [(⟨"java/lang/Throwable", "fillInStackTrace", "(I)Ljava/lang/Throwable;"⟩, 6), (⟨"FormulaTrees", "treeOf", "(I)LFormulaTrees$Tree;"⟩, 7), (⟨"FormulaTrees$Tree", "lose", "(I)V"⟩, 3), (⟨"FormulaTrees$Tree", "makePlain", "(III)V"⟩, 3), (⟨"FormulaTrees$Reader", "skipSpaces", "()V"⟩, 13), (⟨"FormulaTrees$Reader", "readBehindOperand", "(I)V"⟩, 13), (⟨"FormulaTrees$Reader", "readPercent", "()V"⟩, 13), (⟨"FormulaTrees$Reader", "hasRoom", "(I)Z"⟩, 13), (⟨"FormulaTrees$Reader", "endArgument", "(Z)V"⟩, 13), (⟨"FormulaTrees$Reader", "closeBrackets", "()V"⟩, 13), (⟨"FormulaTrees$Reader", "endOperand", "(I)V"⟩, 13), (⟨"FormulaTrees$Reader", "readBetween", "(I)V"⟩, 13), (⟨"FormulaTrees$Reader", "readReference", "()V"⟩, 13), (⟨"FormulaTrees$CellReader", "readColumn", "(LFormulaTrees$Letters;)Z"⟩, 4), (⟨"FormulaTrees$CellReader", "readRow", "(LFormulaTrees$Letters;)Z"⟩, 4), (⟨"FormulaTrees$Reader", "readRangeEnd", "()V"⟩, 13)]
theorem lw_r1 : ∀ q ∈ lw_privs_1, lw_okq q := List.forall_mem_cons.mpr ⟨lw_p0, List.forall_mem_cons.mpr ⟨lw_p1, List.forall_mem_cons.mpr ⟨lw_p2, List.forall_mem_cons.mpr ⟨lw_p3, List.forall_mem_cons.mpr ⟨lw_p4, List.forall_mem_cons.mpr ⟨lw_p5, List.forall_mem_cons.mpr ⟨lw_p6, List.forall_mem_cons.mpr ⟨lw_p7, List.forall_mem_cons.mpr ⟨lw_p8, List.forall_mem_cons.mpr ⟨lw_p9, List.forall_mem_cons.mpr ⟨lw_p10, List.forall_mem_cons.mpr ⟨lw_p11, List.forall_mem_cons.mpr ⟨lw_p12, List.forall_mem_cons.mpr ⟨lw_p13, List.forall_mem_cons.mpr ⟨lw_p14, List.forall_mem_cons.mpr ⟨lw_p15, fun _ h => absurd h List.not_mem_nil⟩⟩⟩⟩⟩⟩⟩⟩⟩⟩⟩⟩⟩⟩⟩⟩
theorem lw_p16 : lw_okq (⟨"FormulaTrees$Tree", "putInOrder", "(I)V"⟩, 3) := ⟨⟨by decide +kernel, by decide +kernel⟩, List.mem_of_getElem? (i := 69) (by decide +kernel), List.mem_of_getElem? (i := 797) (by decide +kernel), List.mem_of_getElem? (i := 798) (by decide +kernel)⟩
theorem lw_p17 : lw_okq (⟨"FormulaTrees$Tree", "exchange", "(II)V"⟩, 3) := ⟨⟨by decide +kernel, by decide +kernel⟩, List.mem_of_getElem? (i := 69) (by decide +kernel), List.mem_of_getElem? (i := 801) (by decide +kernel), List.mem_of_getElem? (i := 802) (by decide +kernel)⟩
theorem lw_p18 : lw_okq (⟨"FormulaTrees$Reader", "readOperand", "(I)V"⟩, 13) := ⟨⟨by decide +kernel, by decide +kernel⟩, List.mem_of_getElem? (i := 88) (by decide +kernel), List.mem_of_getElem? (i := 805) (by decide +kernel), List.mem_of_getElem? (i := 806) (by decide +kernel)⟩
theorem lw_p19 : lw_okq (⟨"FormulaTrees$Reader", "readText", "()V"⟩, 13) := ⟨⟨by decide +kernel, by decide +kernel⟩, List.mem_of_getElem? (i := 88) (by decide +kernel), List.mem_of_getElem? (i := 809) (by decide +kernel), List.mem_of_getElem? (i := 810) (by decide +kernel)⟩
theorem lw_p20 : lw_okq (⟨"FormulaTrees$Reader", "holdQuoted", "(I)Z"⟩, 13) := ⟨⟨by decide +kernel, by decide +kernel⟩, List.mem_of_getElem? (i := 88) (by decide +kernel), List.mem_of_getElem? (i := 813) (by decide +kernel), List.mem_of_getElem? (i := 814) (by decide +kernel)⟩
theorem lw_p21 : lw_okq (⟨"FormulaTrees$Reader", "keepHeld", "(II)V"⟩, 13) := ⟨⟨by decide +kernel, by decide +kernel⟩, List.mem_of_getElem? (i := 88) (by decide +kernel), List.mem_of_getElem? (i := 819) (by decide +kernel), List.mem_of_getElem? (i := 820) (by decide +kernel)⟩
theorem lw_p22 : lw_okq (⟨"FormulaTrees$Reader", "readError", "()V"⟩, 13) := ⟨⟨by decide +kernel, by decide +kernel⟩, List.mem_of_getElem? (i := 88) (by decide +kernel), List.mem_of_getElem? (i := 830) (by decide +kernel), List.mem_of_getElem? (i := 831) (by decide +kernel)⟩
theorem lw_p23 : lw_okq (⟨"FormulaTrees$Reader", "errorThatBegins", "(II)I"⟩, 13) := ⟨⟨by decide +kernel, by decide +kernel⟩, List.mem_of_getElem? (i := 88) (by decide +kernel), List.mem_of_getElem? (i := 834) (by decide +kernel), List.mem_of_getElem? (i := 835) (by decide +kernel)⟩
theorem lw_p24 : lw_okq (⟨"FormulaTrees$Reader", "keepValue", "(III)V"⟩, 13) := ⟨⟨by decide +kernel, by decide +kernel⟩, List.mem_of_getElem? (i := 88) (by decide +kernel), List.mem_of_getElem? (i := 850) (by decide +kernel), List.mem_of_getElem? (i := 851) (by decide +kernel)⟩
theorem lw_p25 : lw_okq (⟨"FormulaTrees$Reader", "wantReference", "(II)V"⟩, 13) := ⟨⟨by decide +kernel, by decide +kernel⟩, List.mem_of_getElem? (i := 88) (by decide +kernel), List.mem_of_getElem? (i := 854) (by decide +kernel), List.mem_of_getElem? (i := 855) (by decide +kernel)⟩
theorem lw_p26 : lw_okq (⟨"FormulaTrees$Reader", "readQuotedPrefix", "()V"⟩, 13) := ⟨⟨by decide +kernel, by decide +kernel⟩, List.mem_of_getElem? (i := 88) (by decide +kernel), List.mem_of_getElem? (i := 858) (by decide +kernel), List.mem_of_getElem? (i := 859) (by decide +kernel)⟩
theorem lw_p27 : lw_okq (⟨"FormulaTrees$Reader", "endPrefix", "(I)V"⟩, 13) := ⟨⟨by decide +kernel, by decide +kernel⟩, List.mem_of_getElem? (i := 88) (by decide +kernel), List.mem_of_getElem? (i := 862) (by decide +kernel), List.mem_of_getElem? (i := 863) (by decide +kernel)⟩
theorem lw_p28 : lw_okq (⟨"FormulaTrees$Reader", "openBrackets", "(II)V"⟩, 13) := ⟨⟨by decide +kernel, by decide +kernel⟩, List.mem_of_getElem? (i := 88) (by decide +kernel), List.mem_of_getElem? (i := 867) (by decide +kernel), List.mem_of_getElem? (i := 868) (by decide +kernel)⟩
theorem lw_p29 : lw_okq (⟨"FormulaTrees$Reader", "readMinusBefore", "()V"⟩, 13) := ⟨⟨by decide +kernel, by decide +kernel⟩, List.mem_of_getElem? (i := 88) (by decide +kernel), List.mem_of_getElem? (i := 879) (by decide +kernel), List.mem_of_getElem? (i := 880) (by decide +kernel)⟩
theorem lw_p30 : lw_okq (⟨"FormulaTrees$Reader", "readNothing", "(Z)V"⟩, 13) := ⟨⟨by decide +kernel, by decide +kernel⟩, List.mem_of_getElem? (i := 88) (by decide +kernel), List.mem_of_getElem? (i := 883) (by decide +kernel), List.mem_of_getElem? (i := 884) (by decide +kernel)⟩
theorem lw_p31 : lw_okq (⟨"FormulaTrees$Reader", "readNumber", "()V"⟩, 13) := ⟨⟨by decide +kernel, by decide +kernel⟩, List.mem_of_getElem? (i := 88) (by decide +kernel), List.mem_of_getElem? (i := 888) (by decide +kernel), List.mem_of_getElem? (i := 889) (by decide +kernel)⟩
def lw_privs_2 : List (MethodName × Nat) := [(⟨"FormulaTrees$Tree", "putInOrder", "(I)V"⟩, 3), (⟨"FormulaTrees$Tree", "exchange", "(II)V"⟩, 3), (⟨"FormulaTrees$Reader", "readOperand", "(I)V"⟩, 13), (⟨"FormulaTrees$Reader", "readText", "()V"⟩, 13), (⟨"FormulaTrees$Reader", "holdQuoted", "(I)Z"⟩, 13), (⟨"FormulaTrees$Reader", "keepHeld", "(II)V"⟩, 13), (⟨"FormulaTrees$Reader", "readError", "()V"⟩, 13), (⟨"FormulaTrees$Reader", "errorThatBegins", "(II)I"⟩, 13), (⟨"FormulaTrees$Reader", "keepValue", "(III)V"⟩, 13), (⟨"FormulaTrees$Reader", "wantReference", "(II)V"⟩, 13), (⟨"FormulaTrees$Reader", "readQuotedPrefix", "()V"⟩, 13), (⟨"FormulaTrees$Reader", "endPrefix", "(I)V"⟩, 13), (⟨"FormulaTrees$Reader", "openBrackets", "(II)V"⟩, 13), (⟨"FormulaTrees$Reader", "readMinusBefore", "()V"⟩, 13), (⟨"FormulaTrees$Reader", "readNothing", "(Z)V"⟩, 13), (⟨"FormulaTrees$Reader", "readNumber", "()V"⟩, 13)]
theorem lw_r2 : ∀ q ∈ lw_privs_2, lw_okq q := List.forall_mem_cons.mpr ⟨lw_p16, List.forall_mem_cons.mpr ⟨lw_p17, List.forall_mem_cons.mpr ⟨lw_p18, List.forall_mem_cons.mpr ⟨lw_p19, List.forall_mem_cons.mpr ⟨lw_p20, List.forall_mem_cons.mpr ⟨lw_p21, List.forall_mem_cons.mpr ⟨lw_p22, List.forall_mem_cons.mpr ⟨lw_p23, List.forall_mem_cons.mpr ⟨lw_p24, List.forall_mem_cons.mpr ⟨lw_p25, List.forall_mem_cons.mpr ⟨lw_p26, List.forall_mem_cons.mpr ⟨lw_p27, List.forall_mem_cons.mpr ⟨lw_p28, List.forall_mem_cons.mpr ⟨lw_p29, List.forall_mem_cons.mpr ⟨lw_p30, List.forall_mem_cons.mpr ⟨lw_p31, fun _ h => absurd h List.not_mem_nil⟩⟩⟩⟩⟩⟩⟩⟩⟩⟩⟩⟩⟩⟩⟩⟩
theorem lw_p32 : lw_okq (⟨"FormulaTrees$Reader", "skipDigits", "(I)I"⟩, 13) := ⟨⟨by decide +kernel, by decide +kernel⟩, List.mem_of_getElem? (i := 88) (by decide +kernel), List.mem_of_getElem? (i := 892) (by decide +kernel), List.mem_of_getElem? (i := 893) (by decide +kernel)⟩
theorem lw_p33 : lw_okq (⟨"FormulaTrees$Reader", "hold", "(II)V"⟩, 13) := ⟨⟨by decide +kernel, by decide +kernel⟩, List.mem_of_getElem? (i := 88) (by decide +kernel), List.mem_of_getElem? (i := 897) (by decide +kernel), List.mem_of_getElem? (i := 898) (by decide +kernel)⟩
theorem lw_p34 : lw_okq (⟨"FormulaTrees$Reader", "readWord", "()V"⟩, 13) := ⟨⟨by decide +kernel, by decide +kernel⟩, List.mem_of_getElem? (i := 88) (by decide +kernel), List.mem_of_getElem? (i := 902) (by decide +kernel), List.mem_of_getElem? (i := 903) (by decide +kernel)⟩
theorem lw_p35 : lw_okq (⟨"FormulaTrees$Reader", "keepWord", "(IIZ)V"⟩, 13) := ⟨⟨by decide +kernel, by decide +kernel⟩, List.mem_of_getElem? (i := 88) (by decide +kernel), List.mem_of_getElem? (i := 907) (by decide +kernel), List.mem_of_getElem? (i := 908) (by decide +kernel)⟩
theorem lw_p36 : lw_okq (⟨"FormulaTrees$Tree", "isReference", "(I)Z"⟩, 3) := ⟨⟨by decide +kernel, by decide +kernel⟩, List.mem_of_getElem? (i := 69) (by decide +kernel), List.mem_of_getElem? (i := 937) (by decide +kernel), List.mem_of_getElem? (i := 938) (by decide +kernel)⟩
theorem lw_p37 : lw_okq (⟨"FormulaTrees$Tree", "moveNode", "(III)V"⟩, 3) := ⟨⟨by decide +kernel, by decide +kernel⟩, List.mem_of_getElem? (i := 69) (by decide +kernel), List.mem_of_getElem? (i := 941) (by decide +kernel), List.mem_of_getElem? (i := 942) (by decide +kernel)⟩
theorem lw_p38 : lw_okq (⟨"FormulaTrees$Tree", "hasDollar", "(II)Z"⟩, 3) := ⟨⟨by decide +kernel, by decide +kernel⟩, List.mem_of_getElem? (i := 69) (by decide +kernel), List.mem_of_getElem? (i := 945) (by decide +kernel), List.mem_of_getElem? (i := 946) (by decide +kernel)⟩
theorem lw_p39 : lw_okq (⟨"FormulaTrees$Tree", "takeOut", "(IZII)Z"⟩, 3) := ⟨⟨by decide +kernel, by decide +kernel⟩, List.mem_of_getElem? (i := 69) (by decide +kernel), List.mem_of_getElem? (i := 965) (by decide +kernel), List.mem_of_getElem? (i := 966) (by decide +kernel)⟩
theorem lw_p40 : lw_okq (⟨"FormulaTrees$Tree", "putIn", "(IZII)Z"⟩, 3) := ⟨⟨by decide +kernel, by decide +kernel⟩, List.mem_of_getElem? (i := 69) (by decide +kernel), List.mem_of_getElem? (i := 970) (by decide +kernel), List.mem_of_getElem? (i := 971) (by decide +kernel)⟩
theorem lw_p41 : lw_okq (⟨"FormulaTrees$Writer", "begin", "(Z)V"⟩, 11) := ⟨⟨by decide +kernel, by decide +kernel⟩, List.mem_of_getElem? (i := 190) (by decide +kernel), List.mem_of_getElem? (i := 994) (by decide +kernel), List.mem_of_getElem? (i := 995) (by decide +kernel)⟩
theorem lw_p42 : lw_okq (⟨"FormulaTrees$Writer", "write", "(I)V"⟩, 11) := ⟨⟨by decide +kernel, by decide +kernel⟩, List.mem_of_getElem? (i := 190) (by decide +kernel), List.mem_of_getElem? (i := 998) (by decide +kernel), List.mem_of_getElem? (i := 999) (by decide +kernel)⟩
theorem lw_p43 : lw_okq (⟨"FormulaTrees$Writer", "writeBeginning", "(I)V"⟩, 11) := ⟨⟨by decide +kernel, by decide +kernel⟩, List.mem_of_getElem? (i := 190) (by decide +kernel), List.mem_of_getElem? (i := 1002) (by decide +kernel), List.mem_of_getElem? (i := 1003) (by decide +kernel)⟩
theorem lw_p44 : lw_okq (⟨"FormulaTrees$Writer", "writeLetters", "(I)V"⟩, 11) := ⟨⟨by decide +kernel, by decide +kernel⟩, List.mem_of_getElem? (i := 190) (by decide +kernel), List.mem_of_getElem? (i := 1007) (by decide +kernel), List.mem_of_getElem? (i := 1008) (by decide +kernel)⟩
theorem lw_p45 : lw_okq (⟨"FormulaTrees$Writer", "writeText", "(I)V"⟩, 11) := ⟨⟨by decide +kernel, by decide +kernel⟩, List.mem_of_getElem? (i := 190) (by decide +kernel), List.mem_of_getElem? (i := 1015) (by decide +kernel), List.mem_of_getElem? (i := 1016) (by decide +kernel)⟩
theorem lw_p46 : lw_okq (⟨"FormulaTrees$Writer", "writeDoubling", "(II)V"⟩, 11) := ⟨⟨by decide +kernel, by decide +kernel⟩, List.mem_of_getElem? (i := 190) (by decide +kernel), List.mem_of_getElem? (i := 1019) (by decide +kernel), List.mem_of_getElem? (i := 1020) (by decide +kernel)⟩
theorem lw_p47 : lw_okq (⟨"FormulaTrees$Writer", "writeAll", "(Ljava/lang/String;)V"⟩, 11) := ⟨⟨by decide +kernel, by decide +kernel⟩, List.mem_of_getElem? (i := 190) (by decide +kernel), List.mem_of_getElem? (i := 1024) (by decide +kernel), List.mem_of_getElem? (i := 1025) (by decide +kernel)⟩
def lw_privs_3 : List (MethodName × Nat) := [(⟨"FormulaTrees$Reader", "skipDigits", "(I)I"⟩, 13), (⟨"FormulaTrees$Reader", "hold", "(II)V"⟩, 13), (⟨"FormulaTrees$Reader", "readWord", "()V"⟩, 13), (⟨"FormulaTrees$Reader", "keepWord", "(IIZ)V"⟩, 13), (⟨"FormulaTrees$Tree", "isReference", "(I)Z"⟩, 3), (⟨"FormulaTrees$Tree", "moveNode", "(III)V"⟩, 3), (⟨"FormulaTrees$Tree", "hasDollar", "(II)Z"⟩, 3), (⟨"FormulaTrees$Tree", "takeOut", "(IZII)Z"⟩, 3), (⟨"FormulaTrees$Tree", "putIn", "(IZII)Z"⟩, 3), (⟨"FormulaTrees$Writer", "begin", "(Z)V"⟩, 11), (⟨"FormulaTrees$Writer", "write", "(I)V"⟩, 11), (⟨"FormulaTrees$Writer", "writeBeginning", "(I)V"⟩, 11), (⟨"FormulaTrees$Writer", "writeLetters", "(I)V"⟩, 11), (⟨"FormulaTrees$Writer", "writeText", "(I)V"⟩, 11), (⟨"FormulaTrees$Writer", "writeDoubling", "(II)V"⟩, 11), (⟨"FormulaTrees$Writer", "writeAll", "(Ljava/lang/String;)V"⟩, 11)]
theorem lw_r3 : ∀ q ∈ lw_privs_3, lw_okq q := List.forall_mem_cons.mpr ⟨lw_p32, List.forall_mem_cons.mpr ⟨lw_p33, List.forall_mem_cons.mpr ⟨lw_p34, List.forall_mem_cons.mpr ⟨lw_p35, List.forall_mem_cons.mpr ⟨lw_p36, List.forall_mem_cons.mpr ⟨lw_p37, List.forall_mem_cons.mpr ⟨lw_p38, List.forall_mem_cons.mpr ⟨lw_p39, List.forall_mem_cons.mpr ⟨lw_p40, List.forall_mem_cons.mpr ⟨lw_p41, List.forall_mem_cons.mpr ⟨lw_p42, List.forall_mem_cons.mpr ⟨lw_p43, List.forall_mem_cons.mpr ⟨lw_p44, List.forall_mem_cons.mpr ⟨lw_p45, List.forall_mem_cons.mpr ⟨lw_p46, List.forall_mem_cons.mpr ⟨lw_p47, fun _ h => absurd h List.not_mem_nil⟩⟩⟩⟩⟩⟩⟩⟩⟩⟩⟩⟩⟩⟩⟩⟩
theorem lw_p48 : lw_okq (⟨"FormulaTrees$Writer", "writeReference", "(I)V"⟩, 11) := ⟨⟨by decide +kernel, by decide +kernel⟩, List.mem_of_getElem? (i := 190) (by decide +kernel), List.mem_of_getElem? (i := 1032) (by decide +kernel), List.mem_of_getElem? (i := 1033) (by decide +kernel)⟩
theorem lw_p49 : lw_okq (⟨"FormulaTrees$Writer", "writePrefix", "(I)V"⟩, 11) := ⟨⟨by decide +kernel, by decide +kernel⟩, List.mem_of_getElem? (i := 190) (by decide +kernel), List.mem_of_getElem? (i := 1036) (by decide +kernel), List.mem_of_getElem? (i := 1037) (by decide +kernel)⟩
theorem lw_p50 : lw_okq (⟨"FormulaTrees$Writer", "writeCell", "(III)V"⟩, 11) := ⟨⟨by decide +kernel, by decide +kernel⟩, List.mem_of_getElem? (i := 190) (by decide +kernel), List.mem_of_getElem? (i := 1048) (by decide +kernel), List.mem_of_getElem? (i := 1049) (by decide +kernel)⟩
theorem lw_p51 : lw_okq (⟨"FormulaTrees$Writer", "writeColumn", "(I)V"⟩, 11) := ⟨⟨by decide +kernel, by decide +kernel⟩, List.mem_of_getElem? (i := 190) (by decide +kernel), List.mem_of_getElem? (i := 1052) (by decide +kernel), List.mem_of_getElem? (i := 1053) (by decide +kernel)⟩
theorem lw_p52 : lw_okq (⟨"FormulaTrees$Writer", "writeRow", "(I)V"⟩, 11) := ⟨⟨by decide +kernel, by decide +kernel⟩, List.mem_of_getElem? (i := 190) (by decide +kernel), List.mem_of_getElem? (i := 1056) (by decide +kernel), List.mem_of_getElem? (i := 1057) (by decide +kernel)⟩
theorem lw_p53 : lw_okq (⟨"FormulaTrees$Writer", "goOn", "(II)V"⟩, 11) := ⟨⟨by decide +kernel, by decide +kernel⟩, List.mem_of_getElem? (i := 190) (by decide +kernel), List.mem_of_getElem? (i := 1061) (by decide +kernel), List.mem_of_getElem? (i := 1062) (by decide +kernel)⟩
theorem lw_p54 : lw_okq (⟨"FormulaTrees$Writer", "end", "(I)V"⟩, 11) := ⟨⟨by decide +kernel, by decide +kernel⟩, List.mem_of_getElem? (i := 190) (by decide +kernel), List.mem_of_getElem? (i := 1065) (by decide +kernel), List.mem_of_getElem? (i := 1066) (by decide +kernel)⟩
theorem lw_p55 : lw_okq (⟨"FormulaTrees$Writer", "needsBrackets", "(II)Z"⟩, 11) := ⟨⟨by decide +kernel, by decide +kernel⟩, List.mem_of_getElem? (i := 190) (by decide +kernel), List.mem_of_getElem? (i := 1085) (by decide +kernel), List.mem_of_getElem? (i := 1086) (by decide +kernel)⟩
theorem lw_p56 : lw_okq (⟨"FormulaTrees$Tree", "hasLikeNode", "(LFormulaTrees$Tree;I)Z"⟩, 3) := ⟨⟨by decide +kernel, by decide +kernel⟩, List.mem_of_getElem? (i := 69) (by decide +kernel), List.mem_of_getElem? (i := 1131) (by decide +kernel), List.mem_of_getElem? (i := 1132) (by decide +kernel)⟩
theorem lw_p57 : lw_okq (⟨"FormulaTrees", "formulasThere", "()I"⟩, 7) := ⟨⟨by decide +kernel, by decide +kernel⟩, List.mem_of_getElem? (i := 26) (by decide +kernel), List.mem_of_getElem? (i := 1148) (by decide +kernel), List.mem_of_getElem? (i := 1149) (by decide +kernel)⟩
theorem lw_p58 : lw_okq (⟨"FormulaTreesModel", "isName", "()Z"⟩, 45) := ⟨⟨by decide +kernel, by decide +kernel⟩, List.mem_of_getElem? (i := 1160) (by decide +kernel), List.mem_of_getElem? (i := 1318) (by decide +kernel), List.mem_of_getElem? (i := 1319) (by decide +kernel)⟩
theorem lw_p59 : lw_okq (⟨"FormulaTreesModel", "ch", "(I)I"⟩, 45) := ⟨⟨by decide +kernel, by decide +kernel⟩, List.mem_of_getElem? (i := 1160) (by decide +kernel), List.mem_of_getElem? (i := 1322) (by decide +kernel), List.mem_of_getElem? (i := 1323) (by decide +kernel)⟩
theorem lw_p60 : lw_okq (⟨"FormulaTreesModel", "sheetNamed", "([III)I"⟩, 45) := ⟨⟨by decide +kernel, by decide +kernel⟩, List.mem_of_getElem? (i := 1160) (by decide +kernel), List.mem_of_getElem? (i := 1326) (by decide +kernel), List.mem_of_getElem? (i := 1327) (by decide +kernel)⟩
theorem lw_p61 : lw_okq (⟨"FormulaTreesModel", "setName", "(I)V"⟩, 45) := ⟨⟨by decide +kernel, by decide +kernel⟩, List.mem_of_getElem? (i := 1160) (by decide +kernel), List.mem_of_getElem? (i := 1333) (by decide +kernel), List.mem_of_getElem? (i := 1334) (by decide +kernel)⟩
theorem lw_p62 : lw_okq (⟨"FormulaTreesModel", "noSheet", "(I)Z"⟩, 45) := ⟨⟨by decide +kernel, by decide +kernel⟩, List.mem_of_getElem? (i := 1160) (by decide +kernel), List.mem_of_getElem? (i := 1341) (by decide +kernel), List.mem_of_getElem? (i := 1342) (by decide +kernel)⟩
theorem lw_p63 : lw_okq (⟨"FormulaTreesModel", "lose", "(I)V"⟩, 45) := ⟨⟨by decide +kernel, by decide +kernel⟩, List.mem_of_getElem? (i := 1160) (by decide +kernel), List.mem_of_getElem? (i := 1349) (by decide +kernel), List.mem_of_getElem? (i := 1350) (by decide +kernel)⟩
def lw_privs_4 : List (MethodName × Nat) := [(⟨"FormulaTrees$Writer", "writeReference", "(I)V"⟩, 11), (⟨"FormulaTrees$Writer", "writePrefix", "(I)V"⟩, 11), (⟨"FormulaTrees$Writer", "writeCell", "(III)V"⟩, 11), (⟨"FormulaTrees$Writer", "writeColumn", "(I)V"⟩, 11), (⟨"FormulaTrees$Writer", "writeRow", "(I)V"⟩, 11), (⟨"FormulaTrees$Writer", "goOn", "(II)V"⟩, 11), (⟨"FormulaTrees$Writer", "end", "(I)V"⟩, 11), (⟨"FormulaTrees$Writer", "needsBrackets", "(II)Z"⟩, 11), (⟨"FormulaTrees$Tree", "hasLikeNode", "(LFormulaTrees$Tree;I)Z"⟩, 3), (⟨"FormulaTrees", "formulasThere", "()I"⟩, 7), (⟨"FormulaTreesModel", "isName", "()Z"⟩, 45), (⟨"FormulaTreesModel", "ch", "(I)I"⟩, 45), (⟨"FormulaTreesModel", "sheetNamed", "([III)I"⟩, 45), (⟨"FormulaTreesModel", "setName", "(I)V"⟩, 45), (⟨"FormulaTreesModel", "noSheet", "(I)Z"⟩, 45), (⟨"FormulaTreesModel", "lose", "(I)V"⟩, 45)]
theorem lw_r4 : ∀ q ∈ lw_privs_4, lw_okq q := List.forall_mem_cons.mpr ⟨lw_p48, List.forall_mem_cons.mpr ⟨lw_p49, List.forall_mem_cons.mpr ⟨lw_p50, List.forall_mem_cons.mpr ⟨lw_p51, List.forall_mem_cons.mpr ⟨lw_p52, List.forall_mem_cons.mpr ⟨lw_p53, List.forall_mem_cons.mpr ⟨lw_p54, List.forall_mem_cons.mpr ⟨lw_p55, List.forall_mem_cons.mpr ⟨lw_p56, List.forall_mem_cons.mpr ⟨lw_p57, List.forall_mem_cons.mpr ⟨lw_p58, List.forall_mem_cons.mpr ⟨lw_p59, List.forall_mem_cons.mpr ⟨lw_p60, List.forall_mem_cons.mpr ⟨lw_p61, List.forall_mem_cons.mpr ⟨lw_p62, List.forall_mem_cons.mpr ⟨lw_p63, fun _ h => absurd h List.not_mem_nil⟩⟩⟩⟩⟩⟩⟩⟩⟩⟩⟩⟩⟩⟩⟩⟩
theorem lw_p64 : lw_okq (⟨"FormulaTreesModel", "readOperand", "()V"⟩, 45) := ⟨⟨by decide +kernel, by decide +kernel⟩, List.mem_of_getElem? (i := 1160) (by decide +kernel), List.mem_of_getElem? (i := 1357) (by decide +kernel), List.mem_of_getElem? (i := 1358) (by decide +kernel)⟩
theorem lw_p65 : lw_okq (⟨"FormulaTreesModel", "fail", "(I)V"⟩, 45) := ⟨⟨by decide +kernel, by decide +kernel⟩, List.mem_of_getElem? (i := 1160) (by decide +kernel), List.mem_of_getElem? (i := 1361) (by decide +kernel), List.mem_of_getElem? (i := 1362) (by decide +kernel)⟩
theorem lw_p66 : lw_okq (⟨"FormulaTreesModel", "make", "(I)I"⟩, 45) := ⟨⟨by decide +kernel, by decide +kernel⟩, List.mem_of_getElem? (i := 1160) (by decide +kernel), List.mem_of_getElem? (i := 1365) (by decide +kernel), List.mem_of_getElem? (i := 1366) (by decide +kernel)⟩
theorem lw_p67 : lw_okq (⟨"FormulaTreesModel", "hold", "(II)V"⟩, 45) := ⟨⟨by decide +kernel, by decide +kernel⟩, List.mem_of_getElem? (i := 1160) (by decide +kernel), List.mem_of_getElem? (i := 1369) (by decide +kernel), List.mem_of_getElem? (i := 1370) (by decide +kernel)⟩
theorem lw_p68 : lw_okq (⟨"FormulaTreesModel", "close", "()V"⟩, 45) := ⟨⟨by decide +kernel, by decide +kernel⟩, List.mem_of_getElem? (i := 1160) (by decide +kernel), List.mem_of_getElem? (i := 1373) (by decide +kernel), List.mem_of_getElem? (i := 1374) (by decide +kernel)⟩
theorem lw_p69 : lw_okq (⟨"FormulaTreesModel", "reduce", "(I)V"⟩, 45) := ⟨⟨by decide +kernel, by decide +kernel⟩, List.mem_of_getElem? (i := 1160) (by decide +kernel), List.mem_of_getElem? (i := 1377) (by decide +kernel), List.mem_of_getElem? (i := 1378) (by decide +kernel)⟩
theorem lw_p70 : lw_okq (⟨"FormulaTreesModel", "pop", "()I"⟩, 45) := ⟨⟨by decide +kernel, by decide +kernel⟩, List.mem_of_getElem? (i := 1160) (by decide +kernel), List.mem_of_getElem? (i := 1384) (by decide +kernel), List.mem_of_getElem? (i := 1385) (by decide +kernel)⟩
theorem lw_p71 : lw_okq (⟨"FormulaTreesModel", "child", "(II)V"⟩, 45) := ⟨⟨by decide +kernel, by decide +kernel⟩, List.mem_of_getElem? (i := 1160) (by decide +kernel), List.mem_of_getElem? (i := 1388) (by decide +kernel), List.mem_of_getElem? (i := 1389) (by decide +kernel)⟩
theorem lw_p72 : lw_okq (⟨"FormulaTreesModel", "push", "(I)V"⟩, 45) := ⟨⟨by decide +kernel, by decide +kernel⟩, List.mem_of_getElem? (i := 1160) (by decide +kernel), List.mem_of_getElem? (i := 1392) (by decide +kernel), List.mem_of_getElem? (i := 1393) (by decide +kernel)⟩
theorem lw_p73 : lw_okq (⟨"FormulaTreesModel", "readPrimary", "()V"⟩, 45) := ⟨⟨by decide +kernel, by decide +kernel⟩, List.mem_of_getElem? (i := 1160) (by decide +kernel), List.mem_of_getElem? (i := 1396) (by decide +kernel), List.mem_of_getElem? (i := 1397) (by decide +kernel)⟩
theorem lw_p74 : lw_okq (⟨"FormulaTreesModel", "readNumber", "()V"⟩, 45) := ⟨⟨by decide +kernel, by decide +kernel⟩, List.mem_of_getElem? (i := 1160) (by decide +kernel), List.mem_of_getElem? (i := 1409) (by decide +kernel), List.mem_of_getElem? (i := 1410) (by decide +kernel)⟩
theorem lw_p75 : lw_okq (⟨"FormulaTreesModel", "keep", "(IIZ)V"⟩, 45) := ⟨⟨by decide +kernel, by decide +kernel⟩, List.mem_of_getElem? (i := 1160) (by decide +kernel), List.mem_of_getElem? (i := 1413) (by decide +kernel), List.mem_of_getElem? (i := 1414) (by decide +kernel)⟩
theorem lw_p76 : lw_okq (⟨"FormulaTreesModel", "readText", "()V"⟩, 45) := ⟨⟨by decide +kernel, by decide +kernel⟩, List.mem_of_getElem? (i := 1160) (by decide +kernel), List.mem_of_getElem? (i := 1417) (by decide +kernel), List.mem_of_getElem? (i := 1418) (by decide +kernel)⟩
theorem lw_p77 : lw_okq (⟨"FormulaTreesModel", "readQuoted", "(I)V"⟩, 45) := ⟨⟨by decide +kernel, by decide +kernel⟩, List.mem_of_getElem? (i := 1160) (by decide +kernel), List.mem_of_getElem? (i := 1421) (by decide +kernel), List.mem_of_getElem? (i := 1422) (by decide +kernel)⟩
theorem lw_p78 : lw_okq (⟨"FormulaTreesModel", "readError", "()V"⟩, 45) := ⟨⟨by decide +kernel, by decide +kernel⟩, List.mem_of_getElem? (i := 1160) (by decide +kernel), List.mem_of_getElem? (i := 1425) (by decide +kernel), List.mem_of_getElem? (i := 1426) (by decide +kernel)⟩
theorem lw_p79 : lw_okq (⟨"FormulaTreesModel", "readPrefix", "()V"⟩, 45) := ⟨⟨by decide +kernel, by decide +kernel⟩, List.mem_of_getElem? (i := 1160) (by decide +kernel), List.mem_of_getElem? (i := 1440) (by decide +kernel), List.mem_of_getElem? (i := 1441) (by decide +kernel)⟩
def lw_privs_5 : List (MethodName × Nat) := [(⟨"FormulaTreesModel", "readOperand", "()V"⟩, 45), (⟨"FormulaTreesModel", "fail", "(I)V"⟩, 45), (⟨"FormulaTreesModel", "make", "(I)I"⟩, 45), (⟨"FormulaTreesModel", "hold", "(II)V"⟩, 45), (⟨"FormulaTreesModel", "close", "()V"⟩, 45), (⟨"FormulaTreesModel", "reduce", "(I)V"⟩, 45), (⟨"FormulaTreesModel", "pop", "()I"⟩, 45), (⟨"FormulaTreesModel", "child", "(II)V"⟩, 45), (⟨"FormulaTreesModel", "push", "(I)V"⟩, 45), (⟨"FormulaTreesModel", "readPrimary", "()V"⟩, 45), (⟨"FormulaTreesModel", "readNumber", "()V"⟩, 45), (⟨"FormulaTreesModel", "keep", "(IIZ)V"⟩, 45), (⟨"FormulaTreesModel", "readText", "()V"⟩, 45), (⟨"FormulaTreesModel", "readQuoted", "(I)V"⟩, 45), (⟨"FormulaTreesModel", "readError", "()V"⟩, 45), (⟨"FormulaTreesModel", "readPrefix", "()V"⟩, 45)]
theorem lw_r5 : ∀ q ∈ lw_privs_5, lw_okq q := List.forall_mem_cons.mpr ⟨lw_p64, List.forall_mem_cons.mpr ⟨lw_p65, List.forall_mem_cons.mpr ⟨lw_p66, List.forall_mem_cons.mpr ⟨lw_p67, List.forall_mem_cons.mpr ⟨lw_p68, List.forall_mem_cons.mpr ⟨lw_p69, List.forall_mem_cons.mpr ⟨lw_p70, List.forall_mem_cons.mpr ⟨lw_p71, List.forall_mem_cons.mpr ⟨lw_p72, List.forall_mem_cons.mpr ⟨lw_p73, List.forall_mem_cons.mpr ⟨lw_p74, List.forall_mem_cons.mpr ⟨lw_p75, List.forall_mem_cons.mpr ⟨lw_p76, List.forall_mem_cons.mpr ⟨lw_p77, List.forall_mem_cons.mpr ⟨lw_p78, List.forall_mem_cons.mpr ⟨lw_p79, fun _ h => absurd h List.not_mem_nil⟩⟩⟩⟩⟩⟩⟩⟩⟩⟩⟩⟩⟩⟩⟩⟩
theorem lw_p80 : lw_okq (⟨"FormulaTreesModel", "readSheetCell", "(II)V"⟩, 45) := ⟨⟨by decide +kernel, by decide +kernel⟩, List.mem_of_getElem? (i := 1160) (by decide +kernel), List.mem_of_getElem? (i := 1444) (by decide +kernel), List.mem_of_getElem? (i := 1445) (by decide +kernel)⟩
theorem lw_p81 : lw_okq (⟨"FormulaTreesModel", "readCell", "()V"⟩, 45) := ⟨⟨by decide +kernel, by decide +kernel⟩, List.mem_of_getElem? (i := 1160) (by decide +kernel), List.mem_of_getElem? (i := 1448) (by decide +kernel), List.mem_of_getElem? (i := 1449) (by decide +kernel)⟩
theorem lw_p82 : lw_okq (⟨"FormulaTreesModel", "readRow", "()V"⟩, 45) := ⟨⟨by decide +kernel, by decide +kernel⟩, List.mem_of_getElem? (i := 1160) (by decide +kernel), List.mem_of_getElem? (i := 1452) (by decide +kernel), List.mem_of_getElem? (i := 1453) (by decide +kernel)⟩
theorem lw_p83 : lw_okq (⟨"FormulaTreesModel", "makeCell", "(I)V"⟩, 45) := ⟨⟨by decide +kernel, by decide +kernel⟩, List.mem_of_getElem? (i := 1160) (by decide +kernel), List.mem_of_getElem? (i := 1457) (by decide +kernel), List.mem_of_getElem? (i := 1458) (by decide +kernel)⟩
theorem lw_p84 : lw_okq (⟨"FormulaTreesModel", "readWord", "()V"⟩, 45) := ⟨⟨by decide +kernel, by decide +kernel⟩, List.mem_of_getElem? (i := 1160) (by decide +kernel), List.mem_of_getElem? (i := 1461) (by decide +kernel), List.mem_of_getElem? (i := 1462) (by decide +kernel)⟩
theorem lw_p85 : lw_okq (⟨"FormulaTreesModel", "lettersOf", "(II)I"⟩, 45) := ⟨⟨by decide +kernel, by decide +kernel⟩, List.mem_of_getElem? (i := 1160) (by decide +kernel), List.mem_of_getElem? (i := 1468) (by decide +kernel), List.mem_of_getElem? (i := 1469) (by decide +kernel)⟩
theorem lw_p86 : lw_okq (⟨"FormulaTreesModel", "columnOf", "(II)I"⟩, 45) := ⟨⟨by decide +kernel, by decide +kernel⟩, List.mem_of_getElem? (i := 1160) (by decide +kernel), List.mem_of_getElem? (i := 1472) (by decide +kernel), List.mem_of_getElem? (i := 1473) (by decide +kernel)⟩
theorem lw_p87 : lw_okq (⟨"FormulaTreesModel", "isCell", "(II)Z"⟩, 45) := ⟨⟨by decide +kernel, by decide +kernel⟩, List.mem_of_getElem? (i := 1160) (by decide +kernel), List.mem_of_getElem? (i := 1476) (by decide +kernel), List.mem_of_getElem? (i := 1477) (by decide +kernel)⟩
theorem lw_p88 : lw_okq (⟨"FormulaTreesModel", "isWord", "(IIJI)Z"⟩, 45) := ⟨⟨by decide +kernel, by decide +kernel⟩, List.mem_of_getElem? (i := 1160) (by decide +kernel), List.mem_of_getElem? (i := 1481) (by decide +kernel), List.mem_of_getElem? (i := 1482) (by decide +kernel)⟩
theorem lw_p89 : lw_okq (⟨"FormulaTreesModel", "readBehind", "()V"⟩, 45) := ⟨⟨by decide +kernel, by decide +kernel⟩, List.mem_of_getElem? (i := 1160) (by decide +kernel), List.mem_of_getElem? (i := 1486) (by decide +kernel), List.mem_of_getElem? (i := 1487) (by decide +kernel)⟩
theorem lw_p90 : lw_okq (⟨"FormulaTreesModel", "operator", "()I"⟩, 45) := ⟨⟨by decide +kernel, by decide +kernel⟩, List.mem_of_getElem? (i := 1160) (by decide +kernel), List.mem_of_getElem? (i := 1490) (by decide +kernel), List.mem_of_getElem? (i := 1491) (by decide +kernel)⟩
theorem lw_p91 : lw_okq (⟨"FormulaTreesModel", "readRange", "()V"⟩, 45) := ⟨⟨by decide +kernel, by decide +kernel⟩, List.mem_of_getElem? (i := 1160) (by decide +kernel), List.mem_of_getElem? (i := 1494) (by decide +kernel), List.mem_of_getElem? (i := 1495) (by decide +kernel)⟩
theorem lw_p92 : lw_okq (⟨"FormulaTreesModel", "sort", "(I)V"⟩, 45) := ⟨⟨by decide +kernel, by decide +kernel⟩, List.mem_of_getElem? (i := 1160) (by decide +kernel), List.mem_of_getElem? (i := 1498) (by decide +kernel), List.mem_of_getElem? (i := 1499) (by decide +kernel)⟩
theorem lw_p93 : lw_okq (⟨"FormulaTreesModel", "innermost", "()I"⟩, 45) := ⟨⟨by decide +kernel, by decide +kernel⟩, List.mem_of_getElem? (i := 1160) (by decide +kernel), List.mem_of_getElem? (i := 1502) (by decide +kernel), List.mem_of_getElem? (i := 1503) (by decide +kernel)⟩
theorem lw_p94 : lw_okq (⟨"FormulaTreesModel", "comma", "()V"⟩, 45) := ⟨⟨by decide +kernel, by decide +kernel⟩, List.mem_of_getElem? (i := 1160) (by decide +kernel), List.mem_of_getElem? (i := 1506) (by decide +kernel), List.mem_of_getElem? (i := 1507) (by decide +kernel)⟩
theorem lw_p95 : lw_okq (⟨"FormulaTreesModel", "layOut", "(II)V"⟩, 45) := ⟨⟨by decide +kernel, by decide +kernel⟩, List.mem_of_getElem? (i := 1160) (by decide +kernel), List.mem_of_getElem? (i := 1510) (by decide +kernel), List.mem_of_getElem? (i := 1511) (by decide +kernel)⟩
def lw_privs_6 : List (MethodName × Nat) := [(⟨"FormulaTreesModel", "readSheetCell", "(II)V"⟩, 45), (⟨"FormulaTreesModel", "readCell", "()V"⟩, 45), (⟨"FormulaTreesModel", "readRow", "()V"⟩, 45), (⟨"FormulaTreesModel", "makeCell", "(I)V"⟩, 45), (⟨"FormulaTreesModel", "readWord", "()V"⟩, 45), (⟨"FormulaTreesModel", "lettersOf", "(II)I"⟩, 45), (⟨"FormulaTreesModel", "columnOf", "(II)I"⟩, 45), (⟨"FormulaTreesModel", "isCell", "(II)Z"⟩, 45), (⟨"FormulaTreesModel", "isWord", "(IIJI)Z"⟩, 45), (⟨"FormulaTreesModel", "readBehind", "()V"⟩, 45), (⟨"FormulaTreesModel", "operator", "()I"⟩, 45), (⟨"FormulaTreesModel", "readRange", "()V"⟩, 45), (⟨"FormulaTreesModel", "sort", "(I)V"⟩, 45), (⟨"FormulaTreesModel", "innermost", "()I"⟩, 45), (⟨"FormulaTreesModel", "comma", "()V"⟩, 45), (⟨"FormulaTreesModel", "layOut", "(II)V"⟩, 45)]
theorem lw_r6 : ∀ q ∈ lw_privs_6, lw_okq q := List.forall_mem_cons.mpr ⟨lw_p80, List.forall_mem_cons.mpr ⟨lw_p81, List.forall_mem_cons.mpr ⟨lw_p82, List.forall_mem_cons.mpr ⟨lw_p83, List.forall_mem_cons.mpr ⟨lw_p84, List.forall_mem_cons.mpr ⟨lw_p85, List.forall_mem_cons.mpr ⟨lw_p86, List.forall_mem_cons.mpr ⟨lw_p87, List.forall_mem_cons.mpr ⟨lw_p88, List.forall_mem_cons.mpr ⟨lw_p89, List.forall_mem_cons.mpr ⟨lw_p90, List.forall_mem_cons.mpr ⟨lw_p91, List.forall_mem_cons.mpr ⟨lw_p92, List.forall_mem_cons.mpr ⟨lw_p93, List.forall_mem_cons.mpr ⟨lw_p94, List.forall_mem_cons.mpr ⟨lw_p95, fun _ h => absurd h List.not_mem_nil⟩⟩⟩⟩⟩⟩⟩⟩⟩⟩⟩⟩⟩⟩⟩⟩
theorem lw_p96 : lw_okq (⟨"FormulaTreesModel", "copyNode", "(II)V"⟩, 45) := ⟨⟨by decide +kernel, by decide +kernel⟩, List.mem_of_getElem? (i := 1160) (by decide +kernel), List.mem_of_getElem? (i := 1514) (by decide +kernel), List.mem_of_getElem? (i := 1515) (by decide +kernel)⟩
theorem lw_p97 : lw_okq (⟨"FormulaTreesModel", "noFormula", "(I)Z"⟩, 45) := ⟨⟨by decide +kernel, by decide +kernel⟩, List.mem_of_getElem? (i := 1160) (by decide +kernel), List.mem_of_getElem? (i := 1523) (by decide +kernel), List.mem_of_getElem? (i := 1524) (by decide +kernel)⟩
theorem lw_p98 : lw_okq (⟨"FormulaTreesModel", "moveNode", "(III)V"⟩, 45) := ⟨⟨by decide +kernel, by decide +kernel⟩, List.mem_of_getElem? (i := 1160) (by decide +kernel), List.mem_of_getElem? (i := 1527) (by decide +kernel), List.mem_of_getElem? (i := 1528) (by decide +kernel)⟩
theorem lw_p99 : lw_okq (⟨"FormulaTreesModel", "putNode", "(II)I"⟩, 45) := ⟨⟨by decide +kernel, by decide +kernel⟩, List.mem_of_getElem? (i := 1160) (by decide +kernel), List.mem_of_getElem? (i := 1552) (by decide +kernel), List.mem_of_getElem? (i := 1553) (by decide +kernel)⟩
theorem lw_p100 : lw_okq (⟨"FormulaTreesModel", "putToken", "(II)V"⟩, 45) := ⟨⟨by decide +kernel, by decide +kernel⟩, List.mem_of_getElem? (i := 1160) (by decide +kernel), List.mem_of_getElem? (i := 1556) (by decide +kernel), List.mem_of_getElem? (i := 1557) (by decide +kernel)⟩
theorem lw_p101 : lw_okq (⟨"FormulaTreesModel", "put", "(I)V"⟩, 45) := ⟨⟨by decide +kernel, by decide +kernel⟩, List.mem_of_getElem? (i := 1160) (by decide +kernel), List.mem_of_getElem? (i := 1560) (by decide +kernel), List.mem_of_getElem? (i := 1561) (by decide +kernel)⟩
theorem lw_p102 : lw_okq (⟨"FormulaTreesModel", "putChild", "(III)I"⟩, 45) := ⟨⟨by decide +kernel, by decide +kernel⟩, List.mem_of_getElem? (i := 1160) (by decide +kernel), List.mem_of_getElem? (i := 1564) (by decide +kernel), List.mem_of_getElem? (i := 1565) (by decide +kernel)⟩
theorem lw_p103 : lw_okq (⟨"FormulaTreesModel", "putPrefix", "(I)V"⟩, 45) := ⟨⟨by decide +kernel, by decide +kernel⟩, List.mem_of_getElem? (i := 1160) (by decide +kernel), List.mem_of_getElem? (i := 1571) (by decide +kernel), List.mem_of_getElem? (i := 1572) (by decide +kernel)⟩
theorem lw_p104 : lw_okq (⟨"FormulaTreesModel", "quotes", "(I)Z"⟩, 45) := ⟨⟨by decide +kernel, by decide +kernel⟩, List.mem_of_getElem? (i := 1160) (by decide +kernel), List.mem_of_getElem? (i := 1575) (by decide +kernel), List.mem_of_getElem? (i := 1576) (by decide +kernel)⟩
theorem lw_p105 : lw_okq (⟨"FormulaTreesModel", "truthNamed", "(IJI)Z"⟩, 45) := ⟨⟨by decide +kernel, by decide +kernel⟩, List.mem_of_getElem? (i := 1160) (by decide +kernel), List.mem_of_getElem? (i := 1579) (by decide +kernel), List.mem_of_getElem? (i := 1580) (by decide +kernel)⟩
theorem lw_p106 : lw_okq (⟨"FormulaTreesModel", "putPlace", "(III)V"⟩, 45) := ⟨⟨by decide +kernel, by decide +kernel⟩, List.mem_of_getElem? (i := 1160) (by decide +kernel), List.mem_of_getElem? (i := 1583) (by decide +kernel), List.mem_of_getElem? (i := 1584) (by decide +kernel)⟩
theorem lw_p107 : lw_okq (⟨"FormulaTreesModel", "putNumber", "(I)V"⟩, 45) := ⟨⟨by decide +kernel, by decide +kernel⟩, List.mem_of_getElem? (i := 1160) (by decide +kernel), List.mem_of_getElem? (i := 1587) (by decide +kernel), List.mem_of_getElem? (i := 1588) (by decide +kernel)⟩
theorem lw_p108 : lw_okq (⟨"FormulaTreesModel", "told", "(II)I"⟩, 45) := ⟨⟨by decide +kernel, by decide +kernel⟩, List.mem_of_getElem? (i := 1160) (by decide +kernel), List.mem_of_getElem? (i := 1599) (by decide +kernel), List.mem_of_getElem? (i := 1600) (by decide +kernel)⟩
theorem lw_p109 : lw_okq (⟨"FormulaTreesModel", "letterOf", "(III)I"⟩, 45) := ⟨⟨by decide +kernel, by decide +kernel⟩, List.mem_of_getElem? (i := 1160) (by decide +kernel), List.mem_of_getElem? (i := 1607) (by decide +kernel), List.mem_of_getElem? (i := 1608) (by decide +kernel)⟩
def lw_privs_7 : List (MethodName × Nat) := [(⟨"FormulaTreesModel", "copyNode", "(II)V"⟩, 45), (⟨"FormulaTreesModel", "noFormula", "(I)Z"⟩, 45), (⟨"FormulaTreesModel", "moveNode", "(III)V"⟩, 45), (⟨"FormulaTreesModel", "putNode", "(II)I"⟩, 45), (⟨"FormulaTreesModel", "putToken", "(II)V"⟩, 45), (⟨"FormulaTreesModel", "put", "(I)V"⟩, 45), (⟨"FormulaTreesModel", "putChild", "(III)I"⟩, 45), (⟨"FormulaTreesModel", "putPrefix", "(I)V"⟩, 45), (⟨"FormulaTreesModel", "quotes", "(I)Z"⟩, 45), (⟨"FormulaTreesModel", "truthNamed", "(IJI)Z"⟩, 45), (⟨"FormulaTreesModel", "putPlace", "(III)V"⟩, 45), (⟨"FormulaTreesModel", "putNumber", "(I)V"⟩, 45), (⟨"FormulaTreesModel", "told", "(II)I"⟩, 45), (⟨"FormulaTreesModel", "letterOf", "(III)I"⟩, 45)]
theorem lw_r7 : ∀ q ∈ lw_privs_7, lw_okq q := List.forall_mem_cons.mpr ⟨lw_p96, List.forall_mem_cons.mpr ⟨lw_p97, List.forall_mem_cons.mpr ⟨lw_p98, List.forall_mem_cons.mpr ⟨lw_p99, List.forall_mem_cons.mpr ⟨lw_p100, List.forall_mem_cons.mpr ⟨lw_p101, List.forall_mem_cons.mpr ⟨lw_p102, List.forall_mem_cons.mpr ⟨lw_p103, List.forall_mem_cons.mpr ⟨lw_p104, List.forall_mem_cons.mpr ⟨lw_p105, List.forall_mem_cons.mpr ⟨lw_p106, List.forall_mem_cons.mpr ⟨lw_p107, List.forall_mem_cons.mpr ⟨lw_p108, List.forall_mem_cons.mpr ⟨lw_p109, fun _ h => absurd h List.not_mem_nil⟩⟩⟩⟩⟩⟩⟩⟩⟩⟩⟩⟩⟩⟩
def lw_privs : List (MethodName × Nat) := lw_privs_1 ++ (lw_privs_2 ++ (lw_privs_3 ++ (lw_privs_4 ++ (lw_privs_5 ++ (lw_privs_6 ++ (lw_privs_7))))))
def lw_tbl : List Cond := k2_sels lw_privs ++ tables_1
theorem lw_privs_ok : ∀ q ∈ lw_privs, lw_okq q := by
  show ∀ q ∈ lw_privs_1 ++ (lw_privs_2 ++ (lw_privs_3 ++ (lw_privs_4 ++ (lw_privs_5 ++ (lw_privs_6 ++ (lw_privs_7)))))), lw_okq q
  exact List.forall_mem_append.mpr ⟨lw_r1, List.forall_mem_append.mpr ⟨lw_r2, List.forall_mem_append.mpr ⟨lw_r3, List.forall_mem_append.mpr ⟨lw_r4, List.forall_mem_append.mpr ⟨lw_r5, List.forall_mem_append.mpr ⟨lw_r6, lw_r7⟩⟩⟩⟩⟩⟩
-- ===== end of PART A; then your names; then what follows =====
end
section
/-! THE PURE MACHINE: a cell is its kind and what it holds; kinds below 100 are objects, 100 int 101 byte 102 char 103 boolean 104 long rows, from 110 on rows of references to objects of kind c - 110. A method is its name, bytes, locals, answer's type, and its instructions: place in the bytes, length, instruction, resolved numbers. -/
abbrev xO : Type := Nat × List Value
abbrev xH : Type := List xO
abbrev xL : Type := List (Option Value)
abbrev xE : Type := Nat × Nat × Instr × List Nat
abbrev xM : Type := MethodName × ByteArray × Nat × Option FieldType × List xE
/-- may a place of type code t hold v: 0 int, 1 boolean, 2 reference, 3 long, 4 char, 5 byte -/
def xfit (t : Nat) (v : Value) : Bool := match t, v with
  | 0, .int _ => true
  | 1, .int x => x == 0 || x == 1
  | 2, .null => true
  | 2, .ref _ => true
  | 3, .long _ => true
  | 4, .int x => 0 ≤ x && x ≤ 65535
  | 5, .int x => -128 ≤ x && x ≤ 127
  | _, _ => false
def xtc (ty : FieldType) : Nat := match ty with
  | .int => 0
  | .boolean => 1
  | .object _ => 2
  | .array _ => 2
  | .long => 3
  | .char => 4
  | .byte => 5
  | _ => 9
def xdef (t : Nat) : Value := match t with
  | 2 => .null
  | 3 => .long 0
  | _ => .int 0
/-- the stack alone -/
def xS (ins : Instr) (st : List Value) : Option (List Value) := match ins, st with
  | .iconst n, st => some (.int (Int32.ofInt n) :: st)
  | .bipush n, st => some (.int (Int8.ofInt n).toInt32 :: st)
  | .sipush n, st => some (.int (Int16.ofInt n).toInt32 :: st)
  | .lconst n, st => some (.long (Int64.ofNat (n : Nat)) :: st)
  | .aconst_null, st => some (.null :: st)
  | .iadd, .int y :: .int x :: r => some (.int (x + y) :: r)
  | .isub, .int y :: .int x :: r => some (.int (x - y) :: r)
  | .imul, .int y :: .int x :: r => some (.int (x * y) :: r)
  | .iand, .int y :: .int x :: r => some (.int (x &&& y) :: r)
  | .ior, .int y :: .int x :: r => some (.int (x ||| y) :: r)
  | .ixor, .int y :: .int x :: r => some (.int (x ^^^ y) :: r)
  | .ishl, .int y :: .int x :: r => some (.int (x <<< (y &&& 31)) :: r)
  | .ishr, .int y :: .int x :: r => some (.int (x >>> (y &&& 31)) :: r)
  | .iushr, .int y :: .int x :: r => some (.int (x.toUInt32 >>> (y.toUInt32 &&& Int32.toUInt32 31)).toInt32 :: r)
  | .ineg, .int x :: r => some (.int (-x) :: r)
  | .idiv, .int y :: .int x :: r => if y = 0 then none else some (.int (x / y) :: r)
  | .irem, .int y :: .int x :: r => if y = 0 then none else some (.int (x - x / y * y) :: r)
  | .i2c, .int x :: r => some (.int (x.toUInt32 % 65536).toInt32 :: r)
  | .i2b, .int x :: r => some (.int x.toInt8.toInt32 :: r)
  | .i2l, .int x :: r => some (.long x.toInt64 :: r)
  | .l2i, .long x :: r => some (.int x.toInt32 :: r)
  | .land, .long y :: .long x :: r => some (.long (x &&& y) :: r)
  | .lshr, .int y :: .long x :: r => some (.long (x >>> (y.toInt64 &&& 63)) :: r)
  | .lcmp, .long y :: .long x :: r => some (.int (lg_cmp x y) :: r)
  | .dup, v :: r => if v.category = 1 then some (v :: v :: r) else none
  | .dup2, a :: b :: r => if a.category = 1 ∧ b.category = 1 then some (a :: b :: a :: b :: r) else none
  | .pop, v :: r => if v.category = 1 then some r else none
  | _, _ => none
/-- the locals -/
def xld (t i : Nat) (ls : xL) : Option Value := match ls[i]? with
  | some (some v) => if xfit t v then some v else none
  | _ => none
def xnl (i : Nat) (ls : xL) : Bool := match i with
  | 0 => true
  | j + 1 => match ls[j]? with
    | some (some w) => w.category == 1
    | _ => true
def xst1 (i : Nat) (v : Value) (ls : xL) : Option xL := if i < ls.length ∧ xnl i ls = true then some (ls.set i (some v)) else none
def xst2 (i : Nat) (v : Value) (ls : xL) : Option xL := if i + 1 < ls.length ∧ xnl i ls = true then some ((ls.set i (some v)).set (i + 1) none) else none
def xV (ins : Instr) (ls : xL) (st : List Value) : Option (xL × List Value) := match ins, st with
  | .iload i, st => (xld 0 i ls).map fun v => (ls, v :: st)
  | .iload_n k, st => (xld 0 k.val ls).map fun v => (ls, v :: st)
  | .aload i, st => (xld 2 i ls).map fun v => (ls, v :: st)
  | .aload_n k, st => (xld 2 k.val ls).map fun v => (ls, v :: st)
  | .lload i, st => (xld 3 i ls).map fun v => (ls, v :: st)
  | .lload_n k, st => (xld 3 k.val ls).map fun v => (ls, v :: st)
  | .istore i, .int x :: r => (xst1 i (.int x) ls).map fun l => (l, r)
  | .istore_n k, .int x :: r => (xst1 k.val (.int x) ls).map fun l => (l, r)
  | .astore i, .ref a :: r => (xst1 i (.ref a) ls).map fun l => (l, r)
  | .astore_n k, .ref a :: r => (xst1 k.val (.ref a) ls).map fun l => (l, r)
  | .astore i, .null :: r => (xst1 i .null ls).map fun l => (l, r)
  | .astore_n k, .null :: r => (xst1 k.val .null ls).map fun l => (l, r)
  | .lstore i, .long x :: r => (xst2 i (.long x) ls).map fun l => (l, r)
  | .lstore_n k, .long x :: r => (xst2 k.val (.long x) ls).map fun l => (l, r)
  | .iinc i n, st => match ls[i]? with
    | some (some (.int x)) => (xst1 i (.int (x + Int32.ofInt n)) ls).map fun l => (l, st)
    | _ => none
  | _, _ => none
/-- where to go on -/
def xcn (c : ClassFile.Cond) (x y : Int32) : Bool := match c with
  | .eq => decide (x = y)
  | .ne => decide (¬ x = y)
  | .lt => decide (x < y)
  | .ge => decide (y ≤ x)
  | .gt => decide (y < x)
  | .le => decide (x ≤ y)
def xlk (ps : List (Int × Int)) (ts : List Nat) (t0 : Nat) (x : Int) : Nat := match ps, ts with
  | (a, _) :: ps, t :: ts => if x = a then t else xlk ps ts t0 x
  | _, _ => t0
def xB (ins : Instr) (ax : List Nat) (i : Nat) (st : List Value) : Option (Nat × List Value) := match ins, ax, st with
  | .goto _, [t], st => some (t, st)
  | .ifCond c _, [t], .int x :: r => some (if xcn c x 0 = true then t else i + 1, r)
  | .if_icmp c _, [t], .int y :: .int x :: r => some (if xcn c x y = true then t else i + 1, r)
  | .ifnull _, [t], .null :: r => some (t, r)
  | .ifnull _, [_], .ref _ :: r => some (i + 1, r)
  | .ifnonnull _, [_], .null :: r => some (i + 1, r)
  | .ifnonnull _, [t], .ref _ :: r => some (t, r)
  | .tableswitch _ lo hi _, t0 :: ts, .int x :: r => if x.toInt < lo ∨ hi < x.toInt then some (t0, r) else (ts[(x.toInt - lo).toNat]?).map fun t => (t, r)
  | .lookupswitch _ ps, t0 :: ts, .int x :: r => some (xlk ps.toList ts t0 x.toInt, r)
  | _, _, _ => none
/-- reading the heap -/
def xat (ok : Bool) (vs : List Value) (j : Int32) : Option Value := if ok = true ∧ ¬ j < 0 then vs[j.toNatClampNeg]? else none
def xR (ins : Instr) (ax : List Nat) (st : List Value) (hp : xH) : Option (List Value) := match ins, ax, st with
  | .getfield _, ci :: k :: _, .ref a :: r => match hp[a]? with
    | some (c, vs) => if c = ci then (vs[k]?).map fun v => v :: r else none
    | none => none
  | .arraylength, _, .ref a :: r => match hp[a]? with
    | some (c, vs) => if 100 ≤ c then some (.int (Int32.ofNat vs.length) :: r) else none
    | none => none
  | .iaload, _, .int j :: .ref a :: r => match hp[a]? with
    | some (c, vs) => (xat (c == 100) vs j).map fun v => v :: r
    | none => none
  | .baload, _, .int j :: .ref a :: r => match hp[a]? with
    | some (c, vs) => (xat (c == 101 || c == 103) vs j).map fun v => v :: r
    | none => none
  | .caload, _, .int j :: .ref a :: r => match hp[a]? with
    | some (c, vs) => (xat (c == 102) vs j).map fun v => v :: r
    | none => none
  | .laload, _, .int j :: .ref a :: r => match hp[a]? with
    | some (c, vs) => (xat (c == 104) vs j).map fun v => v :: r
    | none => none
  | .aaload, _, .int j :: .ref a :: r => match hp[a]? with
    | some (c, vs) => (xat (decide (110 ≤ c)) vs j).map fun v => v :: r
    | none => none
  | _, _, _ => none
/-- writing the heap; what stands below K is never written -/
def xup (K : Nat) (hp : xH) (a : Nat) (ok : Nat → Bool) (j : Int32) (v : Nat → Value) : Option xH := match hp[a]? with
  | some (c, vs) => if K ≤ a ∧ ok c = true ∧ ¬ j < 0 ∧ j.toNatClampNeg < vs.length then some (hp.set a (c, vs.set j.toNatClampNeg (v c))) else none
  | none => none
def xnar (c : Nat) (x : Int32) : Value := if c = 103 then narrow .boolean (.int x) else narrow .byte (.int x)
def xW (K : Nat) (ins : Instr) (ax : List Nat) (st : List Value) (hp : xH) : Option (List Value × xH) := match ins, ax, st with
  | .putfield _, ci :: k :: t :: _, v :: .ref a :: r => match hp[a]? with
    | some (c, vs) => if K ≤ a ∧ c = ci ∧ k < vs.length ∧ xfit t v = true then some (r, hp.set a (c, vs.set k v)) else none
    | none => none
  | .iastore, _, .int x :: .int j :: .ref a :: r => (xup K hp a (fun c => c == 100) j (fun _ => .int x)).map fun h => (r, h)
  | .bastore, _, .int x :: .int j :: .ref a :: r => (xup K hp a (fun c => c == 101 || c == 103) j (fun c => xnar c x)).map fun h => (r, h)
  | .castore, _, .int x :: .int j :: .ref a :: r => (xup K hp a (fun c => c == 102) j (fun _ => narrow .char (.int x))).map fun h => (r, h)
  | .lastore, _, .long x :: .int j :: .ref a :: r => (xup K hp a (fun c => c == 104) j (fun _ => .long x)).map fun h => (r, h)
  | .aastore, ci :: _, .ref v :: .int j :: .ref a :: r => match hp[v]? with
    | some (cv, _) => if cv = ci ∧ ci < 100 then (xup K hp a (fun c => c == 110 + ci) j (fun _ => .ref v)).map fun h => (r, h) else none
    | none => none
  | _, _, _ => none
/-- new cells -/
def xat2 (t : ArrayType) : Nat := match t with
  | .int => 100
  | .byte => 101
  | .char => 102
  | .boolean => 103
  | .long => 104
  | _ => 99
def xA (ins : Instr) (ax : List Nat) (st : List Value) (hp : xH) : Option (List Value × xH) := match ins, ax, st with
  | .new _, ci :: ts, st => if ci < 80 then some (.ref hp.length :: st, hp ++ [(ci, ts.map xdef)]) else none
  | .newarray t, _, .int n :: r => if ¬ n < 0 ∧ n.toNatClampNeg ≤ 100000 ∧ 100 ≤ xat2 t then some (.ref hp.length :: r, hp ++ [(xat2 t, List.replicate n.toNatClampNeg (if t = .long then .long 0 else .int 0))]) else none
  | .anewarray _, [ci], .int n :: r => if ¬ n < 0 ∧ n.toNatClampNeg ≤ 100000 ∧ ci < 100 then some (.ref hp.length :: r, hp ++ [(110 + ci, List.replicate n.toNatClampNeg .null)]) else none
  | _, _, _ => none
/-- one step that is no call and no end -/
def x1 (K : Nat) (ins : Instr) (ax : List Nat) (i : Nat) (ls : xL) (st : List Value) (hp : xH) : Option (Nat × xL × List Value × xH) :=
  match xS ins st with
  | some st' => some (i + 1, ls, st', hp)
  | none => match xV ins ls st with
    | some (ls', st') => some (i + 1, ls', st', hp)
    | none => match xB ins ax i st with
      | some (i', st') => some (i', ls, st', hp)
      | none => match xR ins ax st hp with
        | some st' => some (i + 1, ls, st', hp)
        | none => match xW K ins ax st hp with
          | some (st', hp') => some (i + 1, ls, st', hp')
          | none => match xA ins ax st hp with
            | some (st', hp') => some (i + 1, ls, st', hp')
            | none => none
/-- constants, by their numbers -/
def xT (Cs : List Value) (ins : Instr) (ax : List Nat) (st : List Value) : Option (List Value) := match ins, ax with
  | .ldc _, c :: _ => (Cs[c]?).map fun v => v :: st
  | .ldc_w _, c :: _ => (Cs[c]?).map fun v => v :: st
  | .ldc2_w _, c :: _ => (Cs[c]?).map fun v => v :: st
  | .getstatic _, c :: _ => (Cs[c]?).map fun v => v :: st
  | _, _ => none
/-- an answer, or what was thrown -/
abbrev xZ : Type := Option Value ⊕ Nat
abbrev xQ6 : Type := MethodName × ByteArray × Nat × Option FieldType × List (Nat × Nat × Nat × Nat × Nat) × List xE
def xret (rt : Option FieldType) (ins : Instr) (st : List Value) : Option (Option Value) := match ins, rt, st with
  | .return_, none, [] => some none
  | .ireturn, some ty, [.int v] => if xfit (xtc ty) (.int v) = true then some (some (.int v)) else none
  | .areturn, some ty, [v] => if xtc ty = 2 ∧ xfit 2 v = true then some (some v) else none
  | .lreturn, some .long, [.long v] => some (some (.long v))
  | _, _, _ => none
/-- a call: which method, with what, what stays on the stack -/
def xcall (ins : Instr) (ax : List Nat) (st : List Value) (hp : xH) : Option (Nat × List Value × List Value) :=
  match ins, ax with
  | .invokestatic _, 0 :: k :: n :: _ => if n ≤ st.length ∧ ((st.drop n).map fun v => v.category).sum ≤ 8 then some (k, (st.take n).reverse, st.drop n) else none
  | .invokespecial _, 0 :: k :: n :: _ => match st[n]? with
    | some (.ref a) => if ((st.drop (n + 1)).map fun v => v.category).sum ≤ 8 then some (k, .ref a :: (st.take n).reverse, st.drop (n + 1)) else none
    | _ => none
  | .invokevirtual _, 0 :: k :: n :: ci :: _ => match st[n]? with
    | some (.ref a) => match hp[a]? with
      | some (c, _) => if c = ci ∧ ((st.drop (n + 1)).map fun v => v.category).sum ≤ 8 then some (k, .ref a :: (st.take n).reverse, st.drop (n + 1)) else none
      | none => none
    | _ => none
  | _, _ => none
/-- Object's own constructor, and copying between rows -/
def xsp (K : Nat) (ins : Instr) (ax : List Nat) (st : List Value) (hp : xH) : Option (List Value × xH) := match ins, ax, st with
  | .invokespecial _, [1], .ref _ :: r => if (r.map fun v => v.category).sum ≤ 8 then some (r, hp) else none
  | .invokestatic _, [2], .int n :: .int dp :: .ref d :: .int sp :: .ref q :: r => match hp[q]?, hp[d]? with
    | some (cq, vq), some (cd, vd) => if (r.map fun v => v.category).sum ≤ 8 ∧ K ≤ d ∧ q ≠ d ∧ cq = 100 ∧ cd = 100 ∧ ¬ sp < 0 ∧ ¬ dp < 0 ∧ ¬ n < 0 ∧ sp.toNatClampNeg + n.toNatClampNeg ≤ vq.length ∧ dp.toNatClampNeg + n.toNatClampNeg ≤ vd.length ∧ ((vq.drop sp.toNatClampNeg).take n.toNatClampNeg).all (xfit 0) = true
        then some (r, hp.set d (cd, vd.take dp.toNatClampNeg ++ (vq.drop sp.toNatClampNeg).take n.toNatClampNeg ++ vd.drop (dp.toNatClampNeg + n.toNatClampNeg))) else none
    | _, _ => none
  | .invokestatic _, [3], .int y :: .int x :: r => if (r.map fun v => v.category).sum ≤ 8 then some (.int (if x < y then y else x) :: r, hp) else none
  | .invokestatic _, [4], .int y :: .int x :: r => if (r.map fun v => v.category).sum ≤ 8 then some (.int (if y < x then y else x) :: r, hp) else none
  | _, _, _ => none
/-- a throw of a new object: its number z is told by 200 + z at its 'new' -/
def xthr (ins : Instr) (ax : List Nat) : Option Nat := match ins, ax with
  | .new _, c :: _ => if 200 ≤ c then some (c - 200) else none
  | _, _ => none
def xent (as : List Value) (mx : Nat) : xL := let a := as.flatMap fun v => if v.category = 2 then [some v, none] else [some v]
  a ++ List.replicate (mx - a.length) none
def xhd (hs : List (Nat × Nat × Nat × Nat × Nat)) (i z : Nat) : Option Nat := match hs with
  | [] => none
  | (a, b, t, y, _) :: hs => if a ≤ i ∧ i < b ∧ y = z then some t else xhd hs i z
def ex (P : List xQ6) (Cs : List Value) (K : Nat) : Nat → Nat → Nat → Nat → xL → List Value → xH → Option (xZ × xH)
  | 0, _, _, _, _, _, _ => none
  | n + 1, d, k, i, ls, st, hp => match P[k]? with
    | none => none
    | some M => match M.2.2.2.2.2[i]? with
      | none => none
      | some (_, _, ins, ax) => match x1 K ins ax i ls st hp with
        | some (i', ls', st', hp') => ex P Cs K n d k i' ls' st' hp'
        | none => match xT Cs ins ax st with
          | some st' => ex P Cs K n d k (i + 1) ls st' hp
          | none => match xret M.2.2.2.1 ins st with
            | some r => some (.inl r, hp)
            | none => match d with
              | 0 => none
              | d' + 1 => match xsp K ins ax st hp with
                | some (st', hp') => ex P Cs K n (d' + 1) k (i + 1) ls st' hp'
                | none => match xcall ins ax st hp with
                  | some (k', as, r) => match P[k']? with
                    | none => none
                    | some M' => if (xent as M'.2.2.1).length = M'.2.2.1 then match ex P Cs K n d' k' 0 (xent as M'.2.2.1) [] hp with
                      | none => none
                      | some (.inl v, hp') => ex P Cs K n (d' + 1) k (i + 1) ls (v.toList ++ r) hp'
                      | some (.inr z, hp') => match xhd M.2.2.2.2.1 i z with
                        | none => none
                        | some t => ex P Cs K n (d' + 1) k t ls [.ref (hp'.length - 1)] hp'
                      else none
                  | none => match xthr ins ax with
                    | some z => if 8 ≤ d' ∧ st.isEmpty = true then some (.inr z, hp ++ [(80 + z, [])]) else none
                    | none => none
end
section
/-! the pure machine is the machine: values, locals, the heap -/
def tv (ρ : Nat → Nat) (v : Value) : Value := match v with
  | .ref a => .ref (ρ a)
  | v => v
theorem tv_cat (ρ : Nat → Nat) (v : Value) : (tv ρ v).category = v.category := by cases v <;> rfl
theorem tv_sum (ρ : Nat → Nat) (l : List Value) : ((l.map (tv ρ)).map fun v => v.category).sum = (l.map fun v => v.category).sum := by
  induction l with
  | nil => rfl
  | cons a l ih => simp only [List.map_cons, List.sum_cons, tv_cat, ih]
def xLH (ρ : Nat → Nat) (lr : Array Slot) (ls : xL) : Prop := lr.size = ls.length ∧ lv_wf lr ∧ ∀ (i : Nat) (v : Value), ls[i]? = some (some v) → lr[i]? = some (.val (tv ρ v))
theorem xnl_ok {i j : Nat} {ls : xL} {w : Value} (h : xnl i ls = true) (hj : j + 1 = i) (hw : ls[j]? = some (some w)) : w.category = 1 := by
  subst hj
  simpa [xnl, hw] using h
theorem xst1_ok {ρ : Nat → Nat} {lr : Array Slot} {ls ls' : xL} {i : Nat} {v : Value} (h : xLH ρ lr ls) (hs : xst1 i v ls = some ls') (hc : v.category = 1) : ∃ lr', storeLocals lr i (tv ρ v) = some lr' ∧ xLH ρ lr' ls' := by
  unfold xst1 at hs
  split at hs
  case isFalse => cases hs
  case isTrue hcond =>
    obtain ⟨hlt, hn⟩ := hcond
    cases hs
    obtain ⟨lr', e1, h1⟩ := lv_store1 (ls := lr) (nL := ls.length) (l := []) (i := i) (v := tv ρ v) ⟨h.1, h.2.1, fun q hq => by cases hq⟩ hlt (by rw [tv_cat]; exact hc)
    refine ⟨lr', e1, by rw [List.length_set]; exact h1.1, h1.2.1, fun j w hj => ?_⟩
    by_cases hji : j = i
    · subst hji
      rw [List.getElem?_set_self hlt] at hj
      cases hj
      exact h1.2.2 (j, tv ρ v) List.mem_cons_self
    · rw [List.getElem?_set_ne (fun q => hji q.symm)] at hj
      obtain ⟨lr2, e2, h2⟩ := lv_store1 (ls := lr) (nL := ls.length) (l := [(j, tv ρ w)]) (i := i) (v := tv ρ v) ⟨h.1, h.2.1, fun q hq => by
        rw [List.mem_singleton] at hq
        subst hq
        exact h.2.2 j w hj⟩ hlt (by rw [tv_cat]; exact hc)
      have e3 : lr2 = lr' := Option.some.inj (e2.symm.trans e1)
      subst e3
      refine h2.2.2 (j, tv ρ w) (List.mem_cons_of_mem _ (List.mem_filter.mpr ⟨List.mem_singleton_self _, ?_⟩))
      by_cases hq : j + 1 = i
      · simp [hji, tv_cat, xnl_ok hn hq hj]
      · simp [hji, hq]
theorem xst2_ok {ρ : Nat → Nat} {lr : Array Slot} {ls ls' : xL} {i : Nat} {v : Value} (h : xLH ρ lr ls) (hs : xst2 i v ls = some ls') (hc : v.category = 2) : ∃ lr', storeLocals lr i (tv ρ v) = some lr' ∧ xLH ρ lr' ls' := by
  unfold xst2 at hs
  split at hs
  case isFalse => cases hs
  case isTrue hcond =>
    obtain ⟨hlt, hn⟩ := hcond
    cases hs
    obtain ⟨lr', e1, h1⟩ := lv_store2 (ls := lr) (nL := ls.length) (l := []) (i := i) (v := tv ρ v) ⟨h.1, h.2.1, fun q hq => by cases hq⟩ hlt (by rw [tv_cat]; exact hc)
    refine ⟨lr', e1, by rw [List.length_set, List.length_set]; exact h1.1, h1.2.1, fun j w hj => ?_⟩
    by_cases hj1 : j = i + 1
    · subst hj1
      rw [List.getElem?_set_self (by rw [List.length_set]; exact hlt)] at hj
      cases hj
    · rw [List.getElem?_set_ne (fun q => hj1 q.symm)] at hj
      by_cases hji : j = i
      · subst hji
        rw [List.getElem?_set_self (by omega)] at hj
        cases hj
        exact h1.2.2 (j, tv ρ v) List.mem_cons_self
      · rw [List.getElem?_set_ne (fun q => hji q.symm)] at hj
        obtain ⟨lr2, e2, h2⟩ := lv_store2 (ls := lr) (nL := ls.length) (l := [(j, tv ρ w)]) (i := i) (v := tv ρ v) ⟨h.1, h.2.1, fun q hq => by
          rw [List.mem_singleton] at hq
          subst hq
          exact h.2.2 j w hj⟩ hlt (by rw [tv_cat]; exact hc)
        have e3 : lr2 = lr' := Option.some.inj (e2.symm.trans e1)
        subst e3
        refine h2.2.2 (j, tv ρ w) (List.mem_cons_of_mem _ (List.mem_filter.mpr ⟨List.mem_singleton_self _, ?_⟩))
        by_cases hq : j + 1 = i
        · simp [hji, hj1, tv_cat, xnl_ok hn hq hj]
        · simp [hji, hj1, hq]
def xLen (ins : Instr) : Nat := match ins with
  | .bipush _ => 2
  | .sipush _ => 3
  | .iload _ => 2
  | .aload _ => 2
  | .lload _ => 2
  | .istore _ => 2
  | .astore _ => 2
  | .lstore _ => 2
  | .iinc _ _ => 3
  | .goto _ => 3
  | .ifCond _ _ => 3
  | .if_icmp _ _ => 3
  | .ifnull _ => 3
  | .ifnonnull _ => 3
  | .getfield _ => 3
  | .putfield _ => 3
  | .getstatic _ => 3
  | .invokestatic _ => 3
  | .invokespecial _ => 3
  | .invokevirtual _ => 3
  | .new _ => 3
  | .anewarray _ => 3
  | .newarray _ => 2
  | .ldc _ => 2
  | .ldc_w _ => 3
  | .ldc2_w _ => 3
  | _ => 1
section X1
variable {p : Program} {l : Launch} {e : Env} {R : Room} {s : State} {m : MethodId} {args : Array Value} {below : List Frame} {meth : Method} {c : Code} {H : Heap} {locs : List Loc} {cells slots : Nat} {Q : State → Prop} {cc : ByteArray} {pc : Nat} {lr : Array Slot} {ρ : Nat → Nat}
set_option maxHeartbeats 4000000 in
theorem xS_ok (hexec : p.tables.exec = Jvm.exec) (hb : c.code = cc) {ins : Instr} {st st' : List Value} (h : xS ins st = some st') (hdg : decode cc pc = .ok (ins, xLen ins))
    (k : W p l e R s m args below meth c H locs cells slots Q (F0 m (pc + xLen ins) lr (st'.map (tv ρ)))) : W p l e R s m args below meth c H locs cells slots Q (F0 m pc lr (st.map (tv ρ))) := by
  unfold xS at h
  split at h
  · cases h; exact lv_iconst hexec hb hdg rfl k
  · cases h; exact lv_bipush hexec hb hdg rfl k
  · cases h; exact lv_sipush hexec hb hdg rfl k
  · cases h; exact lv_lconst hexec hb hdg rfl k
  · cases h; exact lv_null hexec hb hdg k
  · cases h; exact lv_iadd hexec hb hdg k
  · cases h; exact lv_isub hexec hb hdg k
  · cases h; exact lv_imul hexec hb hdg k
  · cases h; exact lv_iand hexec hb hdg k
  · cases h; exact lv_ior hexec hb hdg k
  · cases h; exact lv_ixor hexec hb hdg k
  · cases h; exact lv_ishl hexec hb hdg k
  · cases h; exact lv_ishr hexec hb hdg k
  · cases h; exact lv_iushr hexec hb hdg rfl k
  · cases h; exact lv_ineg hexec hb hdg k
  · split at h
    · cases h
    · rename_i hne
      cases h; exact lv_idiv hexec hb hdg hne k
  · split at h
    · cases h
    · rename_i hne
      cases h; exact lv_irem hexec hb hdg hne k
  · cases h; exact lv_i2c hexec hb hdg rfl k
  · cases h; exact lv_i2b hexec hb hdg rfl k
  · cases h; exact lv_i2l hexec hb hdg rfl k
  · cases h; exact lv_l2i hexec hb hdg rfl k
  · cases h; exact lv_land hexec hb hdg k
  · cases h; exact lv_lshr hexec hb hdg rfl k
  · cases h; exact W.lcmp hexec hb hdg k
  · split at h
    · rename_i hc
      cases h; exact lv_dup hexec hb hdg (by rw [tv_cat]; exact hc) k
    · cases h
  · split at h
    · rename_i hc
      cases h; exact lv_dup2_11 hexec hb hdg (by rw [tv_cat]; exact hc.1) (by rw [tv_cat]; exact hc.2) k
    · cases h
  · split at h
    · rename_i hc
      cases h; exact lv_pop hexec hb hdg (by rw [tv_cat]; exact hc) k
    · cases h
  · cases h
theorem xs_istore (hexec : p.tables.exec = Jvm.exec) (hb : c.code = cc) {x : Int32} {i : Nat} {lr' : Array Slot} {r : List Value} (hdg : decode cc pc = .ok (.istore i, 2)) (e' : storeLocals lr i (.int x) = some lr')
    (k : W p l e R s m args below meth c H locs cells slots Q (F0 m (pc + 2) lr' r)) : W p l e R s m args below meth c H locs cells slots Q (F0 m pc lr (.int x :: r)) := by
  intro T hT X
  obtain ⟨t, a, b⟩ := k T hT X
  refine ⟨t, ?_, b⟩
  jvm_step X.here [X.here.top, ↓top_set X.here.top, hexec, hb, hdg, e']
  exact a
theorem xs_istore_n (hexec : p.tables.exec = Jvm.exec) (hb : c.code = cc) {x : Int32} {k : Fin 4} {lr' : Array Slot} {r : List Value} (hdg : decode cc pc = .ok (.istore_n k, 1)) (e' : storeLocals lr k.val (.int x) = some lr')
    (k : W p l e R s m args below meth c H locs cells slots Q (F0 m (pc + 1) lr' r)) : W p l e R s m args below meth c H locs cells slots Q (F0 m pc lr (.int x :: r)) := by
  intro T hT X
  obtain ⟨t, a, b⟩ := k T hT X
  refine ⟨t, ?_, b⟩
  jvm_step X.here [X.here.top, ↓top_set X.here.top, hexec, hb, hdg, e']
  exact a
theorem xs_astore (hexec : p.tables.exec = Jvm.exec) (hb : c.code = cc) {x : Nat} {i : Nat} {lr' : Array Slot} {r : List Value} (hdg : decode cc pc = .ok (.astore i, 2)) (e' : storeLocals lr i (.ref x) = some lr')
    (k : W p l e R s m args below meth c H locs cells slots Q (F0 m (pc + 2) lr' r)) : W p l e R s m args below meth c H locs cells slots Q (F0 m pc lr (.ref x :: r)) := by
  intro T hT X
  obtain ⟨t, a, b⟩ := k T hT X
  refine ⟨t, ?_, b⟩
  jvm_step X.here [X.here.top, ↓top_set X.here.top, hexec, hb, hdg, e', Value.isRef]
  exact a
theorem xs_astore_n (hexec : p.tables.exec = Jvm.exec) (hb : c.code = cc) {x : Nat} {k : Fin 4} {lr' : Array Slot} {r : List Value} (hdg : decode cc pc = .ok (.astore_n k, 1)) (e' : storeLocals lr k.val (.ref x) = some lr')
    (k : W p l e R s m args below meth c H locs cells slots Q (F0 m (pc + 1) lr' r)) : W p l e R s m args below meth c H locs cells slots Q (F0 m pc lr (.ref x :: r)) := by
  intro T hT X
  obtain ⟨t, a, b⟩ := k T hT X
  refine ⟨t, ?_, b⟩
  jvm_step X.here [X.here.top, ↓top_set X.here.top, hexec, hb, hdg, e', Value.isRef]
  exact a
theorem xs_astoreN (hexec : p.tables.exec = Jvm.exec) (hb : c.code = cc) {i : Nat} {lr' : Array Slot} {r : List Value} (hdg : decode cc pc = .ok (.astore i, 2)) (e' : storeLocals lr i (.null) = some lr')
    (k : W p l e R s m args below meth c H locs cells slots Q (F0 m (pc + 2) lr' r)) : W p l e R s m args below meth c H locs cells slots Q (F0 m pc lr (.null :: r)) := by
  intro T hT X
  obtain ⟨t, a, b⟩ := k T hT X
  refine ⟨t, ?_, b⟩
  jvm_step X.here [X.here.top, ↓top_set X.here.top, hexec, hb, hdg, e', Value.isRef]
  exact a
theorem xs_astore_nN (hexec : p.tables.exec = Jvm.exec) (hb : c.code = cc) {k : Fin 4} {lr' : Array Slot} {r : List Value} (hdg : decode cc pc = .ok (.astore_n k, 1)) (e' : storeLocals lr k.val (.null) = some lr')
    (k : W p l e R s m args below meth c H locs cells slots Q (F0 m (pc + 1) lr' r)) : W p l e R s m args below meth c H locs cells slots Q (F0 m pc lr (.null :: r)) := by
  intro T hT X
  obtain ⟨t, a, b⟩ := k T hT X
  refine ⟨t, ?_, b⟩
  jvm_step X.here [X.here.top, ↓top_set X.here.top, hexec, hb, hdg, e', Value.isRef]
  exact a
theorem xs_lstore (hexec : p.tables.exec = Jvm.exec) (hb : c.code = cc) {x : Int64} {i : Nat} {lr' : Array Slot} {r : List Value} (hdg : decode cc pc = .ok (.lstore i, 2)) (e' : storeLocals lr i (.long x) = some lr')
    (k : W p l e R s m args below meth c H locs cells slots Q (F0 m (pc + 2) lr' r)) : W p l e R s m args below meth c H locs cells slots Q (F0 m pc lr (.long x :: r)) := by
  intro T hT X
  obtain ⟨t, a, b⟩ := k T hT X
  refine ⟨t, ?_, b⟩
  jvm_step X.here [X.here.top, ↓top_set X.here.top, hexec, hb, hdg, e']
  exact a
theorem xs_lstore_n (hexec : p.tables.exec = Jvm.exec) (hb : c.code = cc) {x : Int64} {k : Fin 4} {lr' : Array Slot} {r : List Value} (hdg : decode cc pc = .ok (.lstore_n k, 1)) (e' : storeLocals lr k.val (.long x) = some lr')
    (k : W p l e R s m args below meth c H locs cells slots Q (F0 m (pc + 1) lr' r)) : W p l e R s m args below meth c H locs cells slots Q (F0 m pc lr (.long x :: r)) := by
  intro T hT X
  obtain ⟨t, a, b⟩ := k T hT X
  refine ⟨t, ?_, b⟩
  jvm_step X.here [X.here.top, ↓top_set X.here.top, hexec, hb, hdg, e']
  exact a
theorem xs_iinc (hexec : p.tables.exec = Jvm.exec) (hb : c.code = cc) {x : Int32} {i : Nat} {n : Int} {lr' : Array Slot} {r : List Value} (hdg : decode cc pc = .ok (.iinc i n, 3)) (hg : lr[i]? = some (.val (.int x))) (e' : storeLocals lr i (.int (x + Int32.ofInt n)) = some lr')
    (k : W p l e R s m args below meth c H locs cells slots Q (F0 m (pc + 3) lr' r)) : W p l e R s m args below meth c H locs cells slots Q (F0 m pc lr r) := by
  intro T hT X
  obtain ⟨t, a, b⟩ := k T hT X
  refine ⟨t, ?_, b⟩
  jvm_step X.here [X.here.top, ↓top_set X.here.top, hexec, hb, hdg, hg, e']
  exact a
theorem xld_ok {t i : Nat} {ls : xL} {v : Value} (h : xld t i ls = some v) : ls[i]? = some (some v) ∧ xfit t v = true := by
  unfold xld at h
  split at h
  · rename_i w hw
    split at h
    · rename_i hf
      cases h
      exact ⟨hw, hf⟩
    · cases h
  · cases h
theorem xfit0 {v : Value} (h : xfit 0 v = true) : ∃ x : Int32, v = .int x := by
  cases v with
  | int x => exact ⟨x, rfl⟩
  | _ => simp [xfit] at h
theorem xfit2 {v : Value} (h : xfit 2 v = true) : v = .null ∨ ∃ a : Nat, v = .ref a := by
  cases v with
  | null => exact Or.inl rfl
  | ref a => exact Or.inr ⟨a, rfl⟩
  | _ => simp [xfit] at h
theorem xfit3 {v : Value} (h : xfit 3 v = true) : ∃ x : Int64, v = .long x := by
  cases v with
  | long x => exact ⟨x, rfl⟩
  | _ => simp [xfit] at h
set_option maxHeartbeats 4000000 in
theorem xV_ok (hexec : p.tables.exec = Jvm.exec) (hb : c.code = cc) {ins : Instr} {ls ls' : xL} {st st' : List Value} (h : xV ins ls st = some (ls', st')) (hl : xLH ρ lr ls) (hdg : decode cc pc = .ok (ins, xLen ins))
    (k : ∀ lr' : Array Slot, xLH ρ lr' ls' → W p l e R s m args below meth c H locs cells slots Q (F0 m (pc + xLen ins) lr' (st'.map (tv ρ)))) : W p l e R s m args below meth c H locs cells slots Q (F0 m pc lr (st.map (tv ρ))) := by
  unfold xV at h
  split at h
  · obtain ⟨v, h1, h2⟩ := Option.map_eq_some_iff.mp h
    cases h2
    obtain ⟨g1, g2⟩ := xld_ok h1
    have g3 := hl.2.2 _ _ g1
    obtain ⟨x, rfl⟩ := xfit0 g2
    exact lv_iload hexec hb hdg g3 (k lr hl)
  · obtain ⟨v, h1, h2⟩ := Option.map_eq_some_iff.mp h
    cases h2
    obtain ⟨g1, g2⟩ := xld_ok h1
    have g3 := hl.2.2 _ _ g1
    obtain ⟨x, rfl⟩ := xfit0 g2
    exact lv_iload_n hexec hb hdg rfl g3 (k lr hl)
  · obtain ⟨v, h1, h2⟩ := Option.map_eq_some_iff.mp h
    cases h2
    obtain ⟨g1, g2⟩ := xld_ok h1
    have g3 := hl.2.2 _ _ g1
    rcases xfit2 g2 with rfl | ⟨a, rfl⟩
    · exact lv_aloadN hexec hb hdg g3 (k lr hl)
    · exact lv_aload hexec hb hdg g3 (k lr hl)
  · obtain ⟨v, h1, h2⟩ := Option.map_eq_some_iff.mp h
    cases h2
    obtain ⟨g1, g2⟩ := xld_ok h1
    have g3 := hl.2.2 _ _ g1
    rcases xfit2 g2 with rfl | ⟨a, rfl⟩
    · exact lv_aload_nN hexec hb hdg rfl g3 (k lr hl)
    · exact lv_aload_n hexec hb hdg rfl g3 (k lr hl)
  · obtain ⟨v, h1, h2⟩ := Option.map_eq_some_iff.mp h
    cases h2
    obtain ⟨g1, g2⟩ := xld_ok h1
    have g3 := hl.2.2 _ _ g1
    obtain ⟨x, rfl⟩ := xfit3 g2
    exact lv_lload hexec hb hdg g3 (k lr hl)
  · obtain ⟨v, h1, h2⟩ := Option.map_eq_some_iff.mp h
    cases h2
    obtain ⟨g1, g2⟩ := xld_ok h1
    have g3 := hl.2.2 _ _ g1
    obtain ⟨x, rfl⟩ := xfit3 g2
    exact lv_lload_n hexec hb hdg rfl g3 (k lr hl)
  · obtain ⟨l', h1, h2⟩ := Option.map_eq_some_iff.mp h
    cases h2
    obtain ⟨lr', e', h'⟩ := xst1_ok hl h1 rfl
    exact xs_istore hexec hb hdg e' (k lr' h')
  · obtain ⟨l', h1, h2⟩ := Option.map_eq_some_iff.mp h
    cases h2
    obtain ⟨lr', e', h'⟩ := xst1_ok hl h1 rfl
    exact xs_istore_n hexec hb hdg e' (k lr' h')
  · obtain ⟨l', h1, h2⟩ := Option.map_eq_some_iff.mp h
    cases h2
    obtain ⟨lr', e', h'⟩ := xst1_ok hl h1 rfl
    exact xs_astore hexec hb hdg e' (k lr' h')
  · obtain ⟨l', h1, h2⟩ := Option.map_eq_some_iff.mp h
    cases h2
    obtain ⟨lr', e', h'⟩ := xst1_ok hl h1 rfl
    exact xs_astore_n hexec hb hdg e' (k lr' h')
  · obtain ⟨l', h1, h2⟩ := Option.map_eq_some_iff.mp h
    cases h2
    obtain ⟨lr', e', h'⟩ := xst1_ok hl h1 rfl
    exact xs_astoreN hexec hb hdg e' (k lr' h')
  · obtain ⟨l', h1, h2⟩ := Option.map_eq_some_iff.mp h
    cases h2
    obtain ⟨lr', e', h'⟩ := xst1_ok hl h1 rfl
    exact xs_astore_nN hexec hb hdg e' (k lr' h')
  · obtain ⟨l', h1, h2⟩ := Option.map_eq_some_iff.mp h
    cases h2
    obtain ⟨lr', e', h'⟩ := xst2_ok hl h1 rfl
    exact xs_lstore hexec hb hdg e' (k lr' h')
  · obtain ⟨l', h1, h2⟩ := Option.map_eq_some_iff.mp h
    cases h2
    obtain ⟨lr', e', h'⟩ := xst2_ok hl h1 rfl
    exact xs_lstore_n hexec hb hdg e' (k lr' h')
  · split at h
    · rename_i x hx
      obtain ⟨l', h1, h2⟩ := Option.map_eq_some_iff.mp h
      cases h2
      obtain ⟨lr', e', h'⟩ := xst1_ok hl h1 rfl
      exact xs_iinc hexec hb hdg (hl.2.2 _ _ hx) e' (k lr' h')
    · cases h
  · cases h
theorem xcn_eq {x y : Int32} : (xcn .eq x y = true) = (x = y) := by simp [xcn]
theorem xlk_ok {ps : List (Int × Int)} {x d : Int} : ∀ {ts : List Nat} {t0 : Nat} {f : Nat → Int}, ps.length = ts.length → (∀ (j : Nat) (q : Int × Int) (t : Nat), ps[j]? = some q → ts[j]? = some t → q.2 = f t) → d = f t0 → Op.lookupswitch.offset ps d x = f (xlk ps ts t0 x) := by
  induction ps with
  | nil =>
    intro ts t0 f hlen hj hd
    rw [show xlk [] ts t0 x = t0 by cases ts <;> rfl, ← hd]
    rfl
  | cons q ps ih =>
    intro ts t0 f hlen hj hd
    cases ts with
    | nil => simp at hlen
    | cons t ts =>
      obtain ⟨a, o⟩ := q
      rw [Op.lookupswitch.offset_cons]
      by_cases hx : x = a
      · rw [if_pos hx.symm, show xlk ((a, o) :: ps) (t :: ts) t0 x = t by simp [xlk, hx]]
        exact hj 0 (a, o) t rfl rfl
      · rw [if_neg (fun q => hx q.symm), show xlk ((a, o) :: ps) (t :: ts) t0 x = xlk ps ts t0 x by simp [xlk, hx]]
        exact ih (by simpa using hlen) (fun j q t h1 h2 => hj (j + 1) q t h1 h2) hd
/-- the targets of a branch, as places in the bytes -/
def xtg (f : Nat → Nat) (pc : Nat) (ins : Instr) (ax : List Nat) : Prop := match ins, ax with
  | .goto o, [t] => (pc : Int) + o = (f t : Int)
  | .ifCond _ o, [t] => (pc : Int) + o = (f t : Int)
  | .if_icmp _ o, [t] => (pc : Int) + o = (f t : Int)
  | .ifnull o, [t] => (pc : Int) + o = (f t : Int)
  | .ifnonnull o, [t] => (pc : Int) + o = (f t : Int)
  | .tableswitch d _ _ os, t0 :: ts => (pc : Int) + d = (f t0 : Int) ∧ os.size = ts.length ∧ ∀ (j : Nat) (o : Int) (t : Nat), os[j]? = some o → ts[j]? = some t → (pc : Int) + o = (f t : Int)
  | .lookupswitch d ps, t0 :: ts => (ps.toList.zip (ps.toList.drop 1)).all (fun (a, next) => a.1 < next.1) = true ∧ (pc : Int) + d = (f t0 : Int) ∧ ps.toList.length = ts.length ∧ ∀ (j : Nat) (q : Int × Int) (t : Nat), ps.toList[j]? = some q → ts[j]? = some t → (pc : Int) + q.2 = (f t : Int)
  | _, _ => True
def xsw (ins : Instr) : Bool := match ins with
  | .tableswitch _ _ _ _ => true
  | .lookupswitch _ _ => true
  | _ => false
set_option maxHeartbeats 4000000 in
theorem xB_ok (hexec : p.tables.exec = Jvm.exec) (hb : c.code = cc) {ins : Instr} {ax : List Nat} {i i' len : Nat} {f : Nat → Nat} {st st' : List Value} (h : xB ins ax i st = some (i', st')) (hdg : decode cc pc = .ok (ins, len)) (hlen : xsw ins = true ∨ len = xLen ins) (ht : xtg f pc ins ax) (hf : xsw ins = false → f (i + 1) = pc + len ∨ ∃ o, ins = .goto o)
    (k : W p l e R s m args below meth c H locs cells slots Q (F0 m (f i') lr (st'.map (tv ρ)))) : W p l e R s m args below meth c H locs cells slots Q (F0 m pc lr (st.map (tv ρ))) := by
  unfold xB at h
  split at h
  · cases h
    rcases hlen with hlen | rfl
    · cases hlen
    exact lv_goto hexec hb hdg ht k
  · rename_i cnd o t x r
    rcases hlen with hlen | rfl
    · cases hlen
    have hf := (hf rfl).resolve_right (by rintro ⟨o, ho⟩; cases ho)
    cases h
    cases cnd
    · exact lv_if_eq hexec hb hdg ht (fun q => by simpa [xcn, q] using k) (fun q => by rw [← show f (i + 1) = pc + 3 from hf]; simpa [xcn, q] using k)
    · exact lv_if_ne hexec hb hdg ht (fun q => by simpa [xcn, q] using k) (fun q => by rw [← show f (i + 1) = pc + 3 from hf]; simpa [xcn, q] using k)
    · exact lv_if_lt hexec hb hdg ht (fun q => by simpa [xcn, q] using k) (fun q => by rw [← show f (i + 1) = pc + 3 from hf]; simpa [xcn, q] using k)
    · exact lv_if_ge hexec hb hdg ht (fun q => by simpa [xcn, q] using k) (fun q => by rw [← show f (i + 1) = pc + 3 from hf]; simpa [xcn, q] using k)
    · exact lv_if_gt hexec hb hdg ht (fun q => by simpa [xcn, q] using k) (fun q => by rw [← show f (i + 1) = pc + 3 from hf]; simpa [xcn, q] using k)
    · exact lv_if_le hexec hb hdg ht (fun q => by simpa [xcn, q] using k) (fun q => by rw [← show f (i + 1) = pc + 3 from hf]; simpa [xcn, q] using k)
  · rename_i cnd o t y x r
    rcases hlen with hlen | rfl
    · cases hlen
    have hf := (hf rfl).resolve_right (by rintro ⟨o, ho⟩; cases ho)
    cases h
    cases cnd
    · exact lv_icmp_eq hexec hb hdg ht (fun q => by simpa [xcn, q] using k) (fun q => by rw [← show f (i + 1) = pc + 3 from hf]; simpa [xcn, q] using k)
    · exact lv_icmp_ne hexec hb hdg ht (fun q => by simpa [xcn, q] using k) (fun q => by rw [← show f (i + 1) = pc + 3 from hf]; simpa [xcn, q] using k)
    · exact lv_icmp_lt hexec hb hdg ht (fun q => by simpa [xcn, q] using k) (fun q => by rw [← show f (i + 1) = pc + 3 from hf]; simpa [xcn, q] using k)
    · exact lv_icmp_ge hexec hb hdg ht (fun q => by simpa [xcn, q] using k) (fun q => by rw [← show f (i + 1) = pc + 3 from hf]; simpa [xcn, q] using k)
    · exact lv_icmp_gt hexec hb hdg ht (fun q => by simpa [xcn, q] using k) (fun q => by rw [← show f (i + 1) = pc + 3 from hf]; simpa [xcn, q] using k)
    · exact lv_icmp_le hexec hb hdg ht (fun q => by simpa [xcn, q] using k) (fun q => by rw [← show f (i + 1) = pc + 3 from hf]; simpa [xcn, q] using k)
  · rcases hlen with hlen | rfl
    · cases hlen
    cases h
    exact lv_ifnullN hexec hb hdg ht k
  · rcases hlen with hlen | rfl
    · cases hlen
    have hf := (hf rfl).resolve_right (by rintro ⟨o, ho⟩; cases ho)
    cases h
    exact lv_ifnull hexec hb hdg (by rw [← show f (i + 1) = pc + 3 from hf]; exact k)
  · rcases hlen with hlen | rfl
    · cases hlen
    have hf := (hf rfl).resolve_right (by rintro ⟨o, ho⟩; cases ho)
    cases h
    exact lv_ifnonnullN hexec hb hdg (by rw [← show f (i + 1) = pc + 3 from hf]; exact k)
  · rcases hlen with hlen | rfl
    · cases hlen
    cases h
    exact lv_ifnonnull hexec hb hdg ht k
  · rename_i d lo hi os t0 ts x r
    obtain ⟨g1, g2, g3⟩ := ht
    split at h
    · rename_i hq
      cases h
      exact lv_tableOut hexec hb hdg hq g1 k
    · rename_i hq
      obtain ⟨t, h1, h2⟩ := Option.map_eq_some_iff.mp h
      cases h2
      have hlt := (List.getElem?_eq_some_iff.mp h1).1
      have ho : os[(x.toInt - lo).toNat]? = some (os[(x.toInt - lo).toNat]'(by omega)) := Array.getElem?_eq_getElem (by omega)
      exact lv_tableIn hexec hb hdg (fun q => hq (Or.inl q)) (fun q => hq (Or.inr q)) ho (g3 _ _ _ ho h1) k
  · rename_i d ps t0 ts x r
    obtain ⟨g0, g1, g2, g3⟩ := ht
    cases h
    have hoff := xlk_ok (ps := ps.toList) (x := x.toInt) (d := d) (ts := ts) (t0 := t0) (f := fun t => (f t : Int) - (pc : Int)) g2 (fun j q t h1 h2 => by have := g3 j q t h1 h2; omega) (by omega)
    exact lv_lookup hexec hb hdg g0 hoff (by omega) k
  · cases h
end X1
end
section
/-! the heap of the pure machine in the machine's heap -/
def xr (B K : Nat) (pre : Nat → Nat) (i : Nat) : Nat := if i < K then pre i else B + (i - K)
theorem xr_ge {B K : Nat} {pre : Nat → Nat} {a : Nat} (h : K ≤ a) : xr B K pre a = B + (a - K) := by
  unfold xr
  rw [if_neg (by omega)]
theorem xr_ne {B K : Nat} {pre : Nat → Nat} (hpre : ∀ i, i + 1 < K → pre i < B) {a b : Nat} (hbK : b + 1 ≠ K) (ha : K ≤ a) (hab : b ≠ a) : xr B K pre b ≠ xr B K pre a := by
  rw [xr_ge ha]
  unfold xr
  split
  · rename_i h
    have := hpre b (by omega)
    omega
  · omega
def xTy (cl : List vw_C) (c : Nat) : FieldType := if c = 100 then .int else if c = 101 then .byte else if c = 102 then .char else if c = 103 then .boolean else if c = 104 then .long else .object (match cl[c - 110]? with
  | some q => q.1
  | none => "")
theorem xTy_ref {cl : List vw_C} {c : Nat} (h : 110 ≤ c) {q : vw_C} (hq : cl[c - 110]? = some q) : xTy cl c = .object q.1 := by
  unfold xTy
  rw [if_neg (by omega), if_neg (by omega), if_neg (by omega), if_neg (by omega), if_neg (by omega), hq]
theorem xTy_isr {cl : List vw_C} {c : Nat} (h : 110 ≤ c) : ∃ C, xTy cl c = .object C := by
  unfold xTy
  rw [if_neg (by omega), if_neg (by omega), if_neg (by omega), if_neg (by omega), if_neg (by omega)]
  exact ⟨_, rfl⟩
/-- what the tables say of a cell of a kind -/
def xkd (cl : List vw_C) (kc : Nat → ClassId) (s0 : State) (cell : Cell) (c : Nat) : Prop := (c < 100 → cell.cls = kc c) ∧ (100 ≤ c → s0.isArrayOf cell (xTy cl c)) ∧ (110 ≤ c → va_RA s0 cell.cls (xTy cl c))
def xsl (sl : Nat → Nat → Nat) (c j : Nat) : Nat := if c < 100 then sl c j else j
def xCk (cl : List vw_C) (kc : Nat → ClassId) (sl : Nat → Nat → Nat) (s0 : State) (ρ : Nat → Nat) (own : Prop) (cell : Cell) (o : xO) : Prop :=
  xkd cl kc s0 cell o.1 ∧ cell.vm ≠ .unknown ∧ cell.vm.isStatics = false ∧ (own → cell.vm = .none) ∧ (∀ (j : Nat) (v : Value), o.2[j]? = some v → cell.slots[xsl sl o.1 j]? = some (tv ρ v)) ∧ (100 ≤ o.1 → o.2.length ≤ cell.slots.size ∧ cell.slots.size.toInt32 = Int32.ofNat o.2.length) ∧ (o.1 < 100 → ∀ q : vw_C, cl[o.1]? = some q → o.2.length ≤ q.2.2)
def xC (cl : List vw_C) (kc : Nat → ClassId) (sl : Nat → Nat → Nat) (s0 : State) (ρ : Nat → Nat) (K : Nat) (H : Heap) (i : Nat) (o : xO) : Prop := (o.1 = 99 ∧ i < K) ∨ ∃ cell : Cell, H[ρ i]? = some cell ∧ xCk cl kc sl s0 ρ (K ≤ i) cell o
def xRp (cl : List vw_C) (kc : Nat → ClassId) (sl : Nat → Nat → Nat) (s0 : State) (B K : Nat) (pre : Nat → Nat) (hp : xH) (H : Heap) : Prop :=
  (K ≤ hp.length ∧ ∀ (i : Nat) (o : xO), i + 1 = K → hp[i]? = some o → o.1 = 99) ∧ H.size = B + (hp.length - K) ∧ (∀ (i : Nat) (o : xO), hp[i]? = some o → xC cl kc sl s0 (xr B K pre) K H i o) ∧ ∀ q : Nat, q < B → H[q]? = s0.heap[q]?
section X2
variable {cl : List vw_C} {kc : Nat → ClassId} {sl : Nat → Nat → Nat} {s0 : State} {B K : Nat} {pre : Nat → Nat}
theorem xC_kept {ρ : Nat → Nat} {H H' : Heap} {i : Nat} {o : xO} (h : xC cl kc sl s0 ρ K H i o) (hq : H'[ρ i]? = H[ρ i]?) : xC cl kc sl s0 ρ K H' i o := by
  rcases h with h | ⟨cell, h1, h2⟩
  · exact Or.inl h
  · exact Or.inr ⟨cell, by rw [hq]; exact h1, h2⟩
theorem xC_get {ρ : Nat → Nat} {H : Heap} {i c : Nat} {vs : List Value} (h : xC cl kc sl s0 ρ K H i (c, vs)) (hc : c ≠ 99) : ∃ cell : Cell, H[ρ i]? = some cell ∧ xCk cl kc sl s0 ρ (K ≤ i) cell (c, vs) := by
  rcases h with h | h
  · exact absurd h.1 hc
  · exact h
theorem xRp_set (hpre : ∀ i, i + 1 < K → pre i < B) {hp : xH} {H H' : Heap} {a c : Nat} {vs vs' : List Value} (hR : xRp cl kc sl s0 B K pre hp H) (ha : hp[a]? = some (c, vs)) (hK : K ≤ a) (hsz : H'.size = H.size) (hoth : ∀ q : Nat, q ≠ xr B K pre a → H'[q]? = H[q]?)
    (hc : xC cl kc sl s0 (xr B K pre) K H' a (c, vs')) : xRp cl kc sl s0 B K pre (hp.set a (c, vs')) H' := by
  refine ⟨⟨by rw [List.length_set]; exact hR.1.1, fun i o h1 h2 => hR.1.2 i o h1 (by rw [List.getElem?_set_ne (by omega)] at h2; exact h2)⟩, by rw [hsz, List.length_set]; exact hR.2.1, fun i o hi => ?_, fun q hq => (hoth q (by rw [xr_ge hK]; omega)).trans (hR.2.2.2 q hq)⟩
  by_cases h : i = a
  · subst h
    rw [List.getElem?_set_self (List.getElem?_eq_some_iff.mp ha).1] at hi
    cases hi
    exact hc
  · rw [List.getElem?_set_ne (fun q => h q.symm)] at hi
    by_cases h9 : i + 1 = K
    · exact Or.inl ⟨hR.1.2 i o h9 hi, by omega⟩
    · exact xC_kept (hR.2.2.1 i o hi) (hoth _ (xr_ne hpre h9 hK h))
theorem xRp_push {hp : xH} {H H' : Heap} {o : xO} {cell : Cell} (hR : xRp cl kc sl s0 B K pre hp H) (he : H'[H.size]? = some cell) (hsz : H'.size = H.size + 1) (hoth : ∀ q : Nat, q < H.size → H'[q]? = H[q]?)
    (hc : xCk cl kc sl s0 (xr B K pre) True cell o) : xRp cl kc sl s0 B K pre (hp ++ [o]) H' := by
  obtain ⟨⟨h1, h1b⟩, h2, h3, h4⟩ := hR
  have hlen : (hp ++ [o]).length = hp.length + 1 := by simp
  refine ⟨⟨by omega, fun i q g1 g2 => h1b i q g1 (by rw [List.getElem?_append_left (by omega)] at g2; exact g2)⟩, by omega, fun i q hi => ?_, fun q hq => (hoth q (by omega)).trans (h4 q hq)⟩
  by_cases h : i < hp.length
  · rw [List.getElem?_append_left h] at hi
    have hx := h3 i q hi
    rcases id hx with g | ⟨cl2, g1, g2⟩
    · exact Or.inl g
    · exact xC_kept hx (hoth _ (Array.getElem?_eq_some_iff.mp g1).1)
  · have hl : i < (hp ++ [o]).length := (List.getElem?_eq_some_iff.mp hi).1
    have hi2 : i = hp.length := by omega
    subst hi2
    rw [List.getElem?_append_right (Nat.le_refl _), Nat.sub_self] at hi
    cases hi
    refine Or.inr ⟨cell, by rw [xr_ge h1, ← h2]; exact he, ?_⟩
    obtain ⟨g1, g2, g3, g4, g5⟩ := hc
    exact ⟨g1, g2, g3, fun _ => g4 trivial, g5⟩
theorem xr_len {hp : xH} {H : Heap} (hR : xRp cl kc sl s0 B K pre hp H) : xr B K pre hp.length = H.size := by
  rw [xr_ge hR.1.1, hR.2.1]
theorem xCk_arr {ρ : Nat → Nat} {own : Prop} {cell : Cell} {c j : Nat} {vs : List Value} {v : Value} (h : xCk cl kc sl s0 ρ own cell (c, vs)) (hc : 100 ≤ c) (hj : j < vs.length) : xCk cl kc sl s0 ρ own (cell.setSlot j (tv ρ v)) (c, vs.set j v) := by
  obtain ⟨h1, h2, h3, h4, h5, h6, h7⟩ := h
  obtain ⟨hsz, hsz2⟩ := h6 hc
  refine ⟨⟨fun q => absurd hc (by omega), h1.2.1, h1.2.2⟩, h2, h3, h4, fun i w hi => ?_, fun _ => by rw [k2_slotsz]; simpa using ⟨hsz, hsz2⟩, fun q => absurd hc (by omega)⟩
  have hx : ∀ i, xsl sl c i = i := fun i => by unfold xsl; rw [if_neg (by omega)]
  simp only [hx] at h5 ⊢
  by_cases hij : i = j
  · subst hij
    simp only [List.getElem?_set_self hj] at hi
    cases hi
    exact Cell.slots_setSlot_self _ (Nat.lt_of_lt_of_le hj hsz)
  · simp only [List.getElem?_set_ne (fun q => hij q.symm)] at hi
    rw [slot_ne _ _ (fun q => hij q.symm)]
    exact h5 i w hi
theorem xCk_obj {ρ : Nat → Nat} {own : Prop} {cell : Cell} {c k : Nat} {vs : List Value} {v : Value} {q : vw_C} (h : xCk cl kc sl s0 ρ own cell (c, vs)) (hc : c < 100) (hq : cl[c]? = some q) (hap : ∀ x y, x < q.2.2 → y < q.2.2 → x ≠ y → sl c x ≠ sl c y) (hk : k < vs.length) : xCk cl kc sl s0 ρ own (cell.setSlot (sl c k) (tv ρ v)) (c, vs.set k v) := by
  obtain ⟨h1, h2, h3, h4, h5, h6, h7⟩ := h
  refine ⟨⟨fun g => h1.1 g, fun g => absurd hc (by omega), fun g => absurd hc (by omega)⟩, h2, h3, h4, fun i w hi => ?_, fun g => absurd hc (by omega), fun g q' hq' => by simpa using h7 hc q' hq'⟩
  have hx : ∀ i, xsl sl c i = sl c i := fun i => by unfold xsl; rw [if_pos hc]
  have hle : vs.length ≤ q.2.2 := h7 hc q hq
  simp only [hx] at h5 ⊢
  by_cases hij : i = k
  · subst hij
    simp only [List.getElem?_set_self hk] at hi
    cases hi
    have h9 : vs[i]? = some (vs[i]'hk) := List.getElem?_eq_getElem hk
    exact Cell.slots_setSlot_self _ (k2_hasslot (h5 i _ h9))
  · simp only [List.getElem?_set_ne (fun q => hij q.symm)] at hi
    have hlt : i < vs.length := (List.getElem?_eq_some_iff.mp hi).1
    rw [slot_ne _ _ (hap k i (by omega) (by omega) (fun q => hij q.symm))]
    exact h5 i w hi
end X2
def xty0 (q : vw_C) (k : Nat) : FieldType := (parseFieldDescriptor (q.2.1 k).2.2.1).getD .int
/-- what is known of a row of the table of objects' kinds -/
def xclok (Ts : List Cond) (q : vw_C) : Prop := (∀ w ∈ u_ws q.1 q.2.1 q.2.2, w ∈ Ts) ∧ (∀ a, a < q.2.2 → ∀ b, b < q.2.2 → a ≠ b → (q.2.1 a).2.1 ≠ (q.2.1 b).2.1) ∧ ∀ k, k < q.2.2 → parseFieldDescriptor (q.2.1 k).2.2.1 = some (xty0 q k) ∧ xtc (xty0 q k) ≠ 9
/-- a String's fields: what it holds, and how -/
def xsn (k : Nat) : String × String := if k = 0 then ("value", "[B") else ("coder", "B")
def xStr (sl : Nat → Nat → Nat) (s : State) : Prop := ∀ k : Nat, k < 2 → ∃ (cf : ClassId) (kf : Class) (fi : Nat) (f : Field), s.fieldFound? "java/lang/String" (xsn k).1 (xsn k).2 = some (cf, kf, fi, f) ∧ f.isStatic = false ∧ f.slot = sl 70 k
/-- what the tables must hold for an instruction -/
def xlnk (Ts Ns : List Cond) (cl : List vw_C) (nm own : String) (ins : Instr) (ax : List Nat) : Prop := match ins, ax with
  | .getfield idx, ci :: k :: _ => (ci < 70 ∧ ∃ q : vw_C, cl[ci]? = some q ∧ k < q.2.2 ∧ Cond.fieldLink own idx (q.2.1 k).1 (q.2.1 k).2.1 (q.2.1 k).2.2.1 ∈ Ts) ∨ (ci = 70 ∧ k < 2 ∧ Cond.fieldLink own idx "java/lang/String" (xsn k).1 (xsn k).2 ∈ Ts)
  | .putfield idx, ci :: k :: t :: _ => ci < 70 ∧ ∃ q : vw_C, cl[ci]? = some q ∧ k < q.2.2 ∧ Cond.fieldLink own idx (q.2.1 k).1 (q.2.1 k).2.1 (q.2.1 k).2.2.1 ∈ Ts ∧ t = xtc (xty0 q k) ∧ ((q.2.1 k).2.2.2 = false ∨ ((q.2.1 k).2.2.2 = true ∧ nm = "<init>" ∧ (q.2.1 k).1 = own))
  | .new idx, ci :: ts => ci < 100 → ∃ q : vw_C, cl[ci]? = some q ∧ Cond.classLink own idx q.1 ∈ Ts ∧ Cond.instantiable q.1 q.2.2 ∈ Ts ∧ Cond.initialized q.1 ∈ Ts ∧ ts = (List.range q.2.2).map fun k => xtc (xty0 q k)
  | .aastore, ci :: _ => ci < 70 ∧ ∃ q : vw_C, cl[ci]? = some q
  | .newarray t, _ => Cond.arrayClass (newarray.typeOf t) ∈ Ts
  | .anewarray idx, [ci] => ∃ q : vw_C, cl[ci]? = some q ∧ Cond.classLink own idx q.1 ∈ Ts ∧ Cond.arrayOver (.object q.1) ∈ Ns
  | _, _ => True
theorem xfit_byte {x : Int32} (h : (-128 : Int32) ≤ x) (h2 : x ≤ 127) : narrow .byte (.int x) = .int x := by
  show Value.int x.toInt8.toInt32 = .int x
  congr 1
  refine Int32.toInt_inj.mp ?_
  rw [Int8.toInt_toInt32, Int32.toInt_toInt8]
  rw [Int32.le_iff_toInt_le] at h h2
  have e1 : (-128 : Int32).toInt = -128 := by decide
  have e2 : (127 : Int32).toInt = 127 := by decide
  rw [e1] at h
  rw [e2] at h2
  simp only [Int.bmod]
  split <;> omega
theorem xfit_ok {ρ : Nat → Nat} {ty : FieldType} {v : Value} (h : xfit (xtc ty) v = true) : narrow ty (tv ρ v) = tv ρ v ∧ fits ty (tv ρ v) = true := by
  cases ty with
  | byte =>
    cases v with
    | int x =>
      have h1 : (decide (-128 ≤ x) && decide (x ≤ 127)) = true := h
      simp only [Bool.and_eq_true, decide_eq_true_eq] at h1
      exact ⟨xfit_byte h1.1 h1.2, by show (decide (-128 ≤ x) && decide (x ≤ 127)) = true; simp [h1.1, h1.2]⟩
    | _ => cases h
  | char =>
    cases v with
    | int x =>
      have h1 : (decide (0 ≤ x) && decide (x ≤ 65535)) = true := h
      simp only [Bool.and_eq_true, decide_eq_true_eq] at h1
      obtain ⟨j, hj, rfl⟩ := nI_of2 (x := x) (M := 65535) (n := 65535) (by decide) (fun q => absurd h1.1 (by rw [Int32.le_iff_toInt_le]; rw [Int32.lt_iff_toInt_lt] at q; omega)) h1.2
      exact pk_charN (by omega)
    | _ => cases h
  | boolean =>
    cases v with
    | int x =>
      have h1 : (x == 0 || x == 1) = true := h
      simp only [Bool.or_eq_true, beq_iff_eq] at h1
      rcases h1 with rfl | rfl <;> exact ⟨rfl, rfl⟩
    | _ => cases h
  | int => cases v <;> first | exact ⟨rfl, rfl⟩ | cases h
  | long => cases v <;> first | exact ⟨rfl, rfl⟩ | cases h
  | object n => cases v <;> first | exact ⟨rfl, rfl⟩ | cases h
  | array n => cases v <;> first | exact ⟨rfl, rfl⟩ | cases h
  | _ => cases v <;> cases h
end
section
section X3
variable {p : Program} {l : Launch} {e : Env} {R : Room} {s : State} {m : MethodId} {args : Array Value} {below : List Frame} {meth : Method} {c : Code} {H : Heap} {locs : List Loc} {cells slots : Nat} {Q : State → Prop} {cc : ByteArray} {pc : Nat} {lr : Array Slot}
variable {cl : List vw_C} {kc : Nat → ClassId} {sl : Nat → Nat → Nat} {s0 : State} {B K : Nat} {pre : Nat → Nat} {Ts Ns : List Cond}
theorem xat_ok {ok : Bool} {vs : List Value} {j : Int32} {v : Value} (h : xat ok vs j = some v) : ok = true ∧ ¬ j < 0 ∧ vs[j.toNatClampNeg]? = some v := by
  unfold xat at h
  split at h
  · rename_i hq
    exact ⟨hq.1, hq.2, h⟩
  · cases h
theorem x_slot {ρ : Nat → Nat} {own : Prop} {cell : Cell} {k : Nat} {vs : List Value} {j : Nat} {v : Value} (h : xCk cl kc sl s0 ρ own cell (k, vs)) (hk : 100 ≤ k) (hj : vs[j]? = some v) : cell.slots[j]? = some (tv ρ v) ∧ vs.length ≤ cell.slots.size := by
  have h5 := h.2.2.2.2.1 j v hj
  have e : xsl sl k j = j := by unfold xsl; rw [if_neg (by omega)]
  have h5' : cell.slots[xsl sl k j]? = some (tv ρ v) := h5
  rw [e] at h5'
  exact ⟨h5', (h.2.2.2.2.2.1 hk).1⟩
theorem x_in {cell : Cell} {j : Int32} {n : Nat} (h0 : ¬ j < 0) (hn : n ≤ cell.slots.size) (hj : j.toNatClampNeg < n) : ¬ (j < 0 ∨ cell.slots.size ≤ j.toNatClampNeg) := by
  rintro (q | q)
  · exact h0 q
  · omega
set_option maxHeartbeats 4000000 in
theorem xR_ok (hexec : p.tables.exec = Jvm.exec) (hb : c.code = cc) (hStr : xStr sl s) {nm own : String} (ho : s.vm.findClass own = some m.cls) (hts : ∀ w ∈ Ts, w.before args s = true) (hcl : ∀ (ci : Nat) (q : vw_C), cl[ci]? = some q → xclok Ts q) (hKn : ∀ (ci : Nat) (q : vw_C), cl[ci]? = some q → u_Kn s q.1 q.2.1 q.2.2 (kc ci) (sl ci)) (hal : s0.vm.Alike s.vm)
    {ins : Instr} {ax : List Nat} {st st' : List Value} {hp : xH} (h : xR ins ax st hp = some st') (hR : xRp cl kc sl s0 B K pre hp H) (hk : xlnk Ts Ns cl nm own ins ax) (hdg : decode cc pc = .ok (ins, xLen ins))
    (k : W p l e R s m args below meth c H locs cells slots Q (F0 m (pc + xLen ins) lr (st'.map (tv (xr B K pre))))) : W p l e R s m args below meth c H locs cells slots Q (F0 m pc lr (st.map (tv (xr B K pre)))) := by
  unfold xR at h
  split at h
  · rename_i idx ci kf rs a r
    split at h
    · rename_i c1 vs ha
      split at h
      · rename_i hc1
        subst hc1
        obtain ⟨v, h1, h2⟩ := Option.map_eq_some_iff.mp h
        cases h2
        obtain ⟨cell, g1, g2⟩ := xC_get (hR.2.2.1 a _ ha) (by rcases hk with ⟨q, -⟩ | ⟨q, -⟩ <;> omega)
        rcases hk with ⟨hlt, q, hq, hkN, hlink⟩ | ⟨rfl, hkN, hlink⟩
        rotate_left
        · obtain ⟨cf, kf2, fi, f, hi, hst, hsl⟩ := hStr kf hkN
          have g5 : cell.slots[xsl sl 70 kf]? = some (tv (xr B K pre) v) := g2.2.2.2.2.1 kf v h1
          rw [show xsl sl 70 kf = sl 70 kf from rfl] at g5
          exact W.getf hexec hb ho (hts _ hlink) hi hst g1 g2.2.1 (by rw [hsl]; exact g5) rfl rfl hdg k
        have hlt : c1 < 100 := by omega
        obtain ⟨hin, -, -⟩ := hcl _ _ hq
        obtain ⟨hS, hfc, kC, hkC, hkind⟩ := hKn _ _ hq
        obtain ⟨cf, kf2, fi, f, hi, hsl⟩ := hS kf hkN
        have g5 : cell.slots[xsl sl c1 kf]? = some (tv (xr B K pre) v) := g2.2.2.2.2.1 kf v h1
        rw [show xsl sl c1 kf = sl c1 kf by unfold xsl; rw [if_pos hlt]] at g5
        exact W.getf hexec hb ho (hts _ hlink) hi (u_facts hfc hkC (u_lays hts hin hkN) hi).1 g1 g2.2.1 (by rw [hsl]; exact g5) rfl rfl hdg k
      · cases h
    · cases h
  · rename_i a r
    split at h
    · rename_i c1 vs ha
      split at h
      · rename_i hc1
        cases h
        obtain ⟨cell, g1, g2⟩ := xC_get (hR.2.2.1 a _ ha) (by omega)
        exact W.alen hexec hb g1 (State.isArrayOf_alike hal (g2.1.2.1 hc1)) (g2.2.2.2.2.2.1 hc1).2 rfl rfl hdg k
      · cases h
    · cases h
  · rename_i j a r
    split at h
    · rename_i c1 vs ha
      obtain ⟨v, h1, h2⟩ := Option.map_eq_some_iff.mp h
      cases h2
      obtain ⟨q1, q2, q3⟩ := xat_ok h1
      have hc1 : c1 = 100 := by simpa using q1
      subst hc1
      obtain ⟨cell, g1, g2⟩ := xC_get (hR.2.2.1 a _ ha) (by omega)
      obtain ⟨g5, hsz⟩ := x_slot g2 (by omega) q3
      exact W.iald hexec hb g1 (State.isArrayOf_alike hal (g2.1.2.1 (Nat.le_refl _))) g2.2.1 (x_in q2 hsz (List.getElem?_eq_some_iff.mp q3).1) g5 rfl rfl hdg k
    · cases h
  · rename_i j a r
    split at h
    · rename_i c1 vs ha
      obtain ⟨v, h1, h2⟩ := Option.map_eq_some_iff.mp h
      cases h2
      obtain ⟨q1, q2, q3⟩ := xat_ok h1
      have hc1 : c1 = 101 ∨ c1 = 103 := by simpa using q1
      obtain ⟨cell, g1, g2⟩ := xC_get (hR.2.2.1 a _ ha) (by omega)
      obtain ⟨g5, hsz⟩ := x_slot g2 (by omega) q3
      rcases hc1 with rfl | rfl
      · exact W.bald hexec hb g1 (State.isArrayOf_alike hal (g2.1.2.1 (Nat.le_of_ble_eq_true rfl))) g2.2.1 (x_in q2 hsz (List.getElem?_eq_some_iff.mp q3).1) g5 rfl rfl hdg k
      · exact W.zald hexec hb g1 (State.isArrayOf_alike hal (g2.1.2.1 (Nat.le_of_ble_eq_true rfl))) g2.2.1 (x_in q2 hsz (List.getElem?_eq_some_iff.mp q3).1) g5 rfl rfl hdg k
    · cases h
  · rename_i j a r
    split at h
    · rename_i c1 vs ha
      obtain ⟨v, h1, h2⟩ := Option.map_eq_some_iff.mp h
      cases h2
      obtain ⟨q1, q2, q3⟩ := xat_ok h1
      have hc1 : c1 = 102 := by simpa using q1
      subst hc1
      obtain ⟨cell, g1, g2⟩ := xC_get (hR.2.2.1 a _ ha) (by omega)
      obtain ⟨g5, hsz⟩ := x_slot g2 (by omega) q3
      exact W.cald hexec hb g1 (State.isArrayOf_alike hal (g2.1.2.1 (Nat.le_of_ble_eq_true rfl))) g2.2.1 (x_in q2 hsz (List.getElem?_eq_some_iff.mp q3).1) g5 rfl rfl hdg k
    · cases h
  · rename_i j a r
    split at h
    · rename_i c1 vs ha
      obtain ⟨v, h1, h2⟩ := Option.map_eq_some_iff.mp h
      cases h2
      obtain ⟨q1, q2, q3⟩ := xat_ok h1
      have hc1 : c1 = 104 := by simpa using q1
      subst hc1
      obtain ⟨cell, g1, g2⟩ := xC_get (hR.2.2.1 a _ ha) (by omega)
      obtain ⟨g5, hsz⟩ := x_slot g2 (by omega) q3
      exact W.lald hexec hb g1 (State.isArrayOf_alike hal (g2.1.2.1 (Nat.le_of_ble_eq_true rfl))) g2.2.1 (x_in q2 hsz (List.getElem?_eq_some_iff.mp q3).1) g5 rfl rfl hdg k
    · cases h
  · rename_i j a r
    split at h
    · rename_i c1 vs ha
      obtain ⟨v, h1, h2⟩ := Option.map_eq_some_iff.mp h
      cases h2
      obtain ⟨q1, q2, q3⟩ := xat_ok h1
      have hc1 : 110 ≤ c1 := by simpa using q1
      obtain ⟨cell, g1, g2⟩ := xC_get (hR.2.2.1 a _ ha) (by omega)
      obtain ⟨g5, hsz⟩ := x_slot g2 (by omega) q3
      obtain ⟨C, hC⟩ := xTy_isr (cl := cl) hc1
      have g6 := State.isArrayOf_alike hal (g2.1.2.1 (by omega))
      rw [hC] at g6
      exact W.aald hexec hb g1 g6 rfl g2.2.1 (x_in q2 hsz (List.getElem?_eq_some_iff.mp q3).1) g5 rfl rfl hdg k
    · cases h
  · cases h
theorem xup_ok {hp hp' : xH} {a : Nat} {ok : Nat → Bool} {j : Int32} {v : Nat → Value} (h : xup K hp a ok j v = some hp') : ∃ (c1 : Nat) (vs : List Value), hp[a]? = some (c1, vs) ∧ K ≤ a ∧ ok c1 = true ∧ ¬ j < 0 ∧ j.toNatClampNeg < vs.length ∧ hp' = hp.set a (c1, vs.set j.toNatClampNeg (v c1)) := by
  unfold xup at h
  split at h
  · rename_i c1 vs ha
    split at h
    · rename_i hq
      cases h
      exact ⟨c1, vs, ha, hq.1, hq.2.1, hq.2.2.1, hq.2.2.2, rfl⟩
    · cases h
  · cases h
theorem x_locs {a i : Nat} (h : ∀ q ∈ locs, B ≤ q.base) (ha : B ≤ a) : ∀ q ∈ locs ++ [(⟨a, i⟩ : Loc)], B ≤ q.base := by
  intro q hq
  rcases List.mem_append.mp hq with h1 | h1
  · exact h q h1
  · rw [List.mem_singleton.mp h1]
    exact ha
theorem xr_B {a : Nat} (h : K ≤ a) : B ≤ xr B K pre a := by
  rw [xr_ge h]
  exact Nat.le_add_right _ _
set_option maxHeartbeats 8000000 in
theorem xW_ok (hexec : p.tables.exec = Jvm.exec) (hb : c.code = cc) {nm own : String} (ho : s.vm.findClass own = some m.cls) (hnm : meth.name = nm) (hts : ∀ w ∈ Ts, w.before args s = true) (hcl : ∀ (ci : Nat) (q : vw_C), cl[ci]? = some q → xclok Ts q) (hKn : ∀ (ci : Nat) (q : vw_C), cl[ci]? = some q → u_Kn s q.1 q.2.1 q.2.2 (kc ci) (sl ci)) (hal : s0.vm.Alike s.vm) (hpre : ∀ i, i + 1 < K → pre i < B) (hlo : ∀ q ∈ locs, B ≤ q.base)
    {ins : Instr} {ax : List Nat} {st st' : List Value} {hp hp' : xH} (h : xW K ins ax st hp = some (st', hp')) (hR : xRp cl kc sl s0 B K pre hp H) (hk : xlnk Ts Ns cl nm own ins ax) (hdg : decode cc pc = .ok (ins, xLen ins))
    (k : ∀ (H' : Heap) (locs' : List Loc), xRp cl kc sl s0 B K pre hp' H' → (∀ q ∈ locs', B ≤ q.base) → W p l e R s m args below meth c H' locs' cells slots Q (F0 m (pc + xLen ins) lr (st'.map (tv (xr B K pre))))) : W p l e R s m args below meth c H locs cells slots Q (F0 m pc lr (st.map (tv (xr B K pre)))) := by
  unfold xW at h
  split at h
  · rename_i idx ci kf t rs v a r
    split at h
    · rename_i c1 vs ha
      split at h
      · rename_i hq9
        obtain ⟨hKa, hc1, hkv, hft⟩ := hq9
        subst hc1
        cases h
        obtain ⟨hlt7, q, hq, hkN, hlink, ht, hfin⟩ := hk
        have hlt : c1 < 100 := by omega
        subst ht
        obtain ⟨hin, hnmd, hty⟩ := hcl _ _ hq
        obtain ⟨hn, hfit⟩ := xfit_ok (ρ := xr B K pre) hft
        have hKq := hKn _ _ hq
        have hap : ∀ x y, x < q.2.2 → y < q.2.2 → x ≠ y → sl c1 x ≠ sl c1 y := va_apart (D := (kc, sl)) (cl := cl) (tys := []) (own := own) hts hin (xty0 q) (fun k hk => (hty k hk).1) hnmd ⟨fun c q hq => hKn c q hq, fun k q h => by simp at h⟩ hq
        obtain ⟨hS, hfc, kC, hkC, hkind⟩ := hKq
        obtain ⟨cf, kf2, fi, f, hi, hsl⟩ := hS kf hkN
        obtain ⟨cell, g1, g2⟩ := xC_get (hR.2.2.1 a _ ha) (by omega)
        have hvm : cell.vm = .none := g2.2.2.2.1 hKa
        have hcls : cell.cls = kc c1 := g2.1.1 hlt
        have hst := (u_facts hfc hkC (u_lays hts hin hkN) hi).1
        have hlay := hts _ (hin _ (u_in_lay hkN))
        have h9 : vs[kf]? = some (vs[kf]'hkv) := List.getElem?_eq_getElem hkv
        have g5 : cell.slots[xsl sl c1 kf]? = some (tv (xr B K pre) (vs[kf]'hkv)) := g2.2.2.2.2.1 kf _ h9
        rw [show xsl sl c1 kf = sl c1 kf by unfold xsl; rw [if_pos hlt]] at g5
        have done : ∀ H' : Heap, H'[xr B K pre a]? = some (cell.setSlot f.slot (tv (xr B K pre) v)) → H'.size = H.size → (∀ q, q ≠ xr B K pre a → H'[q]? = H[q]?) → W p l e R s m args below meth c H' (locs ++ [⟨xr B K pre a, f.slot⟩]) cells slots Q (F0 m (pc + 3) lr (st'.map (tv (xr B K pre)))) := by
          intro H' e1 e2 e3
          refine k H' _ (xRp_set hpre hR ha hKa e2 e3 (Or.inr ⟨_, e1, ?_⟩)) (x_locs hlo (xr_B hKa))
          rw [hsl]
          exact xCk_obj g2 hlt hq hap hkv
        rcases hfin with hfin | ⟨hfin, hini, hdecl⟩
        · unfold u_lay at hlay
          rw [if_neg (by rw [hfin]; decide)] at hlay
          have h6 := u_store hfc hkC hkind hlay hi (hty kf hkN).1 hn hfit
          exact W.putK hexec hb (f := f) ⟨ho, hts _ hlink, ⟨_, _, _, hi⟩, hst⟩ (by rw [hcls]; exact h6) g1 hvm (by rw [hsl]; exact k2_hasslot g5) rfl rfl hdg done
        · unfold u_lay at hlay
          rw [if_pos hfin] at hlay
          have hcf : m.cls = cf := by
            obtain ⟨_, _, c', _, _, _, -, -, hf', -, -, -, hown2, -⟩ := Cond.laysFinal_spec hlay
            have e1 : c' = cf := by have := hi.symm.trans hf'; simp at this; exact this.1.symm
            rw [hdecl] at hown2
            rw [← e1]; exact Option.some.inj (ho.symm.trans hown2)
          have h6 := u_fits hfc hkC hkind (Or.inr hlay) hi (hty kf hkN).1 hn hfit
          exact W.putFinK hexec hb ho (hts _ hlink) hi hst hcf (hnm.trans hini) (by rw [hcls]; exact h6) g1 hvm (by rw [hsl]; exact k2_hasslot g5) rfl rfl hdg done
      · cases h
    · cases h
  · rename_i x j a r
    obtain ⟨h', h1, h2⟩ := Option.map_eq_some_iff.mp h
    cases h2
    obtain ⟨c1, vs, ha, hKa, hok, hj0, hj, rfl⟩ := xup_ok h1
    have hc1 : c1 = 100 := by simpa using hok
    subst hc1
    obtain ⟨cell, g1, g2⟩ := xC_get (hR.2.2.1 a _ ha) (by omega)
    have hsz : vs.length ≤ cell.slots.size := (g2.2.2.2.2.2.1 (Nat.le_of_ble_eq_true rfl)).1
    exact W.iast hexec hb g1 (State.isArrayOf_alike hal (g2.1.2.1 (Nat.le_of_ble_eq_true rfl))) g2.2.1 (x_in hj0 hsz hj) rfl rfl hdg fun H' e1 e2 e3 => k H' _ (xRp_set hpre hR ha hKa e2 e3 (Or.inr ⟨_, e1, xCk_arr (v := .int x) g2 (Nat.le_of_ble_eq_true rfl) hj⟩)) (x_locs hlo (xr_B hKa))
  · rename_i x j a r
    obtain ⟨h', h1, h2⟩ := Option.map_eq_some_iff.mp h
    cases h2
    obtain ⟨c1, vs, ha, hKa, hok, hj0, hj, rfl⟩ := xup_ok h1
    have hc1 : c1 = 101 ∨ c1 = 103 := by simpa using hok
    obtain ⟨cell, g1, g2⟩ := xC_get (hR.2.2.1 a _ ha) (by omega)
    have hsz : vs.length ≤ cell.slots.size := (g2.2.2.2.2.2.1 (show 100 ≤ c1 by omega)).1
    rcases hc1 with rfl | rfl
    · exact W.bast hexec hb g1 (State.isArrayOf_alike hal (g2.1.2.1 (Nat.le_of_ble_eq_true rfl))) g2.2.1 (x_in hj0 hsz hj) rfl rfl hdg fun H' e1 e2 e3 => k H' _ (xRp_set hpre hR ha hKa e2 e3 (Or.inr ⟨_, e1, xCk_arr (v := narrow .byte (.int x)) g2 (Nat.le_of_ble_eq_true rfl) hj⟩)) (x_locs hlo (xr_B hKa))
    · exact W.zast hexec hb g1 (State.isArrayOf_alike hal (g2.1.2.1 (Nat.le_of_ble_eq_true rfl))) g2.2.1 (x_in hj0 hsz hj) rfl rfl hdg fun H' e1 e2 e3 => k H' _ (xRp_set hpre hR ha hKa e2 e3 (Or.inr ⟨_, e1, xCk_arr (v := narrow .boolean (.int x)) g2 (Nat.le_of_ble_eq_true rfl) hj⟩)) (x_locs hlo (xr_B hKa))
  · rename_i x j a r
    obtain ⟨h', h1, h2⟩ := Option.map_eq_some_iff.mp h
    cases h2
    obtain ⟨c1, vs, ha, hKa, hok, hj0, hj, rfl⟩ := xup_ok h1
    have hc1 : c1 = 102 := by simpa using hok
    subst hc1
    obtain ⟨cell, g1, g2⟩ := xC_get (hR.2.2.1 a _ ha) (by omega)
    have hsz : vs.length ≤ cell.slots.size := (g2.2.2.2.2.2.1 (Nat.le_of_ble_eq_true rfl)).1
    exact W.cast hexec hb g1 (State.isArrayOf_alike hal (g2.1.2.1 (Nat.le_of_ble_eq_true rfl))) g2.2.1 (x_in hj0 hsz hj) rfl rfl hdg fun H' e1 e2 e3 => k H' _ (xRp_set hpre hR ha hKa e2 e3 (Or.inr ⟨_, e1, xCk_arr (v := narrow .char (.int x)) g2 (Nat.le_of_ble_eq_true rfl) hj⟩)) (x_locs hlo (xr_B hKa))
  · rename_i x j a r
    obtain ⟨h', h1, h2⟩ := Option.map_eq_some_iff.mp h
    cases h2
    obtain ⟨c1, vs, ha, hKa, hok, hj0, hj, rfl⟩ := xup_ok h1
    have hc1 : c1 = 104 := by simpa using hok
    subst hc1
    obtain ⟨cell, g1, g2⟩ := xC_get (hR.2.2.1 a _ ha) (by omega)
    have hsz : vs.length ≤ cell.slots.size := (g2.2.2.2.2.2.1 (Nat.le_of_ble_eq_true rfl)).1
    exact W.last hexec hb g1 (State.isArrayOf_alike hal (g2.1.2.1 (Nat.le_of_ble_eq_true rfl))) g2.2.1 (x_in hj0 hsz hj) rfl rfl hdg fun H' e1 e2 e3 => k H' _ (xRp_set hpre hR ha hKa e2 e3 (Or.inr ⟨_, e1, xCk_arr (v := .long x) g2 (Nat.le_of_ble_eq_true rfl) hj⟩)) (x_locs hlo (xr_B hKa))
  · rename_i ci rs v j a r
    split at h
    · rename_i cv vv hv
      split at h
      · rename_i hcv
        obtain ⟨hcv, hlt⟩ := hcv
        subst hcv
        obtain ⟨h', h1, h2⟩ := Option.map_eq_some_iff.mp h
        cases h2
        obtain ⟨c1, vs, ha, hKa, hok, hj0, hj, rfl⟩ := xup_ok h1
        have hc1 : c1 = 110 + cv := by simpa using hok
        subst hc1
        obtain ⟨hlt7, q, hq⟩ := hk
        obtain ⟨cell, g1, g2⟩ := xC_get (hR.2.2.1 a _ ha) (by omega)
        obtain ⟨cellV, v1, v2⟩ := xC_get (hR.2.2.1 v _ hv) (by omega)
        have hRA : va_RA s0 cell.cls (xTy cl (110 + cv)) := g2.1.2.2 (Nat.le_add_right _ _)
        rw [xTy_ref (q := q) (Nat.le_add_right _ _) (by rw [Nat.add_sub_cancel_left]; exact hq)] at hRA
        obtain ⟨kA, comp, k1, k2, k3, -⟩ := va_RA.moved hal hRA
        have hcls := (hKn cv q hq).2
        have hcomp : comp = kc cv := Option.some.inj (k3.symm.trans hcls.1)
        subst hcomp
        obtain ⟨kC, hkC, -⟩ := hcls.2
        have e9 : cellV.cls = kc cv := v2.1.1 hlt
        have hsz : vs.length ≤ cell.slots.size := (g2.2.2.2.2.2.1 (show 100 ≤ 110 + cv by omega)).1
        have nst : ∀ {cl9 : Cell}, cl9.vm.isStatics = false → ∀ q, cl9.vm ≠ .statics q := fun h9 q h8 => by rw [h8] at h9; cases h9
        exact W.aast hexec hb g1 (nst g2.2.2.1) g2.2.1 k1 k2 rfl hkC ⟨hj0, Nat.lt_of_lt_of_le hj hsz⟩ v1 (nst v2.2.2.1) (by rw [e9]; exact hkC) (by rw [e9]; exact va_assign hcls) rfl rfl hdg fun H' e1 e2 e3 => k H' _ (xRp_set hpre hR ha hKa e2 e3 (Or.inr ⟨_, e1, xCk_arr (v := .ref v) g2 (show 100 ≤ 110 + cv by omega) hj⟩)) (x_locs hlo (xr_B hKa))
      · cases h
    · cases h
  · cases h
theorem vm_nu {cell : Cell} (h : cell.vm = .none) : cell.vm ≠ .unknown := by
  rw [h]
  intro q
  cases q
theorem vm_ns {cell : Cell} (h : cell.vm = .none) : cell.vm.isStatics = false := by
  rw [h]
  rfl
theorem xat2_ty {t : ArrayType} (h : 100 ≤ xat2 t) : xTy cl (xat2 t) = newarray.typeOf t ∧ xat2 t < 110 ∧ defaultValue (newarray.typeOf t) = (if t = .long then .long 0 else .int 0) ∧ componentBytes (newarray.typeOf t) ≤ 8 := by
  cases t <;> first | exact absurd h (by decide) | exact ⟨rfl, by decide, rfl, by decide⟩
theorem xdef_ok {ty : FieldType} (h : xtc ty ≠ 9) : defaultValue ty = xdef (xtc ty) := by
  cases ty <;> first | rfl | exact absurd rfl h
theorem tv_def (ρ : Nat → Nat) (t : Nat) : tv ρ (xdef t) = xdef t := by
  unfold xdef
  split <;> rfl
set_option maxHeartbeats 8000000 in
theorem xA_ok (hexec : p.tables.exec = Jvm.exec) (hb : c.code = cc) {nm own : String} (ho : s.vm.findClass own = some m.cls) (hts : ∀ w ∈ Ts, w.before args s = true) (hcl : ∀ (ci : Nat) (q : vw_C), cl[ci]? = some q → xclok Ts q) (hKn : ∀ (ci : Nat) (q : vw_C), cl[ci]? = some q → u_Kn s q.1 q.2.1 q.2.2 (kc ci) (sl ci)) (hal : s0.vm.Alike s.vm) (hNs : ∀ w ∈ Ns, va_Nw w s)
    {ins : Instr} {ax : List Nat} {st st' : List Value} {hp hp' : xH} (h : xA ins ax st hp = some (st', hp')) (hR : xRp cl kc sl s0 B K pre hp H) (hk : xlnk Ts Ns cl nm own ins ax) (hdg : decode cc pc = .ok (ins, xLen ins))
    (hroom : ∀ o : xO, hp' = hp ++ [o] → cells + 1 ≤ R.cells ∧ slots + o.2.length ≤ R.slots)
    (k : ∀ (H' : Heap) (o : xO), hp' = hp ++ [o] → xRp cl kc sl s0 B K pre hp' H' → W p l e R s m args below meth c H' locs (cells + 1) (slots + o.2.length) Q (F0 m (pc + xLen ins) lr (st'.map (tv (xr B K pre))))) : W p l e R s m args below meth c H locs cells slots Q (F0 m pc lr (st.map (tv (xr B K pre)))) := by
  unfold xA at h
  split at h
  · rename_i idx ci ts
    split at h
    · rename_i hlt0
      have hlt : ci < 100 := by omega
      cases h
      obtain ⟨q, hq, hcl1, hcl2, hcl3, hts9⟩ := hk hlt
      have hlen : ts.length = q.2.2 := by rw [hts9]; simp
      obtain ⟨hin, hnmd, hty⟩ := hcl _ _ hq
      have hKq := hKn _ _ hq
      obtain ⟨r1, r2⟩ := hroom _ rfl
      have hl2 : (ci, ts.map xdef).2.length = q.2.2 := by simp [hlen]
      rw [hl2] at r2
      refine W.newcK hexec hb ho (hts _ hcl1) (hts _ hcl2) (hts _ hcl3) rfl hdg r1 r2 hKq.2.1 rfl fun H1 kC hkC e1 z1 o1 => ?_
      obtain ⟨cell, b1, b2, b3, b4⟩ := u_born (xty0 q) hts hin hKq hkC e1 (fun k hk => (hty k hk).1)
      have hx := k H1 (ci, ts.map xdef) rfl (xRp_push hR b1 z1 o1 ⟨⟨fun _ => b2, fun g => absurd hlt (by omega), fun g => absurd hlt (by omega)⟩, vm_nu b3, vm_ns b3, fun _ => b3, fun j v hj => ?_, fun g => absurd hlt (by omega), fun _ q' hq' => ?_⟩)
      · rw [hl2] at hx
        have e9 : xr B K pre hp.length = H.size := xr_len hR
        have hx' : W p l e R s m args below meth c H1 locs (cells + 1) (slots + q.2.2) Q (F0 m (pc + 3) lr (.ref (xr B K pre hp.length) :: st.map (tv (xr B K pre)))) := hx
        rw [e9] at hx'
        exact hx'
      · have hjl : j < q.2.2 := by
          have := (List.getElem?_eq_some_iff.mp hj).1
          simpa [hlen] using this
        have e8 : v = defaultValue (xty0 q j) := by
          have hj' : (ts.map xdef)[j]? = some v := hj
          rw [hts9, List.map_map, List.getElem?_map, List.getElem?_range hjl] at hj'
          have := Option.some.inj hj'
          rw [← this]
          exact (xdef_ok (hty j hjl).2).symm
        have e7 : tv (xr B K pre) v = v := by rw [e8, xdef_ok (hty j hjl).2, tv_def]
        rw [e7, e8, show xsl sl (ci, ts.map xdef).1 j = sl ci j by unfold xsl; rw [if_pos hlt]]
        exact b4 j hjl
      · rw [hq] at hq'
        cases hq'
        exact Nat.le_of_eq hl2
    · cases h
  · rename_i t n r
    split at h
    · rename_i hq
      obtain ⟨hn, hN, hkd⟩ := hq
      cases h
      obtain ⟨e1, e2, e3, e4⟩ := xat2_ty (cl := cl) hkd
      obtain ⟨r1, r2⟩ := hroom _ rfl
      have hl2 : ((xat2 t, List.replicate n.toNatClampNeg (if t = .long then Value.long 0 else Value.int 0)) : xO).2.length = n.toNatClampNeg := by simp
      rw [hl2] at r2
      have hbytes : n.toNatClampNeg * componentBytes (newarray.typeOf t) ≤ 536870912 := Nat.le_trans (Nat.mul_le_mul hN e4) (by decide)
      refine W.newaK hexec hb (hts _ hk) rfl hdg rfl hn rfl hbytes r1 r2 rfl fun H1 cA g1 z1 o1 hA => ?_
      have hx := k H1 (xat2 t, List.replicate n.toNatClampNeg (if t = .long then Value.long 0 else Value.int 0)) rfl (xRp_push hR g1 z1 o1 ⟨⟨fun g => absurd hkd (by omega), fun _ => by rw [e1]; exact State.isArrayOf_alike hal.symm (hA _ _), fun g => absurd e2 (by omega)⟩, vm_nu rfl, vm_ns rfl, fun _ => rfl, fun j v hj => ?_, fun _ => by rw [arrV_size]; simp, fun g => absurd hkd (by omega)⟩)
      · rw [hl2] at hx
        have e9 : xr B K pre hp.length = H.size := xr_len hR
        have hx' : W p l e R s m args below meth c H1 locs (cells + 1) (slots + n.toNatClampNeg) Q (F0 m (pc + 2) lr (.ref (xr B K pre hp.length) :: r.map (tv (xr B K pre)))) := hx
        rw [e9] at hx'
        exact hx'
      · have hj' : (List.replicate n.toNatClampNeg (if t = .long then Value.long 0 else Value.int 0))[j]? = some v := hj
        have hjl := (List.getElem?_eq_some_iff.mp hj').1
        rw [List.length_replicate] at hjl
        rw [List.getElem?_replicate_of_lt hjl] at hj'
        have hv := Option.some.inj hj'
        rw [show xsl sl (xat2 t) j = j by unfold xsl; rw [if_neg (by omega)], arrV_read _ _ hjl, e3, ← hv]
        split <;> rfl
    · cases h
  · rename_i idx ci n r
    split at h
    · rename_i hq
      obtain ⟨hn, hN, hlt⟩ := hq
      cases h
      obtain ⟨q, hq, hcl1, hcl2⟩ := hk
      obtain ⟨r1, r2⟩ := hroom _ rfl
      have hl2 : ((110 + ci, List.replicate n.toNatClampNeg Value.null) : xO).2.length = n.toNatClampNeg := by simp
      rw [hl2] at r2
      refine W.anew hexec hb ho (hts _ hcl1) (va_AO.use (hNs _ hcl2)) rfl hdg rfl hn (by omega) r1 r2 fun cA kA comp f1 f2 f3 f4 => ?_
      have hty : xTy cl (110 + ci) = .object q.1 := xTy_ref (Nat.le_add_right _ _) (by rw [Nat.add_sub_cancel_left]; exact hq)
      have hx := k (H.push { cls := cA, slots := Array.replicate n.toNatClampNeg .null, vm := .none }) (110 + ci, List.replicate n.toNatClampNeg Value.null) rfl (xRp_push hR (by rw [Array.getElem?_push_size]) (by rw [Array.size_push]) (fun q hq => by rw [Array.getElem?_push, if_neg (Nat.ne_of_lt hq)]) ⟨⟨fun g => absurd g (show ¬ 110 + ci < 100 by omega), fun _ => by rw [hty]; exact State.isArrayOf_alike hal.symm ⟨fun k h => (by cases h), kA, f2, comp, f3⟩, fun _ => by rw [hty]; exact va_RA.moved hal.symm (ty := .object q.1) ⟨kA, comp, f2, f3, f4, f1⟩⟩, vm_nu rfl, vm_ns rfl, fun _ => rfl, fun j v hj => ?_, fun _ => by simp, fun g => absurd g (show ¬ 110 + ci < 100 by omega)⟩)
      · rw [hl2] at hx
        have e9 : xr B K pre hp.length = H.size := xr_len hR
        have hx' : W p l e R s m args below meth c (H.push { cls := cA, slots := Array.replicate n.toNatClampNeg .null, vm := .none }) locs (cells + 1) (slots + n.toNatClampNeg) Q (F0 m (pc + 3) lr (.ref (xr B K pre hp.length) :: r.map (tv (xr B K pre)))) := hx
        rw [e9] at hx'
        exact hx'
      · have hj' : (List.replicate n.toNatClampNeg Value.null)[j]? = some v := hj
        have hjl := (List.getElem?_eq_some_iff.mp hj').1
        rw [List.length_replicate] at hjl
        rw [List.getElem?_replicate_of_lt hjl] at hj'
        have hv := Option.some.inj hj'
        rw [show xsl sl (110 + ci) j = j by unfold xsl; rw [if_neg (by omega)], ← hv]
        simp [hjl, tv]
    · cases h
  · cases h
end X3
end
section
/-! sizes grow; lengths of locals stay -/
def xwt (o : xO) : Nat := if 80 ≤ o.1 ∧ o.1 < 100 then 6 else o.2.length
def xsz (hp : xH) : Nat := (hp.map xwt).sum
theorem xsz_set {hp : xH} {a c : Nat} {vs vs' : List Value} (ha : hp[a]? = some (c, vs)) (hl : vs'.length = vs.length) : xsz (hp.set a (c, vs')) = xsz hp := by
  unfold xsz
  congr 1
  refine List.ext_getElem? fun i => ?_
  rw [List.getElem?_map, List.getElem?_map]
  by_cases h : i = a
  · subst h
    rw [List.getElem?_set_self (List.getElem?_eq_some_iff.mp ha).1, ha]
    simp [xwt, hl]
  · rw [List.getElem?_set_ne (fun q => h q.symm)]
theorem xsz_push (hp : xH) (o : xO) : xsz (hp ++ [o]) = xsz hp + xwt o := by
  unfold xsz
  simp
theorem xst1_len {i : Nat} {v : Value} {ls ls' : xL} (h : xst1 i v ls = some ls') : ls'.length = ls.length := by
  unfold xst1 at h
  split at h
  · cases h; simp
  · cases h
theorem xst2_len {i : Nat} {v : Value} {ls ls' : xL} (h : xst2 i v ls = some ls') : ls'.length = ls.length := by
  unfold xst2 at h
  split at h
  · cases h; simp
  · cases h
theorem xV_len {ins : Instr} {ls ls' : xL} {st st' : List Value} (h : xV ins ls st = some (ls', st')) : ls'.length = ls.length := by
  unfold xV at h
  split at h <;> first
    | (obtain ⟨v, h1, h2⟩ := Option.map_eq_some_iff.mp h; cases h2; first | rfl | exact xst1_len h1 | exact xst2_len h1)
    | (split at h <;> first | (obtain ⟨v, h1, h2⟩ := Option.map_eq_some_iff.mp h; cases h2; exact xst1_len h1) | cases h)
    | cases h
theorem xW_sz {K : Nat} {ins : Instr} {ax : List Nat} {st st' : List Value} {hp hp' : xH} (h : xW K ins ax st hp = some (st', hp')) : hp'.length = hp.length ∧ xsz hp' = xsz hp := by
  have up : ∀ {a : Nat} {ok : Nat → Bool} {j : Int32} {v : Nat → Value} {h' : xH}, xup K hp a ok j v = some h' → h'.length = hp.length ∧ xsz h' = xsz hp := by
    intro a ok j v h' h1
    obtain ⟨c1, vs, ha, -, -, -, -, rfl⟩ := xup_ok h1
    exact ⟨by simp, xsz_set ha (by simp)⟩
  unfold xW at h
  split at h
  · split at h
    · rename_i c1 vs ha
      split at h
      · cases h
        exact ⟨by simp, xsz_set ha (by simp)⟩
      · cases h
    · cases h
  · obtain ⟨v, h1, h2⟩ := Option.map_eq_some_iff.mp h; cases h2; exact up h1
  · obtain ⟨v, h1, h2⟩ := Option.map_eq_some_iff.mp h; cases h2; exact up h1
  · obtain ⟨v, h1, h2⟩ := Option.map_eq_some_iff.mp h; cases h2; exact up h1
  · obtain ⟨v, h1, h2⟩ := Option.map_eq_some_iff.mp h; cases h2; exact up h1
  · split at h
    · split at h
      · obtain ⟨v, h1, h2⟩ := Option.map_eq_some_iff.mp h; cases h2; exact up h1
      · cases h
    · cases h
  · cases h
theorem xA_sz {ins : Instr} {ax : List Nat} {st st' : List Value} {hp hp' : xH} (h : xA ins ax st hp = some (st', hp')) : ∃ o : xO, hp' = hp ++ [o] ∧ xwt o = o.2.length := by
  unfold xA at h
  split at h
  · split at h
    · rename_i hq
      cases h; exact ⟨_, rfl, by unfold xwt; rw [if_neg (by simp; omega)]⟩
    · cases h
  · split at h
    · rename_i hq
      cases h; exact ⟨_, rfl, by unfold xwt; rw [if_neg (by simp; omega)]⟩
    · cases h
  · split at h
    · cases h; exact ⟨_, rfl, by unfold xwt; rw [if_neg (by simp; omega)]⟩
    · cases h
  · cases h
theorem xsp_sz {K : Nat} {ins : Instr} {ax : List Nat} {st st' : List Value} {hp hp' : xH} (h : xsp K ins ax st hp = some (st', hp')) : hp'.length = hp.length ∧ xsz hp' = xsz hp := by
  unfold xsp at h
  split at h
  · split at h
    · cases h; exact ⟨rfl, rfl⟩
    · cases h
  · split at h
    · rename_i n dp d sp q r cq vq cd vd h1 h2
      split at h
      · rename_i hc
        cases h
        obtain ⟨-, -, -, -, -, -, -, -, g1, g2, -⟩ := hc
        exact ⟨by simp, xsz_set h2 (by simp; omega)⟩
      · cases h
    · cases h
  · split at h
    · cases h; exact ⟨rfl, rfl⟩
    · cases h
  · split at h
    · cases h; exact ⟨rfl, rfl⟩
    · cases h
  · cases h
theorem x1_sz {K : Nat} {ins : Instr} {ax : List Nat} {i i' : Nat} {ls ls' : xL} {st st' : List Value} {hp hp' : xH} (h : x1 K ins ax i ls st hp = some (i', ls', st', hp')) : hp.length ≤ hp'.length ∧ xsz hp ≤ xsz hp' ∧ ls'.length = ls.length := by
  unfold x1 at h
  split at h
  · cases h; exact ⟨Nat.le_refl _, Nat.le_refl _, rfl⟩
  · split at h
    · rename_i h1
      cases h; exact ⟨Nat.le_refl _, Nat.le_refl _, xV_len h1⟩
    · split at h
      · cases h; exact ⟨Nat.le_refl _, Nat.le_refl _, rfl⟩
      · split at h
        · cases h; exact ⟨Nat.le_refl _, Nat.le_refl _, rfl⟩
        · split at h
          · rename_i h1
            cases h
            obtain ⟨g1, g2⟩ := xW_sz h1
            exact ⟨Nat.le_of_eq g1.symm, Nat.le_of_eq g2.symm, rfl⟩
          · split at h
            · rename_i h1
              cases h
              obtain ⟨o, rfl, -⟩ := xA_sz h1
              exact ⟨by simp, by rw [xsz_push]; exact Nat.le_add_right _ _, rfl⟩
            · cases h
set_option maxHeartbeats 4000000 in
theorem ex_sz {P : List xQ6} {Cs : List Value} {K : Nat} : ∀ (n d k i : Nat) (ls : xL) (st : List Value) (hp : xH) (z : xZ) (hp' : xH), ex P Cs K n d k i ls st hp = some (z, hp') → hp.length ≤ hp'.length ∧ xsz hp ≤ xsz hp' := by
  intro n
  induction n with
  | zero => intro d k i ls st hp z hp' h; simp [ex] at h
  | succ n ih =>
    intro d k i ls st hp z hp' h
    unfold ex at h
    split at h
    · cases h
    · split at h
      · cases h
      · split at h
        · rename_i h1
          obtain ⟨g1, g2, -⟩ := x1_sz h1
          obtain ⟨g3, g4⟩ := ih _ _ _ _ _ _ _ _ h
          exact ⟨Nat.le_trans g1 g3, Nat.le_trans g2 g4⟩
        · split at h
          · exact ih _ _ _ _ _ _ _ _ h
          · split at h
            · cases h; exact ⟨Nat.le_refl _, Nat.le_refl _⟩
            · split at h
              · cases h
              · split at h
                · rename_i h1
                  obtain ⟨g1, g2⟩ := xsp_sz h1
                  obtain ⟨g3, g4⟩ := ih _ _ _ _ _ _ _ _ h
                  exact ⟨by omega, by omega⟩
                · split at h
                  · split at h
                    · cases h
                    · split at h
                      · split at h
                        · cases h
                        · rename_i h1
                          obtain ⟨g1, g2⟩ := ih _ _ _ _ _ _ _ _ h1
                          obtain ⟨g3, g4⟩ := ih _ _ _ _ _ _ _ _ h
                          exact ⟨Nat.le_trans g1 g3, Nat.le_trans g2 g4⟩
                        · rename_i h1
                          split at h
                          · cases h
                          · obtain ⟨g1, g2⟩ := ih _ _ _ _ _ _ _ _ h1
                            obtain ⟨g3, g4⟩ := ih _ _ _ _ _ _ _ _ h
                            exact ⟨Nat.le_trans g1 g3, Nat.le_trans g2 g4⟩
                      · cases h
                  · split at h
                    · split at h
                      · cases h
                        exact ⟨by simp, by rw [xsz_push]; exact Nat.le_add_right _ _⟩
                      · cases h
                    · cases h
set_option maxHeartbeats 4000000 in
/-- what was thrown lies last in the heap -/
theorem ex_thrown {P : List xQ6} {Cs : List Value} {K : Nat} : ∀ (n d k i : Nat) (ls : xL) (st : List Value) (hp : xH) (z : Nat) (hp' : xH), ex P Cs K n d k i ls st hp = some (.inr z, hp') → ∃ hp0 : xH, hp' = hp0 ++ [(80 + z, [])] := by
  intro n
  induction n with
  | zero => intro d k i ls st hp z hp' h; simp [ex] at h
  | succ n ih =>
    intro d k i ls st hp z hp' h
    unfold ex at h
    split at h
    · cases h
    · split at h
      · cases h
      · split at h
        · exact ih _ _ _ _ _ _ _ _ h
        · split at h
          · exact ih _ _ _ _ _ _ _ _ h
          · split at h
            · cases h
            · split at h
              · cases h
              · split at h
                · exact ih _ _ _ _ _ _ _ _ h
                · split at h
                  · split at h
                    · cases h
                    · split at h
                      · split at h
                        · cases h
                        · exact ih _ _ _ _ _ _ _ _ h
                        · split at h
                          · cases h
                          · exact ih _ _ _ _ _ _ _ _ h
                      · cases h
                  · split at h
                    · split at h
                      · cases h
                        exact ⟨hp, rfl⟩
                      · cases h
                    · cases h
end
section
/-! a method's run in the pure machine is the machine's -/
def xpc (M : xQ6) (t : Nat) : Nat := match M.2.2.2.2.2[t]? with
  | some E => E.1
  | none => 0
def xfl (ins : Instr) : Bool := match ins with
  | .goto _ => false
  | .tableswitch _ _ _ _ => false
  | .lookupswitch _ _ => false
  | .ireturn => false
  | .areturn => false
  | .lreturn => false
  | .return_ => false
  | .athrow => false
  | _ => true
/-- a kind's name -/
def xnm (cl : List vw_C) (ci : Nat) : Option String := if ci = 70 then some "java/lang/String" else (cl[ci]?).map fun q => q.1
/-- the words of a call -/
def xclk (Ts Ns : List Cond) (cl : List vw_C) (P : List xQ6) (own : String) (ins : Instr) (ax : List Nat) : Prop := match ins, ax with
  | .invokestatic idx, 0 :: k :: n :: _ => 0 < k ∧ ∀ M' : xQ6, P[k]? = some M' → Cond.static M'.1 ∈ Ts ∧ (Cond.methodLink own idx M'.1 ∈ Ts ∨ ∃ host, Cond.methodLinkNest own idx M'.1 host ∈ Ns) ∧ (parseMethodDescriptor M'.1.desc).map (fun d => d.parameters.length) = some n ∧ ¬ (M'.2.2.2.2.1 ≠ [] ∧ ∃ host, Cond.methodLinkNest own idx M'.1 host ∈ Ns)
  | .invokespecial idx, 0 :: k :: n :: _ => 0 < k ∧ ∀ M' : xQ6, P[k]? = some M' → M'.2.2.2.2.1 = [] ∧ M'.1.name = "<init>" ∧ M'.2.2.2.1 = none ∧ Cond.instanceMethod M'.1 ∈ Ts ∧ (Cond.methodLink own idx M'.1 ∈ Ts ∨ ∃ host, Cond.methodLinkNest own idx M'.1 host ∈ Ns) ∧ (parseMethodDescriptor M'.1.desc).map (fun d => d.parameters.length) = some n
  | .invokevirtual idx, 0 :: k :: n :: ci :: _ => 0 < k ∧ ci ≤ 70 ∧ ∃ q : String, xnm cl ci = some q ∧ ∀ M' : xQ6, P[k]? = some M' → M'.2.2.2.2.1 = [] ∧ Cond.selects q M'.1 M'.1 ∈ Ts ∧ Cond.instanceMethod M'.1 ∈ Ts ∧ (Cond.methodLink own idx M'.1 ∈ Ts ∨ ∃ host, Cond.methodLinkNest own idx M'.1 host ∈ Ns) ∧ (parseMethodDescriptor M'.1.desc).map (fun d => d.parameters.length) = some n
  | .invokestatic idx, [2] => Cond.methodLink own idx arraycopyName ∈ Ts ∧ Cond.native arraycopyName ∈ Ts ∧ Cond.static arraycopyName ∈ Ts ∧ Cond.initialized "java/lang/System" ∈ Ts
  | .invokestatic idx, [3] => Cond.methodLink own idx Lib.Math.max.name ∈ Ts ∧ Cond.static Lib.Math.max.name ∈ Ts ∧ Cond.initialized "java/lang/Math" ∈ Ts ∧ Cond.code Lib.Math.max.name Lib.Math.max.code 2 (some .int) ∈ Ts
  | .invokestatic idx, [4] => Cond.methodLink own idx Lib.Math.min.name ∈ Ts ∧ Cond.static Lib.Math.min.name ∈ Ts ∧ Cond.initialized "java/lang/Math" ∈ Ts ∧ Cond.code Lib.Math.min.name Lib.Math.min.code 2 (some .int) ∈ Ts
  | .invokespecial idx, [1] => Cond.methodLink own idx Lib.objectInit ∈ Ts ∧ Cond.instanceMethod Lib.objectInit ∈ Ts ∧ Cond.code Lib.objectInit ⟨#[0xb1]⟩ 1 none ∈ Ts
  | _, _ => True
/-- the word of a method's bytes -/
def xrh (M : xQ6) : List (Nat × Nat × Nat × Nat) := M.2.2.2.2.1.map fun h => (xpc M h.1, xpc M h.2.1, xpc M h.2.2.1, h.2.2.2.2)
def xcw (M : xQ6) : Cond := match M.2.2.2.2.1 with
  | [] => Cond.code M.1 M.2.1 M.2.2.1 M.2.2.2.1
  | _ => Cond.codeWith M.1 M.2.1 M.2.2.1 M.2.2.2.1 (xrh M)
def xmok (Ts : List Cond) (M : xQ6) : Prop := plainName M.1.cls = true ∧ xcw M ∈ Ts ∧ Cond.initialized M.1.cls ∈ Ts ∧ (M.1.cls ≠ "java/lang/invoke/MethodHandle" ∧ M.1.cls ≠ "java/lang/invoke/VarHandle") ∧ M.2.2.1 ≤ 45 ∧ xpc M 0 = 0
/-- what may be thrown -/
def xen (z : Nat) : Option String := match z with
  | 0 => some "java/lang/IllegalArgumentException"
  | 1 => some "java/lang/IllegalStateException"
  | 2 => some "java/lang/IndexOutOfBoundsException"
  | _ => none
/-- where something may be caught, calls are virtual and of methods that all see -/
def xvirt (Ts : List Cond) (P : List xQ6) (own : String) (ins : Instr) (ax : List Nat) : Prop := match ins, ax with
  | .invokestatic _, 0 :: _ => False
  | .invokespecial _, 0 :: _ => False
  | .invokevirtual idx, 0 :: k :: _ => ∀ M' : xQ6, P[k]? = some M' → Cond.methodLink own idx M'.1 ∈ Ts
  | _, _ => True
def xok (Ts Ns : List Cond) (cl : List vw_C) (P : List xQ6) (M : xQ6) (i : Nat) (E : xE) : Prop :=
  decode M.2.1 E.1 = .ok (E.2.2.1, E.2.1) ∧ (xsw E.2.2.1 = true ∨ E.2.1 = xLen E.2.2.1) ∧ (xfl E.2.2.1 = true → xpc M (i + 1) = E.1 + E.2.1) ∧ xtg (xpc M) E.1 E.2.2.1 E.2.2.2 ∧ xlnk Ts Ns cl M.1.name M.1.cls E.2.2.1 E.2.2.2 ∧ xclk Ts Ns cl P M.1.cls E.2.2.1 E.2.2.2 ∧ ∀ h ∈ M.2.2.2.2.1, ((xpc M h.1 ≤ E.1 ∧ E.1 < xpc M h.2.1) ↔ (h.1 ≤ i ∧ i < h.2.1)) ∧ h.2.2.2.2 ≠ 0 ∧ (∃ C, xen h.2.2.2.1 = some C ∧ Cond.classLink M.1.cls h.2.2.2.2 C ∈ Ts) ∧ (h.1 ≤ i ∧ i < h.2.1 → xvirt Ts P M.1.cls E.2.2.1 E.2.2.2)
/-- the whole program is as its tables say -/
def xall (Ts Ns : List Cond) (cl : List vw_C) (P : List xQ6) : Prop := (∀ (k : Nat) (M : xQ6), P[k]? = some M → (0 < k → xmok Ts M) ∧ ∀ (i : Nat) (E : xE), M.2.2.2.2.2[i]? = some E → xok Ts Ns cl P M i E) ∧ (∀ (ci : Nat) (q : vw_C), cl[ci]? = some q → xclok Ts q) ∧ GoodIn Ts Ts
def xCx (Ts : List Cond) (s0 : State) (B : Nat) (X : State → Prop) (M : xQ6) (p : Program) (s : State) (m : MethodId) (args : Array Value) (meth : Method) (c : Code) : Prop :=
  p.tables.exec = Jvm.exec ∧ c.code = M.2.1 ∧ c.maxLocals = M.2.2.1 ∧ meth.sig.returnType = M.2.2.2.1 ∧ meth.locks = false ∧ meth.name = M.1.name ∧ s.vm.findClass M.1.cls = some m.cls ∧ (∀ w ∈ Ts, w.before args s = true) ∧ s0.vm.Alike s.vm ∧ X s ∧ (∀ q : Nat, q < B → s.heap[q]? = s0.heap[q]?) ∧ c.exceptionTable.toList.map (fun h => (h.startPc, h.endPc, h.handlerPc, h.catchType)) = xrh M
def xPc (cl : List vw_C) (kc : Nat → ClassId) (sl : Nat → Nat → Nat) (s0 : State) (B K : Nat) (pre : Nat → Nat) (X : State → Prop) (hp : xH) (as : List Value) : Array Value → State → Prop := fun v U => v = (as.map (tv (xr B K pre))).toArray ∧ xRp cl kc sl s0 B K pre hp U.heap ∧ s0.vm.Alike U.vm ∧ X U
def xQc (cl : List vw_C) (kc : Nat → ClassId) (sl : Nat → Nat → Nat) (s0 : State) (B K : Nat) (pre : Nat → Nat) (z : xZ) (hp : xH) : Array Value → State → Outcome → State → Prop := fun _ _ o t => xRp cl kc sl s0 B K pre hp t.heap ∧ match z with
  | .inl r => o = .returned (r.map (tv (xr B K pre)))
  | .inr _ => o = .threw (xr B K pre (hp.length - 1))
def xFE (z : xZ) (first : State) (o : Outcome) (t : State) (L : List Loc) (k n : Nat) : Prop := match z with
  | .inl _ => FrameEnd first o t L k n
  | .inr _ => (∃ x, o = .threw x) ∧ first.WarmedH t.vm ∧ first.sameButNew ({ t with vm := first.vm } : State) L k n
def xMQ (z : xZ) (below : List Frame) (Qc : Array Value → State → Outcome → State → Prop) (a : Array Value) (s : State) (mc ms : Nat) (free : Addr → Prop) : State → Prop := fun t =>
  ∃ o, t.status = .running ∧ Ended t below o ∧ Qc a s o t ∧ ∃ L, xFE z s o t L mc ms ∧ ∀ q ∈ L, free q.base
def xMet (z : xZ) (l : Launch) (y : MethodName) (ws : List Cond) (rm : Room) (Pc : Array Value → State → Prop) (Qc : Array Value → State → Outcome → State → Prop) (mc ms : Nat) (free : Addr → Prop) : Prop :=
  MetFree l y (headSpec ws rm) Pc (fun _ _ _ _ _ => True) (fun a st o t => Qc a st o t ∧ ∃ L, xFE z st o t L mc ms ∧ ∀ q ∈ L, free q.base)
theorem xent_ok {ρ : Nat → Nat} {as : List Value} {mx : Nat} (h : (xent as mx).length = mx) : xLH ρ (lg_sl (as.map (tv ρ)) ++ List.replicate (mx - (lg_sl (as.map (tv ρ))).length) Slot.unset).toArray (xent as mx) := by
  have hsl : ∀ l : List Value, (lg_sl (l.map (tv ρ))).length = (l.flatMap fun v => if v.category = 2 then [some v, none] else [some v]).length := by
    intro l
    induction l with
    | nil => rfl
    | cons a l ih =>
      simp only [lg_sl, List.map_cons, List.flatMap_cons, List.length_append, tv_cat] at ih ⊢
      rw [ih]
      split <;> rfl
  have hel : ∀ (l : List Value) (i : Nat) (v : Value), (l.flatMap fun v => if v.category = 2 then [some v, none] else [some v])[i]? = some (some v) → (lg_sl (l.map (tv ρ)))[i]? = some (.val (tv ρ v)) := by
    intro l
    induction l with
    | nil => intro i v hi; simp at hi
    | cons a l ih =>
      intro i v hi
      simp only [lg_sl, List.map_cons, List.flatMap_cons, tv_cat] at ih ⊢
      rw [List.flatMap_cons] at hi
      by_cases hc : a.category = 2
      · rw [if_pos hc] at hi ⊢
        match i, hi with
        | 0, hi => cases hi; rfl
        | 1, hi => cases hi
        | i + 2, hi => exact ih i v hi
      · rw [if_neg hc] at hi ⊢
        match i, hi with
        | 0, hi => cases hi; rfl
        | i + 1, hi => exact ih i v hi
  have hle : (lg_sl (as.map (tv ρ))).length ≤ mx := by
    rw [hsl]
    have h2 := h
    simp only [xent, List.length_append, List.length_replicate] at h2
    omega
  have hen := lv_entry (as.map (tv ρ)) hle
  refine ⟨by rw [hen.1, h], hen.2.1, fun i v hi => ?_⟩
  rw [List.getElem?_toArray]
  unfold xent at hi
  by_cases hlt : i < (as.flatMap fun v => if v.category = 2 then [some v, none] else [some v]).length
  · rw [List.getElem?_append_left hlt] at hi
    rw [List.getElem?_append_left (by rw [hsl]; exact hlt)]
    exact hel as i v hi
  · rw [List.getElem?_append_right (by omega)] at hi
    have := List.mem_of_getElem? hi
    rw [List.mem_replicate] at this
    exact absurd this.2 (by simp)
section X5
variable {l : Launch} {cl : List vw_C} {kc : Nat → ClassId} {sl : Nat → Nat → Nat} {s0 : State} {B K : Nat} {pre : Nat → Nat} {Ts Ns : List Cond} {X : State → Prop} {P : List xQ6} {Cs : List Value}
/-- the run of a method from a place, in any state that is as the pure one -/
def xGo (l : Launch) (cl : List vw_C) (kc : Nat → ClassId) (sl : Nat → Nat → Nat) (s0 : State) (B K : Nat) (pre : Nat → Nat) (Ts : List Cond) (X : State → Prop) (P : List xQ6) (d k i : Nat) (ls : xL) (st : List Value) (hp : xH) (z : xZ) (hp' : xH) : Prop :=
  ∀ (M : xQ6), P[k]? = some M → ls.length = M.2.2.1 → ∀ (p : Program) (e : Env) (R : Room) (s : State) (m : MethodId) (args : Array Value) (below : List Frame) (meth : Method) (c : Code) (H : Heap) (locs : List Loc) (cells slots mc ms : Nat) (lr : Array Slot),
    xCx Ts s0 B X M p s m args meth c → xRp cl kc sl s0 B K pre hp H → xLH (xr B K pre) lr ls → (∀ q ∈ locs, B ≤ q.base) → cells + (hp'.length - hp.length) ≤ mc → slots + (xsz hp' - xsz hp) ≤ ms → mc ≤ R.cells → ms ≤ R.slots → d ≤ R.frames → 64 * d ≤ R.locals →
    W p l e R s m args below meth c H locs cells slots (xMQ z below (xQc cl kc sl s0 B K pre z hp') args s mc ms (fun q => B ≤ q)) (F0 m (xpc M i) lr (st.map (tv (xr B K pre))))
theorem x_met (hall : xall Ts Ns cl P) {d k : Nat} {as : List Value} {hp hp1 : xH} {z : xZ} {M : xQ6} (hM : P[k]? = some M) (hk : 0 < k) (hen : (xent as M.2.2.1).length = M.2.2.1)
    (ih : xGo l cl kc sl s0 B K pre Ts X P d k 0 (xent as M.2.2.1) [] hp z hp1) :
    xMet z l M.1 (xcw M :: Ts) { frames := d, cells := hp1.length - hp.length, slots := xsz hp1 - xsz hp, locals := 64 * d } (xPc cl kc sl s0 B K pre X hp as) (xQc cl kc sl s0 B K pre z hp1) (hp1.length - hp.length) (xsz hp1 - xsz hp) (fun q => B ≤ q) := by
  obtain ⟨hmk, hcode⟩ := hall.1 k M hM
  obtain ⟨hpl, -, -, -, -, h0⟩ := hmk hk
  refine MetFree.of_bodyS (code := M.2.1) (maxLocals := M.2.2.1) (ret := M.2.2.2.1) hpl ?_ ?_
  · intro args s m h hn
    have hc := atoms_spec (ws := xcw M :: Ts) h _ List.mem_cons_self
    unfold xcw at hc
    split at hc
    · obtain ⟨meth, c, h1, h2, h3, h4, h5, h6, -, -⟩ := Cond.code_spec hn hc
      exact ⟨meth, c, h1, h2, h3, h4, h5, h6⟩
    · obtain ⟨m9, meth, c, hn9, h1, h2, h3, h4, -, h5, h6, -⟩ := Cond.codeWith_spec hc
      cases hn.symm.trans hn9
      exact ⟨meth, c, h1, h2, h3, h4, h5, h6⟩
  · intro p e s m args below meth c s₁ Bd hml hv _
    have hexc : c.exceptionTable.toList.map (fun h => (h.startPc, h.endPc, h.handlerPc, h.catchType)) = xrh M := by
      have hc := atoms_spec (ws := xcw M :: Ts) Bd.pre _ List.mem_cons_self
      unfold xcw at hc
      split at hc
      · rename_i hnil
        obtain ⟨meth', c', h1, h2, h3, h4, h5, h6, h7, -⟩ := Cond.code_spec Bd.named hc
        cases Bd.method.symm.trans h1
        cases (Stand.of_body Bd).code.symm.trans h2
        unfold xrh
        rw [hnil]
        have : c.exceptionTable.toList = [] := by simpa using h7
        rw [this]
        rfl
      · obtain ⟨m9, meth', c', hn9, h1, h2, h3, h4, h5, -⟩ := Cond.codeWith_spec hc
        cases Bd.named.symm.trans hn9
        cases Bd.method.symm.trans h1
        cases (Stand.of_body Bd).code.symm.trans h2
        exact h5
    obtain ⟨rfl, hR, hal, hXs⟩ := hv
    have hts := atoms_spec (ws := xcw M :: Ts) Bd.pre
    have hh0 : s₁.heap = s.heap := by rw [Bd.state]; rfl
    have hW := ih M hM hen p e (headSpec (xcw M :: Ts) { frames := d, cells := hp1.length - hp.length, slots := xsz hp1 - xsz hp, locals := 64 * d }).room s m _ below meth c s.heap [] 0 0 (hp1.length - hp.length) (xsz hp1 - xsz hp) _
      ⟨Bd.exec, Bd.bytes, hml, Bd.returns, Bd.notSynchronized, (name_of_methodNamed Bd.named Bd.method).1, findClass_of_methodNamed Bd.named, fun w hw => hts w (List.mem_cons_of_mem _ hw), hal, hXs, hR.2.2.2, hexc⟩ hR (xent_ok hen) (fun q hq => by cases hq) (by omega) (by omega) (Nat.le_refl _) (Nat.le_refl _) (Nat.le_refl _) (Nat.le_refl _)
    rw [h0] at hW
    obtain ⟨t, a1, o, b1, b2, b3⟩ := hW s₁ hh0 (Stand.of_body Bd)
    rw [lg_entry_eq]
    exact ⟨t, o, a1, b1, b2, b3⟩
theorem xS_fl {ins : Instr} {st st' : List Value} (h : xS ins st = some st') : xsw ins = false ∧ xfl ins = true := by
  unfold xS at h
  split at h <;> first | exact ⟨rfl, rfl⟩ | cases h
theorem xV_fl {ins : Instr} {ls ls' : xL} {st st' : List Value} (h : xV ins ls st = some (ls', st')) : xsw ins = false ∧ xfl ins = true := by
  unfold xV at h
  split at h <;> first | exact ⟨rfl, rfl⟩ | cases h
theorem xB_fl {ins : Instr} {ax : List Nat} {i i' : Nat} {st st' : List Value} (h : xB ins ax i st = some (i', st')) : xsw ins = true ∨ xfl ins = true ∨ ∃ o, ins = .goto o := by
  unfold xB at h
  split at h <;> first | exact Or.inr (Or.inr ⟨_, rfl⟩) | exact Or.inr (Or.inl rfl) | exact Or.inl rfl | cases h
theorem xR_fl {ins : Instr} {ax : List Nat} {st st' : List Value} {hp : xH} (h : xR ins ax st hp = some st') : xsw ins = false ∧ xfl ins = true := by
  unfold xR at h
  split at h <;> first | exact ⟨rfl, rfl⟩ | cases h
theorem xW_fl {ins : Instr} {ax : List Nat} {st : List Value} {hp : xH} {q : List Value × xH} (h : xW K ins ax st hp = some q) : xsw ins = false ∧ xfl ins = true := by
  unfold xW at h
  split at h <;> first | exact ⟨rfl, rfl⟩ | cases h
theorem xA_fl {ins : Instr} {ax : List Nat} {st : List Value} {hp : xH} {q : List Value × xH} (h : xA ins ax st hp = some q) : xsw ins = false ∧ xfl ins = true := by
  unfold xA at h
  split at h <;> first | exact ⟨rfl, rfl⟩ | cases h
theorem xT_fl {ins : Instr} {ax : List Nat} {st st' : List Value} (h : xT Cs ins ax st = some st') : xsw ins = false ∧ xfl ins = true := by
  unfold xT at h
  split at h <;> first | exact ⟨rfl, rfl⟩ | cases h
theorem xsp_fl {ins : Instr} {ax : List Nat} {st : List Value} {hp : xH} {q : List Value × xH} (h : xsp K ins ax st hp = some q) : xsw ins = false ∧ xfl ins = true := by
  unfold xsp at h
  split at h <;> first | exact ⟨rfl, rfl⟩ | cases h
theorem xcall_fl {ins : Instr} {ax : List Nat} {st : List Value} {hp : xH} {q : Nat × List Value × List Value} (h : xcall ins ax st hp = some q) : xsw ins = false ∧ xfl ins = true := by
  unfold xcall at h
  split at h <;> first | exact ⟨rfl, rfl⟩ | cases h
theorem xret_fl {rt : Option FieldType} {ins : Instr} {st : List Value} {q : Option Value} (h : xret rt ins st = some q) : xsw ins = false := by
  unfold xret at h
  split at h <;> first | rfl | cases h
end X5
end
section
section X6
variable {l : Launch} {cl : List vw_C} {kc : Nat → ClassId} {sl : Nat → Nat → Nat} {s0 : State} {B K : Nat} {pre : Nat → Nat} {Ts Ns : List Cond} {X : State → Prop} {P : List xQ6} {Cs : List Value}
/-- what is still to be shown of single instructions: constants -/
def xHT (l : Launch) (cl : List vw_C) (kc : Nat → ClassId) (sl : Nat → Nat → Nat) (s0 : State) (B K : Nat) (pre : Nat → Nat) (Ts : List Cond) (X : State → Prop) (P : List xQ6) (Cs : List Value) : Prop :=
  ∀ (k : Nat) (M : xQ6) (i pc len : Nat) (ins : Instr) (ax : List Nat) (st st' : List Value), P[k]? = some M → M.2.2.2.2.2[i]? = some (pc, len, ins, ax) → xT Cs ins ax st = some st' → ∀ (p : Program) (e : Env) (R : Room) (s : State) (m : MethodId) (args : Array Value) (below : List Frame) (meth : Method) (c : Code) (H : Heap) (locs : List Loc) (cells slots : Nat) (Q : State → Prop) (lr : Array Slot) (hp : xH),
    xCx Ts s0 B X M p s m args meth c → xRp cl kc sl s0 B K pre hp H → W p l e R s m args below meth c H locs cells slots Q (F0 m (pc + len) lr (st'.map (tv (xr B K pre)))) → W p l e R s m args below meth c H locs cells slots Q (F0 m pc lr (st.map (tv (xr B K pre))))
/-- .. Object's constructor and copying -/
def xHA (l : Launch) (cl : List vw_C) (kc : Nat → ClassId) (sl : Nat → Nat → Nat) (s0 : State) (B K : Nat) (pre : Nat → Nat) (Ts : List Cond) (X : State → Prop) (P : List xQ6) : Prop :=
  ∀ (k : Nat) (M : xQ6) (i pc len : Nat) (ins : Instr) (ax : List Nat) (st st' : List Value) (hp hp' : xH), P[k]? = some M → M.2.2.2.2.2[i]? = some (pc, len, ins, ax) → xsp K ins ax st hp = some (st', hp') → ∀ (p : Program) (e : Env) (R : Room) (s : State) (m : MethodId) (args : Array Value) (below : List Frame) (meth : Method) (c : Code) (H : Heap) (locs : List Loc) (cells slots : Nat) (Q : State → Prop) (lr : Array Slot) (ls : xL),
    xCx Ts s0 B X M p s m args meth c → xRp cl kc sl s0 B K pre hp H → xLH (xr B K pre) lr ls → ls.length = M.2.2.1 → (∀ q ∈ locs, B ≤ q.base) → 1 ≤ R.frames → 64 ≤ R.locals → cells ≤ R.cells → slots ≤ R.slots →
    (∀ (H' : Heap) (locs' : List Loc), xRp cl kc sl s0 B K pre hp' H' → (∀ q ∈ locs', B ≤ q.base) → W p l e R s m args below meth c H' locs' cells slots Q (F0 m (pc + len) lr (st'.map (tv (xr B K pre))))) → W p l e R s m args below meth c H locs cells slots Q (F0 m pc lr (st.map (tv (xr B K pre))))
/-- .. a throw -/
def xHR (l : Launch) (cl : List vw_C) (kc : Nat → ClassId) (sl : Nat → Nat → Nat) (s0 : State) (B K : Nat) (pre : Nat → Nat) (Ts : List Cond) (X : State → Prop) (P : List xQ6) : Prop :=
  ∀ (k : Nat) (M : xQ6) (i pc len : Nat) (ins : Instr) (ax : List Nat) (ls : xL) (hp : xH) (z : Nat), P[k]? = some M → M.2.2.2.2.2[i]? = some (pc, len, ins, ax) → xthr ins ax = some z → ∀ d : Nat, 9 ≤ d → xGo l cl kc sl s0 B K pre Ts X P d k i ls [] hp (.inr z) (hp ++ [(80 + z, [])])
/-- .. a call whose method throws -/
def xHC (l : Launch) (cl : List vw_C) (kc : Nat → ClassId) (sl : Nat → Nat → Nat) (s0 : State) (B K : Nat) (pre : Nat → Nat) (Ts : List Cond) (X : State → Prop) (P : List xQ6) : Prop :=
  ∀ (k k1 : Nat) (M M1 : xQ6) (i pc len : Nat) (ins : Instr) (ax : List Nat) (ls : xL) (st as r : List Value) (hp hp1 hp' : xH) (z1 t d : Nat) (z : xZ), P[k]? = some M → P[k1]? = some M1 → M.2.2.2.2.2[i]? = some (pc, len, ins, ax) → xcall ins ax st hp = some (k1, as, r) → (xent as M1.2.2.1).length = M1.2.2.1 → hp.length ≤ hp1.length → xsz hp ≤ xsz hp1 → hp1.length ≤ hp'.length → xsz hp1 ≤ xsz hp' → (∃ hp0 : xH, hp1 = hp0 ++ [(80 + z1, [])]) →
    xGo l cl kc sl s0 B K pre Ts X P d k1 0 (xent as M1.2.2.1) [] hp (.inr z1) hp1 → xhd M.2.2.2.2.1 i z1 = some t → xGo l cl kc sl s0 B K pre Ts X P (d + 1) k t ls [.ref (hp1.length - 1)] hp1 z hp' → xGo l cl kc sl s0 B K pre Ts X P (d + 1) k i ls st hp z hp'
theorem x_ret {p : Program} {e : Env} {R : Room} {s : State} {m : MethodId} {args : Array Value} {below : List Frame} {meth : Method} {c : Code} {H : Heap} {locs : List Loc} {cells slots mc ms : Nat} {lr : Array Slot} {M : xQ6} {pc : Nat} {ins : Instr} {st : List Value} {q : Option Value} {hp : xH} (hctx : xCx Ts s0 B X M p s m args meth c) (h : xret M.2.2.2.1 ins st = some q) (hdg : decode M.2.1 pc = .ok (ins, xLen ins)) (hR : xRp cl kc sl s0 B K pre hp H) (hlo : ∀ q ∈ locs, B ≤ q.base) (h1 : cells ≤ mc) (h2 : slots ≤ ms) :
    W p l e R s m args below meth c H locs cells slots (xMQ (.inl q) below (xQc cl kc sl s0 B K pre (.inl q) hp) args s mc ms (fun q => B ≤ q)) (F0 m pc lr (st.map (tv (xr B K pre)))) := by
  obtain ⟨hexec, hb, hml, hret, hlk, hnm, hown, hts, hal, hXs, -, -⟩ := hctx
  refine W.widen (k := mc) (n := ms) h1 h2 ?_
  show W p l e R s m args below meth c H locs mc ms (MQ below (xQc cl kc sl s0 B K pre (.inl q) hp) args s mc ms (fun q => B ≤ q)) (F0 m pc lr (st.map (tv (xr B K pre))))
  generalize hrt : M.2.2.2.1 = rt at h hret
  unfold xret at h
  split at h
  · cases h
    exact W.vret hexec hb hret (fun t ht hW => ⟨by rw [ht]; exact hR, rfl⟩) hlo hdg hlk
  · split at h
    · rename_i hf
      cases h
      exact W.zret hexec hb hret (xfit_ok (ρ := xr B K pre) hf).1 (fun t ht hW => ⟨by rw [ht]; exact hR, rfl⟩) hlo hdg hlk
    · cases h
  · rename_i ty v
    split at h
    · rename_i hf
      cases h
      have hrt2 : (∃ n, ty = .object n) ∨ ∃ t, ty = .array t := by
        cases ty <;> first | exact Or.inl ⟨_, rfl⟩ | exact Or.inr ⟨_, rfl⟩ | exact absurd hf.1 (by decide)
      have hv : tv (xr B K pre) v = .null ∨ ∃ a, tv (xr B K pre) v = .ref a := by
        rcases xfit2 hf.2 with rfl | ⟨a, rfl⟩
        · exact Or.inl rfl
        · exact Or.inr ⟨_, rfl⟩
      exact W.aret hexec hb hret hrt2 hv (fun t ht hW => ⟨by rw [ht]; exact hR, rfl⟩) hlo hdg hlk
    · cases h
  · cases h
    exact W.lret hexec hb hret (fun t ht hW => ⟨by rw [ht]; exact hR, rfl⟩) hlo hdg hlk
  · cases h
theorem x_split {st : List Value} {n a : Nat} (h : st[n]? = some (.ref a)) : st = st.take n ++ .ref a :: st.drop (n + 1) := by
  have hlt := (List.getElem?_eq_some_iff.mp h).1
  have e := (List.getElem?_eq_some_iff.mp h).2
  rw [← e, ← List.drop_eq_getElem_cons hlt, List.take_append_drop]
/-- a call of a static method that has handlers of its own -/
theorem x_runSW {p : Program} {e : Env} {R : Room} {s : State} {m : MethodId} {args : Array Value} {below : List Frame} {meth : Method} {c : Code} {H : Heap} {locs : List Loc} {cells slots : Nat} {y : MethodName} {bytes cc : ByteArray} {maxL nL mc ms n index : Nat} {ret : Option FieldType} {hh : List (Nat × Nat × Nat × Nat)} {ws : List Cond} {rm : Room} {Pc : Array Value → State → Prop} {Qc : Array Value → State → Outcome → State → Prop} {free : Addr → Prop} {own : String} {As rest : List Value} {g : JFrame}
    (S : CallFix p m c cc nL s args Ts own) (hM : Met l y ws rm Pc Qc mc ms free) (hrc : rm.cells = mc) (hrs : rm.slots = ms) (hfr : rm.frames + 1 ≤ R.frames) (hlo : 8 + (maxL + 11) + rm.locals ≤ R.locals) (hws : ∀ w ∈ ws, ∀ (a' : Array Value) (U : State), s.WarmedH U.vm → w.before a' U = true) (hcw : Cond.codeWith y bytes maxL ret hh ∈ ws)
    (hcode : (Cond.codeWith y bytes maxL ret hh).before args s = true) (hini : (Cond.initialized y.cls).before args s = true) (hy : y.cls ≠ "java/lang/invoke/MethodHandle" ∧ y.cls ≠ "java/lang/invoke/VarHandle") (hlen : ∀ sig, parseMethodDescriptor y.desc = some sig → n = sig.parameters.length) (hl : (Cond.methodLink own index y).before args s = true) (hst : (Cond.static y).before args s = true) (hp : PreS s H Pc As)
    (hg : g.method = m) (hn : As.length = n) (hsize : g.locals.size = nL) (hstack : g.stack = As.reverse ++ rest) (hW : 2 * g.monitorRoom + (rest.map fun v => v.category).sum ≤ 8) (hdg : decode cc g.pc = .ok (.invokestatic index, 3)) (hf : cells + mc ≤ R.cells ∧ slots + ms ≤ R.slots) :
    va_Run p l e R s m args below meth c H locs cells slots mc ms g rest (Qc As.toArray) free := by
  have hK : Back l R p e below s args y 3 8 (PreOf R mc ms Pc) (PostOf Qc mc ms free) := va_backW (hh := hh) (bytes := bytes) (maxL := maxL) (ret := ret) hM hp.1 hrc hrs hfr hlo hws hcw (fun a' U hW => word_at hW (Or.inl (by first | rfl | simp [Cond.onTables, Cond.keeps, Cond.steady])) hini)
  obtain ⟨hx, hb, hml, ho, -⟩ := S
  intro T hT X
  obtain ⟨mk, methM, cM, hnamed, hmethM, -, -, -, -, -, -, hsigM⟩ := Cond.codeWith_spec hcode
  have hstatic := Cond.static_spec hnamed hmethM hst
  obtain ⟨kP, hkP, -⟩ := className_of_methodNamed hnamed
  have hinitP : kP.init = .initialized := Cond.initialized_spec (findClass_of_methodNamed hnamed) hkP hini
  obtain ⟨vm₁, X₁, hstep₁⟩ := X.invokestatic hx ho hl hnamed hmethM hstatic hkP hinitP hy (g := g) hg (argsL := As) (rest := rest) (hn.trans (hlen _ hsigM)) hstack (by rw [hb]; exact hdg)
  obtain ⟨v, ⟨U', l2, c2, s2⟩, X', ⟨g', mk', t, L, e1, e2, hq, h1, hL, h2, h3⟩, hsteps⟩ := hK m meth c ⟨T.setVm vm₁, locs, cells, slots⟩ { g with stack := rest } (.invokestatic index) mk As.toArray X₁ hg (hsize.trans hml.symm) (by rw [hb]; exact hdg) hW (X₁.named hnamed) ⟨hf.1, hf.2, hp.2 (T.setVm vm₁) hT X₁.warmed⟩
  dsimp only [Pt.U, Pt.locs, Pt.cells, Pt.slots] at X' e1 e2 h1 h2 h3 hsteps
  subst h1; subst h2; subst h3
  exact ⟨v, (T.setVm vm₁).calling g' mk' As.toArray, t, U', L, hT, X', hL, e1, e2, hq, fun target h => hstep₁ _ fun acts => by rw [doInvoke_state]; exact hsteps.trans h⟩
set_option maxHeartbeats 8000000 in
theorem x_run (hall : xall Ts Ns cl P) (hXN : ∀ s : State, X s → ∀ w ∈ Ns, va_Nw w s) (hXW : ∀ s U : State, s.WarmedH U.vm → X s → X U) (hX : ∀ u U : State, u.vm = U.vm → X u → X U) (hNm : ∀ (ci : Nat) (q : String), xnm cl ci = some q → s0.vm.findClass q = some (kc ci))
    {k k1 i pc d mc1 ms1 : Nat} {M M1 : xQ6} {ins : Instr} {ax : List Nat} {ls : xL} {st as r : List Value} {hp : xH} {Qc : Array Value → State → Outcome → State → Prop} {free : Addr → Prop} (hM : P[k]? = some M) (hM1 : P[k1]? = some M1) (hE : M.2.2.2.2.2[i]? = some (pc, xLen ins, ins, ax)) (hc : xcall ins ax st hp = some (k1, as, r))
    {p : Program} {e : Env} {R : Room} {s : State} {m : MethodId} {args : Array Value} {below : List Frame} {meth : Method} {c : Code} {H : Heap} {locs : List Loc} {cells slots : Nat} {lr : Array Slot} (hctx : xCx Ts s0 B X M p s m args meth c) (hR : xRp cl kc sl s0 B K pre hp H) (hL : xLH (xr B K pre) lr ls) (hls : ls.length = M.2.2.1)
    (hmet : Met l M1.1 (xcw M1 :: Ts) { frames := d, cells := mc1, slots := ms1, locals := 64 * d } (xPc cl kc sl s0 B K pre X hp as) Qc mc1 ms1 free) (hfr : d + 1 ≤ R.frames) (hlc : 64 * (d + 1) ≤ R.locals) (hf : cells + mc1 ≤ R.cells ∧ slots + ms1 ≤ R.slots) :
    va_Run p l e R s m args below meth c H locs cells slots mc1 ms1 (F0 m pc lr (st.map (tv (xr B K pre)))) (r.map (tv (xr B K pre))) (Qc (as.map (tv (xr B K pre))).toArray) free := by
  obtain ⟨hexec, hb, hml, hret, hlk, hnm, hown, hts, hal, hXs, -, -⟩ := hctx
  obtain ⟨hmk, hcd⟩ := hall.1 k M hM
  have hmk1 := (hall.1 k1 M1 hM1).1
  obtain ⟨hdec, -, -, -, -, hclk, -⟩ := hcd i _ hE
  have hgood : 0 < k1 → GoodIn Ts (xcw M1 :: Ts) := fun h9 w hw => by
    rcases List.mem_cons.mp hw with rfl | hw
    · exact hall.2.2 _ (hmk1 h9).2.1
    · exact hall.2.2 _ hw
  have hblind : FrameBlind (xPc cl kc sl s0 B K pre X hp as) := fun a U g mk q => by
    obtain ⟨q1, q2, q3, q4⟩ := q
    exact ⟨q1, q2, q3, hX U _ rfl q4⟩
  have hpre9 : ∀ U : State, U.heap = H → s.WarmedH U.vm → xPc cl kc sl s0 B K pre X hp as (as.map (tv (xr B K pre))).toArray U := fun U hU hW => ⟨rfl, by rw [hU]; exact hR, hal.trans hW.alike, hXW s U hW hXs⟩
  have hsz : (F0 m pc lr (st.map (tv (xr B K pre)))).locals.size = M.2.2.1 := hL.1.trans hls
  have hcwc : M1.2.2.2.2.1 = [] → xcw M1 = Cond.code M1.1 M1.2.1 M1.2.2.1 M1.2.2.2.1 := fun h9 => by unfold xcw; rw [h9]
  unfold xcall at hc
  split at hc
  · rename_i idx k' n rs
    split at hc
    · rename_i hq
      cases hc
      obtain ⟨hk0, hclk⟩ := hclk
      obtain ⟨hst, hlink, hnp, hnn⟩ := hclk M1 hM1
      obtain ⟨hpl, hcode, hini, hmh, hmx, -⟩ := hmk1 hk0
      have hlo9 : 8 + (M1.2.2.1 + 11) + 64 * d ≤ R.locals := by omega
      have hstab := pay_in hts (hgood hk0)
      have hnp2 : ∀ sig, parseMethodDescriptor M1.1.desc = some sig → n = sig.parameters.length := fun sig h => by rw [h] at hnp; exact (Option.some.inj hnp).symm
      have hlen : (((st.take n).reverse).map (tv (xr B K pre))).length = n := by simp; have := hq.1; omega
      have hstk : (F0 m pc lr (st.map (tv (xr B K pre)))).stack = (((st.take n).reverse).map (tv (xr B K pre))).reverse ++ (st.drop n).map (tv (xr B K pre)) := by
        show st.map (tv (xr B K pre)) = _
        rw [List.map_reverse, List.reverse_reverse, ← List.map_append, List.take_append_drop]
      by_cases hhd : M1.2.2.2.2.1 = []
      rotate_left
      · have hcw9 : xcw M1 = Cond.codeWith M1.1 M1.2.1 M1.2.2.1 M1.2.2.2.1 (xrh M1) := by
          unfold xcw
          split
          · rename_i h9; exact absurd h9 hhd
          · rfl
        have hlink9 := hlink.resolve_right (fun h9 => hnn ⟨hhd, h9⟩)
        rw [hcw9] at hmet hcode hstab
        exact x_runSW (n := n) ⟨hexec, hb, hml, hown, hts⟩ hmet rfl rfl hfr hlo9 hstab List.mem_cons_self (hts _ hcode) (hts _ hini) hmh hnp2 (hts _ hlink9) (hts _ hst) ⟨hblind, hpre9⟩ rfl hlen hsz hstk (lv_room (by rw [tv_sum]; exact hq.2)) hdec hf
      rw [hcwc hhd] at hmet hcode hstab
      rcases hlink with hlink | ⟨host, hlink⟩
      · exact va_runS (n := n) ⟨hexec, hb, hml, hown, hts⟩ hmet ⟨⟨rfl, rfl, hfr, hlo9, hstab, List.mem_cons_self, hts _ hcode, hts _ hini, hmh, hnp2, hts _ hlink⟩, hts _ hst⟩ ⟨hblind, hpre9⟩ rfl hlen hsz hstk (lv_room (by rw [tv_sum]; exact hq.2)) hdec hf
      · exact va_runSN (n := n) ⟨hexec, hb, hml, hown, hts⟩ hmet ⟨⟨⟨rfl, rfl, hfr, hlo9, hstab, List.mem_cons_self⟩, hts _ hcode, hts _ hini, hmh, hnp2, va_Nw.use rfl (hXN s hXs _ hlink)⟩, hts _ hst, trivial⟩ ⟨hblind, hpre9⟩ rfl hlen hsz hstk (lv_room (by rw [tv_sum]; exact hq.2)) hdec hf
    · cases hc
  · rename_i idx k' n rs
    split at hc
    · rename_i a hsta
      split at hc
      · rename_i hq
        cases hc
        obtain ⟨hk0, hclk⟩ := hclk
        obtain ⟨hhd, hinit, hrn, hins, hlink, hnp⟩ := hclk M1 hM1
        obtain ⟨hpl, hcode, hini, hmh, hmx, -⟩ := hmk1 hk0
        have hlo9 : 8 + (M1.2.2.1 + 11) + 64 * d ≤ R.locals := by omega
        have hstab := pay_in hts (hgood hk0)
        rw [hcwc hhd] at hmet hcode hstab
        have hnp2 : ∀ sig, parseMethodDescriptor M1.1.desc = some sig → n = sig.parameters.length := fun sig h => by rw [h] at hnp; exact (Option.some.inj hnp).symm
        have hlt := (List.getElem?_eq_some_iff.mp hsta).1
        have hlen : (((st.take n).reverse).map (tv (xr B K pre))).length = n := by simp; omega
        have hstk : (F0 m pc lr (st.map (tv (xr B K pre)))).stack = (((st.take n).reverse).map (tv (xr B K pre))).reverse ++ .ref (xr B K pre a) :: (st.drop (n + 1)).map (tv (xr B K pre)) := by
          show st.map (tv (xr B K pre)) = _
          rw [List.map_reverse, List.reverse_reverse]
          conv => lhs; rw [x_split hsta]
          rw [List.map_append]
          rfl
        rw [hrn] at hmet hcode hstab
        rcases hlink with hlink | ⟨host, hlink⟩
        · exact va_runI (n := n) (b := xr B K pre a) ⟨hexec, hb, hml, hown, hts⟩ hmet ⟨⟨rfl, rfl, hfr, hlo9, hstab, List.mem_cons_self, hts _ hcode, hts _ hini, hmh, hnp2, hts _ hlink⟩, hinit, hts _ hins⟩ ⟨hblind, hpre9⟩ rfl hlen hsz hstk (lv_room (by rw [tv_sum]; exact hq)) hdec hf
        · exact va_runIN (n := n) (b := xr B K pre a) ⟨hexec, hb, hml, hown, hts⟩ hmet ⟨⟨⟨rfl, rfl, hfr, hlo9, hstab, List.mem_cons_self⟩, hts _ hcode, hts _ hini, hmh, hnp2, va_Nw.use rfl (hXN s hXs _ hlink)⟩, hinit, hts _ hins⟩ ⟨hblind, hpre9⟩ rfl hlen hsz hstk (lv_room (by rw [tv_sum]; exact hq)) hdec hf
      · cases hc
    · cases hc
  · rename_i idx k' n ci rs
    split at hc
    · rename_i a hsta
      split at hc
      · rename_i c1 vs ha
        split at hc
        · rename_i hq
          obtain ⟨hci, hq⟩ := hq
          subst hci
          cases hc
          obtain ⟨hk0, hlt9, q, hqc, hrest⟩ := hclk
          obtain ⟨hhd, hsel, hins, hlink, hnp⟩ := hrest M1 hM1
          obtain ⟨hpl, hcode, hini, hmh, hmx, -⟩ := hmk1 hk0
          have hlo9 : 8 + (M1.2.2.1 + 11) + 64 * d ≤ R.locals := by omega
          have hstab := pay_in hts (hgood hk0)
          rw [hcwc hhd] at hmet hcode hstab
          have hnp2 : ∀ sig, parseMethodDescriptor M1.1.desc = some sig → n = sig.parameters.length := fun sig h => by rw [h] at hnp; exact (Option.some.inj hnp).symm
          have hlt := (List.getElem?_eq_some_iff.mp hsta).1
          have hlen : (((st.take n).reverse).map (tv (xr B K pre))).length = n := by simp; omega
          have hstk : (F0 m pc lr (st.map (tv (xr B K pre)))).stack = (((st.take n).reverse).map (tv (xr B K pre))).reverse ++ .ref (xr B K pre a) :: (st.drop (n + 1)).map (tv (xr B K pre)) := by
            show st.map (tv (xr B K pre)) = _
            rw [List.map_reverse, List.reverse_reverse]
            conv => lhs; rw [x_split hsta]
            rw [List.map_append]
            rfl
          obtain ⟨cell, g1, g2⟩ := xC_get (hR.2.2.1 a _ ha) (by omega)
          have hrecv : ∃ cellB : Cell, H[xr B K pre a]? = some cellB ∧ cellB.vm.isStatics = false ∧ s.vm.findClass q = some cellB.cls := ⟨cell, g1, g2.2.2.1, by rw [show cell.cls = kc c1 from g2.1.1 (by show c1 < 100; omega), hal.findClass]; exact hNm _ _ hqc⟩
          rcases hlink with hlink | ⟨host, hlink⟩
          · exact va_runV (n := n) (C := q) (b := xr B K pre a) ⟨hexec, hb, hml, hown, hts⟩ hmet ⟨⟨rfl, rfl, hfr, hlo9, hstab, List.mem_cons_self, hts _ hcode, hts _ hini, hmh, hnp2, hts _ hlink⟩, hts _ hins, hts _ hsel⟩ ⟨hblind, hrecv, hpre9⟩ rfl hlen hsz hstk (lv_room (by rw [tv_sum]; exact hq)) hdec hf
          · exact va_runVN (n := n) (C := q) (b := xr B K pre a) ⟨hexec, hb, hml, hown, hts⟩ hmet ⟨⟨⟨rfl, rfl, hfr, hlo9, hstab, List.mem_cons_self⟩, hts _ hcode, hts _ hini, hmh, hnp2, va_Nw.use rfl (hXN s hXs _ hlink)⟩, hts _ hins, hts _ hsel⟩ ⟨hblind, hrecv, hpre9⟩ rfl hlen hsz hstk (lv_room (by rw [tv_sum]; exact hq)) hdec hf
        · cases hc
      · cases hc
    · cases hc
  · cases hc
theorem x_k0 (hall : xall Ts Ns cl P) {k k1 i pc len : Nat} {M : xQ6} {ins : Instr} {ax : List Nat} {st as r : List Value} {hp : xH} (hM : P[k]? = some M) (hE : M.2.2.2.2.2[i]? = some (pc, len, ins, ax)) (hc : xcall ins ax st hp = some (k1, as, r)) : 0 < k1 := by
  obtain ⟨-, -, -, -, -, hclk, -⟩ := (hall.1 k M hM).2 i _ hE
  unfold xcall at hc
  split at hc
  · split at hc
    · cases hc; exact hclk.1
    · cases hc
  · split at hc
    · split at hc
      · cases hc; exact hclk.1
      · cases hc
    · cases hc
  · split at hc
    · split at hc
      · split at hc
        · cases hc; exact hclk.1
        · cases hc
      · cases hc
    · cases hc
  · cases hc
end X6
end
section
section X7
variable {l : Launch} {cl : List vw_C} {kc : Nat → ClassId} {sl : Nat → Nat → Nat} {s0 : State} {B K : Nat} {pre : Nat → Nat} {Ts Ns : List Cond} {X : State → Prop} {P : List xQ6} {Cs : List Value}
theorem x_len {ins : Instr} {len : Nat} (h : xsw ins = true ∨ len = xLen ins) (h2 : xsw ins = false) : len = xLen ins := by
  rcases h with h | h
  · rw [h2] at h; cases h
  · exact h
set_option maxHeartbeats 16000000 in
/-- THE PURE MACHINE IS THE MACHINE -/
theorem x_main (hall : xall Ts Ns cl P) (hXN : ∀ s : State, X s → ∀ w ∈ Ns, va_Nw w s) (hXW : ∀ s U : State, s.WarmedH U.vm → X s → X U) (hX : ∀ u U : State, u.vm = U.vm → X u → X U) (hG0 : ∀ (ci : Nat) (q : vw_C), cl[ci]? = some q → u_Kn s0 q.1 q.2.1 q.2.2 (kc ci) (sl ci)) (hNm : ∀ (ci : Nat) (q : String), xnm cl ci = some q → s0.vm.findClass q = some (kc ci)) (hStr : ∀ s : State, X s → xStr sl s) (hpre : ∀ i, i + 1 < K → pre i < B)
    (hT : xHT l cl kc sl s0 B K pre Ts X P Cs) (hA : xHA l cl kc sl s0 B K pre Ts X P) (hRt : xHR l cl kc sl s0 B K pre Ts X P) (hC : xHC l cl kc sl s0 B K pre Ts X P) :
    ∀ (n d k i : Nat) (ls : xL) (st : List Value) (hp : xH) (z : xZ) (hp' : xH), ex P Cs K n d k i ls st hp = some (z, hp') → xGo l cl kc sl s0 B K pre Ts X P d k i ls st hp z hp' := by
  intro n
  induction n with
  | zero => intro d k i ls st hp z hp' h; simp [ex] at h
  | succ n ih =>
    intro d k i ls st hp z hp' h
    unfold ex at h
    split at h
    · cases h
    · rename_i M0 hM0
      split at h
      · cases h
      · rename_i pc len ins ax hE
        split at h
        · -- a plain step
          rename_i i' ls' st1 hp1 h1
          intro M hM hls p e R s m args below meth c H locs cells slots mc ms lr hctx hR hL hlo hmc hms hRc hRs hfr hloc
          have hMM : M0 = M := Option.some.inj (hM0.symm.trans hM)
          subst hMM
          obtain ⟨hexec, hb, hml, hret, hlk, hnm, hown, hts, hal, hXs, -, -⟩ := id hctx
          obtain ⟨hmk, hcd⟩ := hall.1 k M0 hM
          obtain ⟨hdec, hlen, hfall, htg, hlnk, hclk, -⟩ := hcd i _ hE
          have hKn : ∀ (ci : Nat) (q : vw_C), cl[ci]? = some q → u_Kn s q.1 q.2.1 q.2.2 (kc ci) (sl ci) := fun ci q hq => u_Kn_moved hal (hG0 ci q hq)
          rw [show xpc M0 i = pc by unfold xpc; rw [hE]]
          obtain ⟨w1, w2⟩ := ex_sz _ _ _ _ _ _ _ _ _ h
          have next := ih d k i' ls' st1 hp1 z hp' h M0 hM
          unfold x1 at h1
          split at h1
          · rename_i st2 hS
            cases h1
            obtain ⟨e1, e2⟩ := xS_fl hS
            have e3 : len = xLen ins := x_len hlen e1
            subst e3
            refine xS_ok hexec hb hS hdec ?_
            rw [← hfall e2]
            exact next hls p e R s m args below meth c H locs cells slots mc ms lr hctx hR hL hlo hmc hms hRc hRs hfr hloc
          · split at h1
            · rename_i ls2 st2 hS
              cases h1
              obtain ⟨e1, e2⟩ := xV_fl hS
              have e3 : len = xLen ins := x_len hlen e1
              subst e3
              refine xV_ok hexec hb hS hL hdec (fun lr' hL' => ?_)
              rw [← hfall e2]
              exact next ((xV_len hS).trans hls) p e R s m args below meth c H locs cells slots mc ms lr' hctx hR hL' hlo hmc hms hRc hRs hfr hloc
            · split at h1
              · rename_i i2 st2 hS
                cases h1
                refine xB_ok (f := xpc M0) hexec hb hS hdec hlen htg (fun e1 => ?_) (next hls p e R s m args below meth c H locs cells slots mc ms lr hctx hR hL hlo hmc hms hRc hRs hfr hloc)
                rcases xB_fl hS with e2 | e2 | e2
                · rw [e1] at e2; cases e2
                · exact Or.inl (hfall e2)
                · exact Or.inr e2
              · split at h1
                · rename_i st2 hS
                  cases h1
                  obtain ⟨e1, e2⟩ := xR_fl hS
                  have e3 : len = xLen ins := x_len hlen e1
                  subst e3
                  refine xR_ok hexec hb (hStr s hXs) hown hts hall.2.1 hKn hal hS hR hlnk hdec ?_
                  rw [← hfall e2]
                  exact next hls p e R s m args below meth c H locs cells slots mc ms lr hctx hR hL hlo hmc hms hRc hRs hfr hloc
                · split at h1
                  · rename_i st2 hp2 hS
                    cases h1
                    obtain ⟨e1, e2⟩ := xW_fl hS
                    obtain ⟨e4, e5⟩ := xW_sz hS
                    have e3 : len = xLen ins := x_len hlen e1
                    subst e3
                    refine xW_ok hexec hb hown hnm hts hall.2.1 hKn hal hpre hlo hS hR hlnk hdec (fun H' locs' hR' hlo' => ?_)
                    rw [← hfall e2]
                    exact next hls p e R s m args below meth c H' locs' cells slots mc ms lr hctx hR' hL hlo' (by rw [e4]; exact hmc) (by rw [e5]; exact hms) hRc hRs hfr hloc
                  · split at h1
                    · rename_i st2 hp2 hS
                      cases h1
                      obtain ⟨e1, e2⟩ := xA_fl hS
                      obtain ⟨o, e4, e5⟩ := xA_sz hS
                      have e6 : hp1.length = hp.length + 1 := by rw [e4]; simp
                      have e7 : xsz hp1 = xsz hp + o.2.length := by rw [e4, xsz_push, e5]
                      have e3 : len = xLen ins := x_len hlen e1
                      subst e3
                      have same : ∀ o' : xO, hp1 = hp ++ [o'] → o' = o := fun o' h9 => by
                        rw [e4] at h9
                        have := List.append_cancel_left h9
                        cases this
                        rfl
                      refine xA_ok hexec hb hown hts hall.2.1 hKn hal (hXN s hXs) hS hR hlnk hdec (fun o' ho' => ?_) (fun H' o' ho' hR' => ?_)
                      · rw [same o' ho']
                        constructor <;> omega
                      · rw [same o' ho', ← hfall e2]
                        exact next hls p e R s m args below meth c H' locs (cells + 1) (slots + o.2.length) mc ms lr hctx hR' hL hlo (by omega) (by omega) hRc hRs hfr hloc
                    · cases h1
        · split at h
          · -- a constant
            rename_i st1 h1
            intro M hM hls p e R s m args below meth c H locs cells slots mc ms lr hctx hR hL hlo hmc hms hRc hRs hfr hloc
            have hMM : M0 = M := Option.some.inj (hM0.symm.trans hM)
            subst hMM
            obtain ⟨hmk, hcd⟩ := hall.1 k M0 hM
            obtain ⟨hdec, hlen, hfall, htg, hlnk, hclk, -⟩ := hcd i _ hE
            rw [show xpc M0 i = pc by unfold xpc; rw [hE]]
            refine hT k M0 i pc len ins ax st st1 hM hE h1 p e R s m args below meth c H locs cells slots _ lr hp hctx hR ?_
            rw [← hfall (xT_fl h1).2]
            exact ih d k (i + 1) ls st1 hp z hp' h M0 hM hls p e R s m args below meth c H locs cells slots mc ms lr hctx hR hL hlo hmc hms hRc hRs hfr hloc
          · split at h
            · -- the end
              rename_i q h1
              cases h
              intro M hM hls p e R s m args below meth c H locs cells slots mc ms lr hctx hR hL hlo hmc hms hRc hRs hfr hloc
              have hMM : M0 = M := Option.some.inj (hM0.symm.trans hM)
              subst hMM
              obtain ⟨hmk, hcd⟩ := hall.1 k M0 hM
              obtain ⟨hdec, hlen, hfall, htg, hlnk, hclk, -⟩ := hcd i _ hE
              rw [show xpc M0 i = pc by unfold xpc; rw [hE]]
              have e3 : len = xLen ins := x_len hlen (xret_fl h1)
              subst e3
              exact x_ret hctx h1 hdec hR hlo (by omega) (by omega)
            · split at h
              · cases h
              · rename_i d'
                split at h
                · -- Object's constructor, copying
                  rename_i st1 hp1 h1
                  intro M hM hls p e R s m args below meth c H locs cells slots mc ms lr hctx hR hL hlo hmc hms hRc hRs hfr hloc
                  have hMM : M0 = M := Option.some.inj (hM0.symm.trans hM)
                  subst hMM
                  obtain ⟨hmk, hcd⟩ := hall.1 k M0 hM
                  obtain ⟨hdec, hlen, hfall, htg, hlnk, hclk, -⟩ := hcd i _ hE
                  obtain ⟨e4, e5⟩ := xsp_sz h1
                  rw [show xpc M0 i = pc by unfold xpc; rw [hE]]
                  refine hA k M0 i pc len ins ax st st1 hp hp1 hM hE h1 p e R s m args below meth c H locs cells slots _ lr ls hctx hR hL hls hlo (by omega) (by omega) (by omega) (by omega) (fun H' locs' hR' hlo' => ?_)
                  rw [← hfall (xsp_fl h1).2]
                  exact ih (d' + 1) k (i + 1) ls st1 hp1 z hp' h M0 hM hls p e R s m args below meth c H' locs' cells slots mc ms lr hctx hR' hL hlo' (by rw [e4]; exact hmc) (by rw [e5]; exact hms) hRc hRs hfr hloc
                · split at h
                  · -- a call
                    rename_i k1 as r h1
                    split at h
                    · cases h
                    · rename_i M1 hM1
                      split at h
                      · rename_i hen
                        split at h
                        · cases h
                        · rename_i v hp1 h2
                          obtain ⟨y1, y2⟩ := ex_sz _ _ _ _ _ _ _ _ _ h2
                          obtain ⟨y3, y4⟩ := ex_sz _ _ _ _ _ _ _ _ _ h
                          have hgo := ih d' k1 0 _ _ hp _ hp1 h2
                          intro M hM hls p e R s m args below meth c H locs cells slots mc ms lr hctx hR hL hlo hmc hms hRc hRs hfr hloc
                          have hMM : M0 = M := Option.some.inj (hM0.symm.trans hM)
                          subst hMM
                          obtain ⟨hmk, hcd⟩ := hall.1 k M0 hM
                          obtain ⟨hdec, hlen, hfall, htg, hlnk, hclk, -⟩ := hcd i _ hE
                          obtain ⟨e1, e2⟩ := xcall_fl h1
                          have e3 : len = xLen ins := x_len hlen e1
                          subst e3
                          rw [show xpc M0 i = pc by unfold xpc; rw [hE]]
                          have hrun := x_run (ls := ls) (lr := lr) (e := e) (below := below) (locs := locs) (cells := cells) (slots := slots) hall hXN hXW hX hNm hM hM1 hE h1 hctx hR hL hls (x_met hall hM1 (x_k0 hall hM0 hE h1) hen hgo) (by omega) (by omega) ⟨by omega, by omega⟩
                          have l3 : xLen ins = 3 := by
                            unfold xcall at h1
                            split at h1 <;> first | rfl | cases h1
                          intro T hT9 X9
                          obtain ⟨v9, st₀, t, T', L, h0, X', hLf, e5, e6, ⟨hR1, hv9⟩, hst⟩ := hrun T hT9 X9
                          cases hv9
                          have next := ih (d' + 1) k (i + 1) ls (v.toList ++ r) hp1 z hp' h M0 hM hls p e R s m args below meth c T'.heap (locs ++ L) (cells + (hp1.length - hp.length)) (slots + (xsz hp1 - xsz hp)) mc ms lr hctx (by rw [e5]; exact hR1) hL (fun q hq => by
                            rcases List.mem_append.mp hq with h9 | h9
                            · exact hlo q h9
                            · exact hLf q h9) (by omega) (by omega) hRc hRs hfr hloc
                          rw [hfall e2, l3, show (v.toList ++ r).map (tv (xr B K pre)) = (v.map (tv (xr B K pre))).toList ++ r.map (tv (xr B K pre)) by cases v <;> simp] at next
                          obtain ⟨t2, a1, b1⟩ := next T' rfl X'
                          exact ⟨t2, hst t2 a1, b1⟩
                        · rename_i z1 hp1 h2
                          split at h
                          · cases h
                          · rename_i t ht
                            obtain ⟨y1, y2⟩ := ex_sz _ _ _ _ _ _ _ _ _ h2
                            obtain ⟨y3, y4⟩ := ex_sz _ _ _ _ _ _ _ _ _ h
                            exact hC k k1 M0 M1 i pc len ins ax ls st as r hp hp1 hp' z1 t d' z hM0 hM1 hE h1 hen y1 y2 y3 y4 (ex_thrown _ _ _ _ _ _ _ _ _ h2) (ih d' k1 0 _ _ hp _ hp1 h2) ht (ih (d' + 1) k t ls _ hp1 z hp' h)
                      · cases h
                  · split at h
                    · rename_i z1 h1
                      split at h
                      · rename_i hq9
                        cases h
                        have hst9 : st = [] := by simpa using hq9.2
                        subst hst9
                        exact hRt k M0 i pc len ins ax ls hp z1 hM0 hE h1 (d' + 1) (by omega)
                      · cases h
                    · cases h
end X7
end
section
/-! the tables are checked by running this -/
def kIx (T0 : List Cond) (p : Nat) (w : Cond) : Bool := decide (T0[p]? = some w) && goodWord w
theorem kIx_ok {T0 : List Cond} {p : Nat} {w : Cond} (h : kIx T0 p w = true) : w ∈ T0.filter goodWord := by
  unfold kIx at h
  simp only [Bool.and_eq_true, decide_eq_true_eq] at h
  exact List.mem_filter.mpr ⟨List.mem_of_getElem? h.1, h.2⟩
def klnk (T0 Ns : List Cond) (cl : List vw_C) (nm own : String) (ins : Instr) (ax ps : List Nat) : Bool := match ins, ax with
  | .getfield idx, ci :: k :: _ => if ci = 70 then decide (k < 2) && kIx T0 (ps.getD 0 0) (Cond.fieldLink own idx "java/lang/String" (xsn k).1 (xsn k).2) else decide (ci < 70) && match cl[ci]? with
    | some q => decide (k < q.2.2) && kIx T0 (ps.getD 0 0) (Cond.fieldLink own idx (q.2.1 k).1 (q.2.1 k).2.1 (q.2.1 k).2.2.1)
    | none => false
  | .putfield idx, ci :: k :: t :: _ => decide (ci < 70) && match cl[ci]? with
    | some q => decide (k < q.2.2) && kIx T0 (ps.getD 0 0) (Cond.fieldLink own idx (q.2.1 k).1 (q.2.1 k).2.1 (q.2.1 k).2.2.1) && decide (t = xtc (xty0 q k)) && (decide ((q.2.1 k).2.2.2 = false) || (decide ((q.2.1 k).2.2.2 = true) && decide (nm = "<init>") && decide ((q.2.1 k).1 = own)))
    | none => false
  | .new idx, ci :: ts => if ci < 100 then match cl[ci]? with
    | some q => kIx T0 (ps.getD 0 0) (Cond.classLink own idx q.1) && kIx T0 (ps.getD 1 0) (Cond.instantiable q.1 q.2.2) && kIx T0 (ps.getD 2 0) (Cond.initialized q.1) && decide (ts = (List.range q.2.2).map fun k => xtc (xty0 q k))
    | none => false
    else true
  | .aastore, ci :: _ => decide (ci < 70) && (cl[ci]?).isSome
  | .newarray t, _ => kIx T0 (ps.getD 0 0) (Cond.arrayClass (newarray.typeOf t))
  | .anewarray idx, [ci] => match cl[ci]? with
    | some q => kIx T0 (ps.getD 0 0) (Cond.classLink own idx q.1) && decide (Cond.arrayOver (.object q.1) ∈ Ns)
    | none => false
  | _, _ => true
theorem klnk_ok {T0 Ns : List Cond} {cl : List vw_C} {nm own : String} {ins : Instr} {ax ps : List Nat} (h : klnk T0 Ns cl nm own ins ax ps = true) : xlnk (T0.filter goodWord) Ns cl nm own ins ax := by
  unfold klnk at h
  unfold xlnk
  split at h
  · split at h
    · rename_i hc
      simp only [Bool.and_eq_true, decide_eq_true_eq] at h
      exact Or.inr ⟨hc, h.1, kIx_ok h.2⟩
    · simp only [Bool.and_eq_true, decide_eq_true_eq] at h
      obtain ⟨h1, h2⟩ := h
      split at h2
      · rename_i q hq
        simp only [Bool.and_eq_true, decide_eq_true_eq] at h2
        exact Or.inl ⟨h1, q, hq, h2.1, kIx_ok h2.2⟩
      · cases h2
  · simp only [Bool.and_eq_true, decide_eq_true_eq] at h
    obtain ⟨h1, h2⟩ := h
    split at h2
    · rename_i q hq
      simp only [Bool.and_eq_true, Bool.or_eq_true, decide_eq_true_eq] at h2
      obtain ⟨⟨⟨a1, a2⟩, a3⟩, a4⟩ := h2
      refine ⟨h1, q, hq, a1, kIx_ok a2, a3, ?_⟩
      rcases a4 with a4 | ⟨⟨a4, a5⟩, a6⟩
      · exact Or.inl a4
      · exact Or.inr ⟨a4, a5, a6⟩
    · cases h2
  · intro hc
    rw [if_pos hc] at h
    split at h
    · rename_i q hq
      simp only [Bool.and_eq_true, decide_eq_true_eq] at h
      obtain ⟨⟨⟨a1, a2⟩, a3⟩, a4⟩ := h
      exact ⟨q, hq, kIx_ok a1, kIx_ok a2, kIx_ok a3, a4⟩
    · cases h
  · simp only [Bool.and_eq_true, decide_eq_true_eq] at h
    exact ⟨h.1, Option.isSome_iff_exists.mp h.2⟩
  · exact kIx_ok h
  · split at h
    · rename_i q hq
      simp only [Bool.and_eq_true, decide_eq_true_eq] at h
      exact ⟨q, hq, kIx_ok h.1, h.2⟩
    · cases h
  · try exact True.intro
    all_goals
      split <;> first | trivial | (exfalso; simp_all; done) | (exfalso; simp_all; rename_i x; exact x _ _ _ _ rfl rfl rfl rfl) | (exfalso; simp_all; rename_i x; exact x _ _ _ _ _ rfl rfl rfl rfl rfl)
def kml (T0 Ns : List Cond) (own : String) (idx p : Nat) (y : MethodName) : Bool := kIx T0 p (Cond.methodLink own idx y) || decide (Cond.methodLinkNest own idx y "FormulaTrees" ∈ Ns)
theorem kml_ok {T0 Ns : List Cond} {own : String} {idx p : Nat} {y : MethodName} (h : kml T0 Ns own idx p y = true) : Cond.methodLink own idx y ∈ T0.filter goodWord ∨ ∃ host, Cond.methodLinkNest own idx y host ∈ Ns := by
  unfold kml at h
  simp only [Bool.or_eq_true, decide_eq_true_eq] at h
  rcases h with h | h
  · exact Or.inl (kIx_ok h)
  · exact Or.inr ⟨_, h⟩
def kclk (T0 Ns : List Cond) (cl : List vw_C) (P : List xQ6) (own : String) (ins : Instr) (ax ps : List Nat) : Bool := match ins, ax with
  | .invokestatic idx, 0 :: k :: n :: _ => decide (0 < k) && match P[k]? with
    | some M => kIx T0 (ps.getD 0 0) (Cond.static M.1) && kml T0 Ns own idx (ps.getD 1 0) M.1 && decide ((parseMethodDescriptor M.1.desc).map (fun d => d.parameters.length) = some n) && (M.2.2.2.2.1.isEmpty || Ns.all (fun w => match w with
      | .methodLinkNest o j _ _ => !(decide (o = own) && decide (j = idx))
      | _ => true))
    | none => false
  | .invokespecial idx, 0 :: k :: n :: _ => decide (0 < k) && match P[k]? with
    | some M => M.2.2.2.2.1.isEmpty && decide (M.1.name = "<init>") && decide (M.2.2.2.1 = none) && kIx T0 (ps.getD 0 0) (Cond.instanceMethod M.1) && kml T0 Ns own idx (ps.getD 1 0) M.1 && decide ((parseMethodDescriptor M.1.desc).map (fun d => d.parameters.length) = some n)
    | none => false
  | .invokevirtual idx, 0 :: k :: n :: ci :: _ => decide (0 < k) && decide (ci ≤ 70) && match P[k]?, xnm cl ci with
    | some M, some q => M.2.2.2.2.1.isEmpty && kIx T0 (ps.getD 0 0) (Cond.selects q M.1 M.1) && kIx T0 (ps.getD 1 0) (Cond.instanceMethod M.1) && kml T0 Ns own idx (ps.getD 2 0) M.1 && decide ((parseMethodDescriptor M.1.desc).map (fun d => d.parameters.length) = some n)
    | _, _ => false
  | .invokestatic idx, [2] => kIx T0 (ps.getD 0 0) (Cond.methodLink own idx arraycopyName) && kIx T0 (ps.getD 1 0) (Cond.native arraycopyName) && kIx T0 (ps.getD 2 0) (Cond.static arraycopyName) && kIx T0 (ps.getD 3 0) (Cond.initialized "java/lang/System")
  | .invokestatic idx, [3] => kIx T0 (ps.getD 0 0) (Cond.methodLink own idx Lib.Math.max.name) && kIx T0 (ps.getD 1 0) (Cond.static Lib.Math.max.name) && kIx T0 (ps.getD 2 0) (Cond.initialized "java/lang/Math") && kIx T0 (ps.getD 3 0) (Cond.code Lib.Math.max.name Lib.Math.max.code 2 (some .int))
  | .invokestatic idx, [4] => kIx T0 (ps.getD 0 0) (Cond.methodLink own idx Lib.Math.min.name) && kIx T0 (ps.getD 1 0) (Cond.static Lib.Math.min.name) && kIx T0 (ps.getD 2 0) (Cond.initialized "java/lang/Math") && kIx T0 (ps.getD 3 0) (Cond.code Lib.Math.min.name Lib.Math.min.code 2 (some .int))
  | .invokespecial idx, [1] => kIx T0 (ps.getD 0 0) (Cond.methodLink own idx Lib.objectInit) && kIx T0 (ps.getD 1 0) (Cond.instanceMethod Lib.objectInit) && kIx T0 (ps.getD 2 0) (Cond.code Lib.objectInit ⟨#[0xb1]⟩ 1 none)
  | _, _ => true
theorem kclk_ok {T0 Ns : List Cond} {cl : List vw_C} {P : List xQ6} {own : String} {ins : Instr} {ax ps : List Nat} (h : kclk T0 Ns cl P own ins ax ps = true) : xclk (T0.filter goodWord) Ns cl P own ins ax := by
  unfold kclk at h
  unfold xclk
  split at h
  · simp only [Bool.and_eq_true, decide_eq_true_eq] at h
    obtain ⟨h1, h2⟩ := h
    refine ⟨h1, fun M' hM' => ?_⟩
    rw [hM'] at h2
    simp only [Bool.and_eq_true, decide_eq_true_eq] at h2
    refine ⟨kIx_ok h2.1.1.1, kml_ok h2.1.1.2, h2.1.2, ?_⟩
    rintro ⟨hne, host, hm⟩
    have h9 := h2.2
    simp only [Bool.or_eq_true, List.isEmpty_iff] at h9
    rcases h9 with h9 | h9
    · exact hne h9
    · have := List.all_eq_true.mp h9 _ hm
      simp at this
  · simp only [Bool.and_eq_true, decide_eq_true_eq] at h
    obtain ⟨h1, h2⟩ := h
    refine ⟨h1, fun M' hM' => ?_⟩
    rw [hM'] at h2
    simp only [Bool.and_eq_true, decide_eq_true_eq, List.isEmpty_iff] at h2
    obtain ⟨⟨⟨⟨⟨a1, a2⟩, a3⟩, a4⟩, a5⟩, a6⟩ := h2
    exact ⟨a1, a2, a3, kIx_ok a4, kml_ok a5, a6⟩
  · simp only [Bool.and_eq_true, decide_eq_true_eq] at h
    obtain ⟨⟨h1, h0⟩, h2⟩ := h
    split at h2
    · rename_i M q hM hq
      simp only [Bool.and_eq_true, decide_eq_true_eq, List.isEmpty_iff] at h2
      obtain ⟨⟨⟨⟨a1, a2⟩, a3⟩, a4⟩, a5⟩ := h2
      refine ⟨h1, h0, q, hq, fun M' hM' => ?_⟩
      cases hM.symm.trans hM'
      exact ⟨a1, kIx_ok a2, kIx_ok a3, kml_ok a4, a5⟩
    · cases h2
  · simp only [Bool.and_eq_true] at h
    exact ⟨kIx_ok h.1.1.1, kIx_ok h.1.1.2, kIx_ok h.1.2, kIx_ok h.2⟩
  · simp only [Bool.and_eq_true] at h
    exact ⟨kIx_ok h.1.1.1, kIx_ok h.1.1.2, kIx_ok h.1.2, kIx_ok h.2⟩
  · simp only [Bool.and_eq_true] at h
    exact ⟨kIx_ok h.1.1.1, kIx_ok h.1.1.2, kIx_ok h.1.2, kIx_ok h.2⟩
  · simp only [Bool.and_eq_true] at h
    exact ⟨kIx_ok h.1.1, kIx_ok h.1.2, kIx_ok h.2⟩
  · rename_i h1 h2 h3 h4 h6 h7 h5
    try exact True.intro
    all_goals
      split
      · exact absurd rfl (h1 _ _ _ _ rfl)
      · exact absurd rfl (h2 _ _ _ _ rfl)
      · exact absurd rfl (h3 _ _ _ _ _ rfl)
      · exact absurd rfl (h4 _ rfl)
      · exact absurd rfl (h6 _ rfl)
      · exact absurd rfl (h7 _ rfl)
      · exact absurd rfl (h5 _ rfl)
      · trivial
def ktg (f : Nat → Nat) (pc : Nat) (ins : Instr) (ax : List Nat) : Bool := match ins, ax with
  | .goto o, [t] => decide ((pc : Int) + o = (f t : Int))
  | .ifCond _ o, [t] => decide ((pc : Int) + o = (f t : Int))
  | .if_icmp _ o, [t] => decide ((pc : Int) + o = (f t : Int))
  | .ifnull o, [t] => decide ((pc : Int) + o = (f t : Int))
  | .ifnonnull o, [t] => decide ((pc : Int) + o = (f t : Int))
  | .tableswitch d _ _ os, t0 :: ts => decide ((pc : Int) + d = (f t0 : Int)) && decide (os.size = ts.length) && (os.toList.zip ts).all fun q => decide ((pc : Int) + q.1 = (f q.2 : Int))
  | .lookupswitch d ps, t0 :: ts => (ps.toList.zip (ps.toList.drop 1)).all (fun (a, next) => a.1 < next.1) && decide ((pc : Int) + d = (f t0 : Int)) && decide (ps.toList.length = ts.length) && (ps.toList.zip ts).all fun q => decide ((pc : Int) + q.1.2 = (f q.2 : Int))
  | _, _ => true
theorem zip_get {α β : Type} {l : List α} {m : List β} {j : Nat} {a : α} {b : β} (h1 : l[j]? = some a) (h2 : m[j]? = some b) : (a, b) ∈ l.zip m := by
  have : (l.zip m)[j]? = some (a, b) := by
    rw [List.getElem?_zip_eq_some]
    exact ⟨h1, h2⟩
  exact List.mem_of_getElem? this
theorem ktg_ok {f : Nat → Nat} {pc : Nat} {ins : Instr} {ax : List Nat} (h : ktg f pc ins ax = true) : xtg f pc ins ax := by
  unfold ktg at h
  unfold xtg
  split at h
  · exact of_decide_eq_true h
  · exact of_decide_eq_true h
  · exact of_decide_eq_true h
  · exact of_decide_eq_true h
  · exact of_decide_eq_true h
  · simp only [Bool.and_eq_true, decide_eq_true_eq] at h
    refine ⟨h.1.1, h.1.2, fun j o t h1 h2 => ?_⟩
    have := List.all_eq_true.mp h.2 _ (zip_get (l := _) (by rw [Array.getElem?_toList]; exact h1) h2)
    exact of_decide_eq_true this
  · simp only [Bool.and_eq_true, decide_eq_true_eq] at h
    refine ⟨h.1.1.1, h.1.1.2, h.1.2, fun j o t h1 h2 => ?_⟩
    have := List.all_eq_true.mp h.2 _ (zip_get h1 h2)
    exact of_decide_eq_true this
  · rename_i h1 h2 h3 h4 h5 h6 h7
    try exact True.intro
    all_goals
      split
      · exact absurd rfl (h1 _ _ rfl)
      · exact absurd rfl (h2 _ _ _ rfl)
      · exact absurd rfl (h3 _ _ _ rfl)
      · exact absurd rfl (h4 _ _ rfl)
      · exact absurd rfl (h5 _ _ rfl)
      · exact absurd rfl (h6 _ _ _ _ _ _ rfl)
      · exact absurd rfl (h7 _ _ _ _ rfl)
      · trivial
def kvirt (T0 : List Cond) (P : List xQ6) (own : String) (ins : Instr) (ax ps : List Nat) : Bool := match ins, ax with
  | .invokestatic _, 0 :: _ => false
  | .invokespecial _, 0 :: _ => false
  | .invokevirtual idx, 0 :: k :: _ => match P[k]? with
    | some M => kIx T0 (ps.getD 2 0) (Cond.methodLink own idx M.1)
    | none => true
  | _, _ => true
theorem kvirt_ok {T0 : List Cond} {P : List xQ6} {own : String} {ins : Instr} {ax ps : List Nat} (h : kvirt T0 P own ins ax ps = true) : xvirt (T0.filter goodWord) P own ins ax := by
  unfold kvirt at h
  unfold xvirt
  split at h
  · cases h
  · cases h
  · intro M' hM'
    rw [hM'] at h
    exact kIx_ok h
  · rename_i h1 h2 h3
    try exact True.intro
    all_goals
      split
      · exact h1 _ _ rfl rfl
      · exact h2 _ _ rfl rfl
      · exact absurd rfl (h3 _ _ _ rfl)
      · trivial
/-- one row of a method's table -/
def kE (T0 Ns : List Cond) (cl : List vw_C) (P : List xQ6) (M : xQ6) (hs : List Nat) (i : Nat) (E : xE) (ps : List Nat) : Bool :=
  decide (decode M.2.1 E.1 = .ok (E.2.2.1, E.2.1)) && (xsw E.2.2.1 || decide (E.2.1 = xLen E.2.2.1)) && (!xfl E.2.2.1 || decide (xpc M (i + 1) = E.1 + E.2.1)) && ktg (xpc M) E.1 E.2.2.1 E.2.2.2 && klnk T0 Ns cl M.1.name M.1.cls E.2.2.1 E.2.2.2 ps && kclk T0 Ns cl P M.1.cls E.2.2.1 E.2.2.2 ps &&
  (M.2.2.2.2.1.zip hs).all fun h => decide ((decide (xpc M h.1.1 ≤ E.1) && decide (E.1 < xpc M h.1.2.1)) = (decide (h.1.1 ≤ i) && decide (i < h.1.2.1))) && decide (h.1.2.2.2.2 ≠ 0) && (!(decide (h.1.1 ≤ i) && decide (i < h.1.2.1)) || kvirt T0 P M.1.cls E.2.2.1 E.2.2.2 ps) && match xen h.1.2.2.2.1 with
    | some C => kIx T0 h.2 (Cond.classLink M.1.cls h.1.2.2.2.2 C)
    | none => false
theorem kE_ok {T0 Ns : List Cond} {cl : List vw_C} {P : List xQ6} {M : xQ6} {hs : List Nat} {i : Nat} {E : xE} {ps : List Nat} (hl : hs.length = M.2.2.2.2.1.length) (h : kE T0 Ns cl P M hs i E ps = true) : xok (T0.filter goodWord) Ns cl P M i E := by
  unfold kE at h
  simp only [Bool.and_eq_true, Bool.or_eq_true, decide_eq_true_eq, Bool.not_eq_true'] at h
  obtain ⟨⟨⟨⟨⟨⟨h1, h2⟩, h3⟩, h4⟩, h5⟩, h6⟩, h7⟩ := h
  refine ⟨h1, h2, fun q => ?_, ktg_ok h4, klnk_ok h5, kclk_ok h6, fun x hx => ?_⟩
  · rcases h3 with h3 | h3
    · rw [q] at h3; cases h3
    · exact h3
  · obtain ⟨j, hj⟩ := List.getElem?_of_mem hx
    have hlt : j < hs.length := by rw [hl]; exact (List.getElem?_eq_some_iff.mp hj).1
    have hm := List.all_eq_true.mp h7 _ (zip_get hj (List.getElem?_eq_getElem hlt))
    simp only [Bool.and_eq_true, decide_eq_true_eq] at hm
    obtain ⟨⟨⟨a1, a2⟩, a4⟩, a3⟩ := hm
    refine ⟨?_, a2, ?_, fun q => ?_⟩
    · have e : ∀ {p q : Prop} [Decidable p] [Decidable q], decide p = decide q → (p ↔ q) := fun h => decide_eq_decide.mp h
      rw [← Bool.decide_and, ← Bool.decide_and] at a1
      exact e a1
    · split at a3
      · rename_i C hC
        exact ⟨C, hC, kIx_ok a3⟩
      · cases a3
    · simp only [Bool.or_eq_true, Bool.not_eq_true', Bool.and_eq_false_iff, decide_eq_false_iff_not] at a4
      rcases a4 with a4 | a4
      · rcases a4 with a4 | a4
        · exact absurd q.1 a4
        · exact absurd q.2 a4
      · exact kvirt_ok a4
def kL (T0 Ns : List Cond) (cl : List vw_C) (P : List xQ6) (M : xQ6) (hs : List Nat) : Nat → List xE → List (List Nat) → Bool
  | _, [], _ => true
  | i, E :: es, p :: ps => kE T0 Ns cl P M hs i E p && kL T0 Ns cl P M hs (i + 1) es ps
  | i, E :: es, [] => kE T0 Ns cl P M hs i E [] && kL T0 Ns cl P M hs (i + 1) es []
theorem kL_ok {T0 Ns : List Cond} {cl : List vw_C} {P : List xQ6} {M : xQ6} {hs : List Nat} (hl : hs.length = M.2.2.2.2.1.length) : ∀ (es : List xE) (i : Nat) (ps : List (List Nat)), kL T0 Ns cl P M hs i es ps = true → ∀ (j : Nat) (E : xE), es[j]? = some E → xok (T0.filter goodWord) Ns cl P M (i + j) E := by
  intro es
  induction es with
  | nil => intro i ps h j E hj; simp at hj
  | cons e es ih =>
    intro i ps h j E hj
    have key : ∀ (p : List Nat) (ps' : List (List Nat)), kE T0 Ns cl P M hs i e p = true → kL T0 Ns cl P M hs (i + 1) es ps' = true → xok (T0.filter goodWord) Ns cl P M (i + j) E := by
      intro p ps' g1 g2
      match j, hj with
      | 0, hj => cases hj; exact kE_ok hl g1
      | j + 1, hj =>
        have := ih (i + 1) ps' g2 j E hj
        rw [show i + (j + 1) = i + 1 + j by omega]
        exact this
    cases ps with
    | nil =>
      simp only [kL, Bool.and_eq_true] at h
      exact key [] [] h.1 h.2
    | cons p ps =>
      simp only [kL, Bool.and_eq_true] at h
      exact key p ps h.1 h.2
/-- a method's own word at its place: its bytes are compared as lists (as arrays each byte is looked for from the first one on) -/
def kCw (T0 : List Cond) (p : Nat) (M : xQ6) : Bool := match T0[p]? with
  | some (.code n c m r) => M.2.2.2.2.1.isEmpty && decide (n = M.1) && decide (c.data.toList = M.2.1.data.toList) && decide (m = M.2.2.1) && decide (r = M.2.2.2.1) && goodWord (xcw M)
  | _ => kIx T0 p (xcw M)
theorem kCw_ok {T0 : List Cond} {p : Nat} {M : xQ6} (h : kCw T0 p M = true) : xcw M ∈ T0.filter goodWord := by
  unfold kCw at h
  split at h
  · rename_i n c m r hq
    simp only [Bool.and_eq_true, decide_eq_true_eq, List.isEmpty_iff] at h
    obtain ⟨⟨⟨⟨⟨a0, a1⟩, a2⟩, a3⟩, a4⟩, a5⟩ := h
    have e : c = M.2.1 := ByteArray.ext (Array.ext' a2)
    have q : T0[p]? = some (xcw M) := by
      rw [hq, a1, e, a3, a4]
      unfold xcw
      rw [a0]
    exact List.mem_filter.mpr ⟨List.mem_of_getElem? q, a5⟩
  · exact kIx_ok h
/-- a method: its own word (at its place), and all its rows -/
def kM (T0 Ns : List Cond) (cl : List vw_C) (P : List xQ6) (law : Bool) (M : xQ6) (pc pi : Nat) (hs : List Nat) (ps : List (List Nat)) : Bool :=
  (law || (plainName M.1.cls && kCw T0 pc M && kIx T0 pi (Cond.initialized M.1.cls) && decide (M.1.cls ≠ "java/lang/invoke/MethodHandle") && decide (M.1.cls ≠ "java/lang/invoke/VarHandle") && decide (M.2.2.1 ≤ 45) && decide (xpc M 0 = 0))) && decide (hs.length = M.2.2.2.2.1.length) && kL T0 Ns cl P M hs 0 M.2.2.2.2.2 ps
def kOk (T0 Ns : List Cond) (cl : List vw_C) (P : List xQ6) (law : Bool) (M : xQ6) : Prop := (law = false → xmok (T0.filter goodWord) M) ∧ ∀ (i : Nat) (E : xE), M.2.2.2.2.2[i]? = some E → xok (T0.filter goodWord) Ns cl P M i E
theorem kM_ok {T0 Ns : List Cond} {cl : List vw_C} {P : List xQ6} {law : Bool} {M : xQ6} {pc pi : Nat} {hs : List Nat} {ps : List (List Nat)} (h : kM T0 Ns cl P law M pc pi hs ps = true) : kOk T0 Ns cl P law M := by
  unfold kM at h
  simp only [Bool.and_eq_true, Bool.or_eq_true, decide_eq_true_eq] at h
  obtain ⟨⟨h1, h2⟩, h3⟩ := h
  refine ⟨fun q => ?_, fun i E hE => ?_⟩
  · rcases h1 with h1 | ⟨⟨⟨⟨⟨⟨a1, a2⟩, a3⟩, a4⟩, a5⟩, a6⟩, a7⟩
    · rw [q] at h1; cases h1
    · exact ⟨a1, kCw_ok a2, kIx_ok a3, ⟨a4, a5⟩, a6, a7⟩
  · have := kL_ok h2 _ 0 ps h3 i E hE
    rw [Nat.zero_add] at this
    exact this
/-- a long method, in pieces -/
def kQ (T0 Ns : List Cond) (cl : List vw_C) (P : List xQ6) (M : xQ6) (i : Nat) (es : List xE) : Prop := ∀ (j : Nat) (E : xE), es[j]? = some E → xok (T0.filter goodWord) Ns cl P M (i + j) E
theorem kQ_app {T0 Ns : List Cond} {cl : List vw_C} {P : List xQ6} {M : xQ6} {i n : Nat} {a b : List xE} (hn : a.length = n) (h1 : kQ T0 Ns cl P M i a) (h2 : kQ T0 Ns cl P M (i + n) b) : kQ T0 Ns cl P M i (a ++ b) := by
  intro j E hj
  by_cases h : j < a.length
  · rw [List.getElem?_append_left h] at hj
    exact h1 j E hj
  · rw [List.getElem?_append_right (by omega)] at hj
    have := h2 _ E hj
    rw [← hn, show i + a.length + (j - a.length) = i + j by omega] at this
    exact this
theorem kQ_of {T0 Ns : List Cond} {cl : List vw_C} {P : List xQ6} {M : xQ6} {hs : List Nat} {i : Nat} {es : List xE} {ps : List (List Nat)} (h : (decide (hs.length = M.2.2.2.2.1.length) && kL T0 Ns cl P M hs i es ps) = true) : kQ T0 Ns cl P M i es := by
  simp only [Bool.and_eq_true, decide_eq_true_eq] at h
  exact kL_ok h.1 es i ps h.2
def kM0 (T0 : List Cond) (law : Bool) (M : xQ6) (pc pi : Nat) : Bool :=
  law || (plainName M.1.cls && kCw T0 pc M && kIx T0 pi (Cond.initialized M.1.cls) && decide (M.1.cls ≠ "java/lang/invoke/MethodHandle") && decide (M.1.cls ≠ "java/lang/invoke/VarHandle") && decide (M.2.2.1 ≤ 45) && decide (xpc M 0 = 0))
theorem kM_of {T0 Ns : List Cond} {cl : List vw_C} {P : List xQ6} {law : Bool} {M : xQ6} {pc pi : Nat} (h1 : kM0 T0 law M pc pi = true) (h2 : kQ T0 Ns cl P M 0 M.2.2.2.2.2) : kOk T0 Ns cl P law M := by
  unfold kM0 at h1
  simp only [Bool.and_eq_true, Bool.or_eq_true, decide_eq_true_eq] at h1
  refine ⟨fun q => ?_, fun i E hE => ?_⟩
  · rcases h1 with h1 | ⟨⟨⟨⟨⟨⟨a1, a2⟩, a3⟩, a4⟩, a5⟩, a6⟩, a7⟩
    · rw [q] at h1; cases h1
    · exact ⟨a1, kCw_ok a2, kIx_ok a3, ⟨a4, a5⟩, a6, a7⟩
  · have := h2 i E hE
    rw [Nat.zero_add] at this
    exact this
end
section
section X9
variable {p : Program} {l : Launch} {e : Env} {R : Room} {s : State} {m : MethodId} {args : Array Value} {below : List Frame} {meth : Method} {c : Code} {T : State} {locs : List Loc} {cells slots : Nat}
/-- a walk may be taken as begun where it stands -/
theorem x_rebase (X : Stand p l e R s m args below meth c T locs cells slots) (hc : cells ≤ R.cells) (hs : slots ≤ R.slots) : ∃ s' : State, s'.vm = T.vm ∧ s'.heap = T.heap ∧ T = s'.setFrames T.frames ∧ Stand p l e { frames := R.frames, cells := R.cells - cells, slots := R.slots - slots, locals := R.locals } s' m args below meth c T [] 0 0 := by
  obtain ⟨e1, -, q3, q4, q5, -⟩ := id X.same
  have hfr : (({ s with heap := T.heap, slotsUsed := T.slotsUsed } : State).setVm T.vm).frames = .invoking m args :: below := X.frames
  obtain ⟨th, hth, -⟩ := State.frames_cons hfr
  have hcur := State.cur_lt_of_frames hfr
  have hT : T = (({ s with heap := T.heap, slotsUsed := T.slotsUsed } : State).setVm T.vm).setFrames T.frames := by
    have h9 : T = (T.setVm s.vm).setVm T.vm := rfl
    rw [e1] at h9
    exact h9
  have hli : (({ s with heap := T.heap, slotsUsed := T.slotsUsed } : State).setVm T.vm).localsInUse = s.localsInUse := by
    unfold State.localsInUse
    rw [hfr, X.frames]
    show _ + ((((T.vm.method? m).bind (·.code)).map (·.maxLocals)).getD 0 + 11) = _ + ((((s.vm.method? m).bind (·.code)).map (·.maxLocals)).getD 0 + 11)
    rw [X.method, X.method']
  have hcode : ∀ q, (({ s with heap := T.heap, slotsUsed := T.slotsUsed } : State).setVm T.vm).code? q = s.code? q := fun q => by
    rw [State.code?_eq, State.code?_eq]
    show Option.bind (T.vm.method? q) _ = _
    rw [X.warmed.alike.method?]
  have hroom := X.room
  have hused := X.used
  have hbook := X.book
  refine ⟨({ s with heap := T.heap, slotsUsed := T.slotsUsed } : State).setVm T.vm, rfl, rfl, hT, X.admits, X.cas, X.clock, hfr, ?_, ?_, X.method', X.code, X.here, X.tail, State.WarmedH.refl _, X.limits, X.bytes, ?_⟩
  · simp only [State.hasRoom, Bool.and_eq_true, decide_eq_true_eq] at hroom ⊢
    rw [hli]
    obtain ⟨⟨⟨⟨h1, h2⟩, h3⟩, h4⟩, h5⟩ := hroom
    refine ⟨⟨⟨⟨h1, h2⟩, ?_⟩, ?_⟩, hbook⟩
    · have q3' : T.heap.size ≤ s.heap.size + cells := q3
      show T.heap.size + (R.cells - cells) ≤ _
      omega
    · show T.slotsUsed + (R.slots - slots) ≤ _
      omega
  · have h := X.hears
    cases below with
    | nil =>
      unfold State.hears at h ⊢
      show Option.any _ (T.vm.method? m) = true
      rw [X.method']
      rw [X.method] at h
      exact h
    | cons f fs =>
      cases f <;> unfold State.hears at h ⊢ <;> first
        | exact h
        | (simp only [hcode]; exact h)
        | (show Option.any _ (T.vm.method? m) = true
           rw [X.method']
           rw [X.method] at h
           exact h)
  · have h9 := (State.sameButNew.refl (({ s with heap := T.heap, slotsUsed := T.slotsUsed } : State).setVm T.vm) hth).setFrames T.frames hcur
    rw [← hT] at h9
    exact h9
theorem x_same {s' U : State} {k n : Nat} (hT : T = s'.setFrames T.frames) (h : s'.sameButNew ({ U with vm := s'.vm } : State) [] k n) (hW : s'.WarmedH U.vm) : T.sameButNew ({ U with vm := T.vm } : State) [] k n ∧ T.WarmedH U.vm := by
  generalize T.frames = F at hT
  subst hT
  obtain ⟨g1, g2, g3, g4, g5, g6⟩ := h
  refine ⟨⟨?_, g2, g3, g4, g5, g6⟩, hW⟩
  rw [State.setFrames_setFrames]
  exact g1
set_option maxHeartbeats 4000000 in
/-- 'throw new X("..")' -/
theorem x_thr {Ts : List Cond} {H : Heap} {B : Nat} {s0 : State} {cc : ByteArray} {own cls tx : String} {names : List String} {i1 i2 ic q9 pc : Nat} {lr : Array Slot} (hgood : GoodIn Ts Ts) (hexec : p.tables.exec = Jvm.exec) (hb : c.code = cc) (hml : lr.size = c.maxLocals) (hlk : meth.locks = false) (hown : s.vm.findClass own = some m.cls) (hts : ∀ w ∈ Ts, w.before args s = true)
    (hTr : ∀ e : Env, l.admits e → e.platform.stackTraces = false) (d0 : decode cc pc = .ok (.new i1, 3)) (d3 : decode cc (pc + 3) = .ok (.dup, 1)) (d4 : decode cc (pc + 4) = .ok (.ldc i2, 2)) (d6 : decode cc (pc + 6) = .ok (.invokespecial ic, 3)) (d9 : decode cc (pc + 9) = .ok (.athrow, 1))
    (hw1 : Cond.classLink own i1 cls ∈ Ts) (hw2 : Cond.instantiable cls 6 ∈ Ts) (hw3 : Cond.initialized cls ∈ Ts) (hZ : ∀ U : State, s.WarmedH U.vm → vk_R own i2 tx q9 U)
    (hat : ∀ U : State, s.WarmedH U.vm → (∀ q : Nat, q < B → U.heap[q]? = s0.heap[q]?) → ∀ a ∈ Bundle.ownAtoms own ic cls names, a.before args U = true) (hfit : Bundle.fit cls = true) (hfits : ∀ n ∈ names, Bundle.fit n = true) (hexc : c.exceptionTable.toList = [])
    (hfr : names.length + 3 < R.frames) (hlc : 1 + (13 * (names.length + 1) + 42) ≤ R.locals) (hcells : cells + 1 ≤ R.cells) (hslots : slots + 6 ≤ R.slots) (hH : ∀ q : Nat, q < B → H[q]? = s0.heap[q]?) (hT : T.heap = H) (X : Stand p l e R s m args below meth c T locs cells slots) :
    ∃ t : State, Steps p.tables e below (T.setTop (F0 m pc lr [])) t ∧ t.status = .running ∧ Ended t below (.threw H.size) ∧ s.WarmedH t.vm ∧ s.sameButNew ({ t with vm := s.vm } : State) locs (cells + 1) (slots + 6) ∧ (∃ ce : Cell, t.heap[H.size]? = some ce ∧ s.vm.findClass cls = some ce.cls ∧ ce.vm = .none) ∧ t.heap.size = H.size + 1 ∧ ∀ q : Nat, q < H.size → t.heap[q]? = H[q]? := by
  obtain ⟨s', hvm', hhp', hTf, X'⟩ := x_rebase X (by omega) (by omega)
  have hW : s.WarmedH s'.vm := by rw [hvm']; exact X.warmed
  have hts' : ∀ w ∈ Ts, w.before args s' = true := fun w hw => pay_in hts hgood w hw args s' hW
  have hown' : s'.vm.findClass own = some m.cls := by rw [hW.alike.findClass]; exact hown
  have hsH : s'.heap = H := hhp'.trans hT
  obtain ⟨vm1, cC, kC, f1, f2, f3, f4, X1, st1⟩ := X'.newCold hexec hown' (hts' _ hw1) (hts' _ hw2) (hts' _ hw3) (g := F0 m pc lr []) rfl (by rw [hb]; exact d0) (by show 0 + 1 ≤ R.cells - cells; omega) (by show 0 + 6 ≤ R.slots - slots; omega)
  have key : W p l e { frames := R.frames, cells := R.cells - cells, slots := R.slots - slots, locals := R.locals } s' m args below meth c (H.push { cls := cC, slots := kC.instanceTypes.map defaultValue, vm := .none }) [] (0 + 1) (0 + 6) (fun U => U.status = .running ∧ Ended U below (.threw H.size) ∧ s'.WarmedH U.vm ∧ s'.sameButNew ({ U with vm := s'.vm } : State) [] (0 + 1) (0 + 6) ∧ ∃ ce : Cell, U.heap[H.size]? = some ce ∧ s'.vm.findClass cls = some ce.cls ∧ ce.vm = .none) (F0 m (pc + 3) lr [.ref H.size]) := by
    refine lv_dup hexec hb d3 rfl ?_
    refine va_ldcS hexec hb hown' (hZ s' hW) d4 ?_
    intro T2 hT2 X2
    obtain ⟨U, a1, a2, a3, a4, a5, ce, a6, a7⟩ := X2.ctorThrowS hexec (hTr e X2.admits) (own := own) (cls := cls) (names := names) (ic := ic) hown' hfit hfits (hat s' hW (by rw [hsH]; exact hH)) (fun x hx => by cases hx) (a := H.size) (cX := cC) (kX := kC) f1 f2 (by rw [hT2, Array.getElem?_push_size]) (by rw [hsH]; exact Nat.le_refl _) (msg := .ref q9) rfl (g := F0 m (pc + 4 + 2) lr [.ref q9, .ref H.size, .ref H.size]) rfl hml rfl rfl (rest := []) rfl (by rw [hb]; exact d6) (by rw [hb]; exact d9) (by rw [hexc]; exact fun x hx => by cases hx) hfr (by show 2 * 0 + _ + _ ≤ _; simpa [Value.category] using hlc) hlk
    exact ⟨U, a1, a2, a3, a4, a5, ce, a6, a7.cls, a7.vm⟩
  have hX1 : T.heap.size = H.size := by rw [hT]
  obtain ⟨U, b1, b2, b3, b4, b5, ce, b6, b7, b8⟩ := key _ (by show T.heap.push _ = _; rw [hT]) X1
  obtain ⟨c1, c2⟩ := x_same hTf b5 b4
  have c3 := X.same.trans (c1.setVm s.vm)
  rw [List.append_nil] at c3
  have hlt := (Array.getElem?_eq_some_iff.mp b6).1
  have hle : U.heap.size ≤ s'.heap.size + (0 + 1) := b5.2.2.1
  refine ⟨U, st1 U (by rw [hT]; exact b1), b2, b3, State.WarmedH.trans X.warmed c2, c3, ⟨ce, b6, by rw [← hW.alike.findClass]; exact b7, b8⟩, by rw [hsH] at hle; omega, fun q hq => ?_⟩
  have hq' : s'.heap[q]? = some (H[q]'hq) := by rw [hsH]; exact Array.getElem?_eq_getElem hq
  have h9 : U.heap[q]? = some (H[q]'hq) := State.sameButNew.old_cell b5 hq'
  rw [h9, Array.getElem?_eq_getElem hq]
end X9
end
section
/-! RUNS of the pure machine, without counting steps -/
def gI (P : List xQ6) (k i : Nat) : Option (Instr × List Nat) := match P[k]? with
  | none => none
  | some M => match M.2.2.2.2.2[i]? with
    | none => none
    | some (_, _, ins, ax) => some (ins, ax)
def G (P : List xQ6) (Cs : List Value) (K d k i : Nat) (ls : xL) (st : List Value) (hp : xH) (o : xZ × xH) : Prop := ∃ n, ex P Cs K n d k i ls st hp = some o
/-- a step that needs no other method -/
def gS (P : List xQ6) (Cs : List Value) (K k i : Nat) (ls : xL) (st : List Value) (hp : xH) : Option (Nat × xL × List Value × xH) := match gI P k i with
  | none => none
  | some (ins, ax) => match x1 K ins ax i ls st hp with
    | some q => some q
    | none => match xT Cs ins ax st with
      | some st' => some (i + 1, ls, st', hp)
      | none => none
/-- an end -/
def gR (P : List xQ6) (Cs : List Value) (K k i : Nat) (ls : xL) (st : List Value) (hp : xH) : Option (Option Value) := match P[k]? with
  | none => none
  | some M => match M.2.2.2.2.2[i]? with
    | none => none
    | some (_, _, ins, ax) => match x1 K ins ax i ls st hp with
      | some _ => none
      | none => match xT Cs ins ax st with
        | some _ => none
        | none => xret M.2.2.2.1 ins st
/-- a call: the method, its locals, what stays -/
def gC (P : List xQ6) (Cs : List Value) (K k i : Nat) (ls : xL) (st : List Value) (hp : xH) : Option (Nat × xL × List Value) := match P[k]? with
  | none => none
  | some M => match M.2.2.2.2.2[i]? with
    | none => none
    | some (_, _, ins, ax) => match x1 K ins ax i ls st hp, xT Cs ins ax st, xret M.2.2.2.1 ins st, xsp K ins ax st hp with
      | none, none, none, none => match xcall ins ax st hp with
        | none => none
        | some (k1, as, r) => match P[k1]? with
          | none => none
          | some M1 => if (xent as M1.2.2.1).length = M1.2.2.1 then some (k1, xent as M1.2.2.1, r) else none
      | _, _, _, _ => none
/-- Object's constructor, copying -/
def gP (P : List xQ6) (Cs : List Value) (K k i : Nat) (ls : xL) (st : List Value) (hp : xH) : Option (List Value × xH) := match P[k]? with
  | none => none
  | some M => match M.2.2.2.2.2[i]? with
    | none => none
    | some (_, _, ins, ax) => match x1 K ins ax i ls st hp, xT Cs ins ax st, xret M.2.2.2.1 ins st with
      | none, none, none => xsp K ins ax st hp
      | _, _, _ => none
/-- a throw -/
def gT (P : List xQ6) (Cs : List Value) (K k i : Nat) (ls : xL) (st : List Value) (hp : xH) : Option Nat := match P[k]? with
  | none => none
  | some M => match M.2.2.2.2.2[i]? with
    | none => none
    | some (_, _, ins, ax) => match x1 K ins ax i ls st hp, xT Cs ins ax st, xret M.2.2.2.1 ins st, xsp K ins ax st hp, xcall ins ax st hp with
      | none, none, none, none, none => xthr ins ax
      | _, _, _, _, _ => none
def gH (P : List xQ6) (k i z : Nat) : Option Nat := match P[k]? with
  | none => none
  | some M => xhd M.2.2.2.2.1 i z
section GO
variable {P : List xQ6} {Cs : List Value} {K : Nat}
theorem ex_S {n d k i : Nat} {ls ls' : xL} {st st' : List Value} {hp hp' : xH} {i' : Nat} (h : gS P Cs K k i ls st hp = some (i', ls', st', hp')) : ex P Cs K (n + 1) d k i ls st hp = ex P Cs K n d k i' ls' st' hp' := by
  unfold gS gI at h
  rw [ex]
  cases hM : P[k]? with
  | none => simp [hM] at h
  | some M =>
    simp only [hM] at h ⊢
    cases hE : M.2.2.2.2.2[i]? with
    | none => simp [hE] at h
    | some E =>
      obtain ⟨pc, len, ins, ax⟩ := E
      simp only [hE] at h ⊢
      cases h1 : x1 K ins ax i ls st hp with
      | some q =>
        simp only [h1] at h
        cases h
        simp only [h1]
      | none =>
        simp only [h1] at h ⊢
        cases h2 : xT Cs ins ax st with
        | none => simp [h2] at h
        | some q =>
          simp only [h2] at h
          cases h
          simp only [h2]
theorem ex_R {n d k i : Nat} {ls : xL} {st : List Value} {hp : xH} {r : Option Value} (h : gR P Cs K k i ls st hp = some r) : ex P Cs K (n + 1) d k i ls st hp = some (.inl r, hp) := by
  unfold gR at h
  rw [ex]
  cases hM : P[k]? with
  | none => simp [hM] at h
  | some M =>
    simp only [hM] at h ⊢
    cases hE : M.2.2.2.2.2[i]? with
    | none => simp [hE] at h
    | some E =>
      obtain ⟨pc, len, ins, ax⟩ := E
      simp only [hE] at h ⊢
      cases h1 : x1 K ins ax i ls st hp with
      | some q => simp [h1] at h
      | none =>
        simp only [h1] at h ⊢
        cases h2 : xT Cs ins ax st with
        | some q => simp [h2] at h
        | none =>
          simp only [h2] at h ⊢
          simp only [h]
theorem ex_P {n d k i : Nat} {ls : xL} {st st' : List Value} {hp hp' : xH} (h : gP P Cs K k i ls st hp = some (st', hp')) : ex P Cs K (n + 1) (d + 1) k i ls st hp = ex P Cs K n (d + 1) k (i + 1) ls st' hp' := by
  unfold gP at h
  rw [ex]
  cases hM : P[k]? with
  | none => simp [hM] at h
  | some M =>
    simp only [hM] at h ⊢
    cases hE : M.2.2.2.2.2[i]? with
    | none => simp [hE] at h
    | some E =>
      obtain ⟨pc, len, ins, ax⟩ := E
      simp only [hE] at h ⊢
      split at h
      · rename_i h1 h2 h3
        simp only [h1, h2, h3, h]
      · cases h
theorem ex_T {n d k i z : Nat} {ls : xL} {hp : xH} (h : gT P Cs K k i ls [] hp = some z) (hd : 8 ≤ d) : ex P Cs K (n + 1) (d + 1) k i ls [] hp = some (.inr z, hp ++ [(80 + z, [])]) := by
  unfold gT at h
  rw [ex]
  cases hM : P[k]? with
  | none => simp [hM] at h
  | some M =>
    simp only [hM] at h ⊢
    cases hE : M.2.2.2.2.2[i]? with
    | none => simp [hE] at h
    | some E =>
      obtain ⟨pc, len, ins, ax⟩ := E
      simp only [hE] at h ⊢
      split at h
      · rename_i h1 h2 h3 h4 h5
        simp only [h1, h2, h3, h4, h5, h]
        rw [if_pos ⟨hd, rfl⟩]
      · cases h
theorem ex_C {n d k i k1 : Nat} {ls ls1 : xL} {st r : List Value} {hp hp1 : xH} {v : Option Value} (h : gC P Cs K k i ls st hp = some (k1, ls1, r)) (h1 : ex P Cs K n d k1 0 ls1 [] hp = some (.inl v, hp1)) : ex P Cs K (n + 1) (d + 1) k i ls st hp = ex P Cs K n (d + 1) k (i + 1) ls (v.toList ++ r) hp1 := by
  unfold gC at h
  rw [ex]
  cases hM : P[k]? with
  | none => simp [hM] at h
  | some M =>
    simp only [hM] at h ⊢
    cases hE : M.2.2.2.2.2[i]? with
    | none => simp [hE] at h
    | some E =>
      obtain ⟨pc, len, ins, ax⟩ := E
      simp only [hE] at h ⊢
      split at h
      · rename_i g1 g2 g3 g4
        split at h
        · cases h
        · rename_i k2 as r2 g5
          split at h
          · cases h
          · rename_i M1 g6
            split at h
            · rename_i g7
              cases h
              simp only [g1, g2, g3, g4, g5, g6, if_pos g7, h1]
            · cases h
      · cases h
theorem ex_H {n d k i k1 z t : Nat} {ls ls1 : xL} {st r : List Value} {hp hp1 : xH} (h : gC P Cs K k i ls st hp = some (k1, ls1, r)) (h1 : ex P Cs K n d k1 0 ls1 [] hp = some (.inr z, hp1)) (ht : gH P k i z = some t) : ex P Cs K (n + 1) (d + 1) k i ls st hp = ex P Cs K n (d + 1) k t ls [.ref (hp1.length - 1)] hp1 := by
  unfold gC at h
  unfold gH at ht
  rw [ex]
  cases hM : P[k]? with
  | none => simp [hM] at h
  | some M =>
    simp only [hM] at h ht ⊢
    cases hE : M.2.2.2.2.2[i]? with
    | none => simp [hE] at h
    | some E =>
      obtain ⟨pc, len, ins, ax⟩ := E
      simp only [hE] at h ⊢
      split at h
      · rename_i g1 g2 g3 g4
        split at h
        · cases h
        · rename_i k2 as r2 g5
          split at h
          · cases h
          · rename_i M1 g6
            split at h
            · rename_i g7
              cases h
              simp only [g1, g2, g3, g4, g5, g6, if_pos g7, h1, ht]
            · cases h
      · cases h
theorem ex_succ : ∀ (n d k i : Nat) (ls : xL) (st : List Value) (hp : xH) (o : xZ × xH), ex P Cs K n d k i ls st hp = some o → ex P Cs K (n + 1) d k i ls st hp = some o := by
  intro n
  induction n with
  | zero => intro d k i ls st hp o h; simp [ex] at h
  | succ n ih =>
    intro d k i ls st hp o h
    rw [ex] at h ⊢
    cases hM : P[k]? with
    | none => simp [hM] at h
    | some M =>
      simp only [hM] at h ⊢
      cases hE : M.2.2.2.2.2[i]? with
      | none => simp [hE] at h
      | some E =>
        obtain ⟨pc, len, ins, ax⟩ := E
        simp only [hE] at h ⊢
        cases h1 : x1 K ins ax i ls st hp with
        | some q =>
          obtain ⟨i', ls', st', hp'⟩ := q
          simp only [h1] at h ⊢
          exact ih _ _ _ _ _ _ _ h
        | none =>
          simp only [h1] at h ⊢
          cases h2 : xT Cs ins ax st with
          | some q =>
            simp only [h2] at h ⊢
            exact ih _ _ _ _ _ _ _ h
          | none =>
            simp only [h2] at h ⊢
            cases h3 : xret M.2.2.2.1 ins st with
            | some q =>
              simp only [h3] at h ⊢
              exact h
            | none =>
              simp only [h3] at h ⊢
              cases d with
              | zero => simp at h
              | succ d =>
                simp only at h ⊢
                cases h4 : xsp K ins ax st hp with
                | some q =>
                  obtain ⟨st', hp'⟩ := q
                  simp only [h4] at h ⊢
                  exact ih _ _ _ _ _ _ _ h
                | none =>
                  simp only [h4] at h ⊢
                  cases h5 : xcall ins ax st hp with
                  | none =>
                    simp only [h5] at h ⊢
                    exact h
                  | some q =>
                    obtain ⟨k1, as, r⟩ := q
                    simp only [h5] at h ⊢
                    cases h6 : P[k1]? with
                    | none => simp [h6] at h
                    | some M1 =>
                      simp only [h6] at h ⊢
                      split at h
                      · rename_i h7
                        rw [if_pos h7]
                        cases h8 : ex P Cs K n d k1 0 (xent as M1.2.2.1) [] hp with
                        | none => simp [h8] at h
                        | some q =>
                          rw [ih _ _ _ _ _ _ _ h8]
                          obtain ⟨z, hp1⟩ := q
                          simp only [h8] at h
                          cases z with
                          | inl v =>
                            simp only at h ⊢
                            exact ih _ _ _ _ _ _ _ h
                          | inr z =>
                            simp only at h ⊢
                            cases h9 : xhd M.2.2.2.2.1 i z with
                            | none => simp [h9] at h
                            | some t =>
                              simp only [h9] at h ⊢
                              exact ih _ _ _ _ _ _ _ h
                      · cases h
theorem ex_le {n m d k i : Nat} {ls : xL} {st : List Value} {hp : xH} {o : xZ × xH} (h : ex P Cs K n d k i ls st hp = some o) (hm : n ≤ m) : ex P Cs K m d k i ls st hp = some o := by
  obtain ⟨j, rfl⟩ := Nat.exists_eq_add_of_le hm
  induction j with
  | zero => exact h
  | succ j ih => exact ex_succ _ _ _ _ _ _ _ _ (ih (Nat.le_add_right _ _))
theorem G.s {d k i : Nat} {ls ls' : xL} {st st' : List Value} {hp hp' : xH} {i' : Nat} {o : xZ × xH} (h : gS P Cs K k i ls st hp = some (i', ls', st', hp')) (g : G P Cs K d k i' ls' st' hp' o) : G P Cs K d k i ls st hp o := by
  obtain ⟨n, g⟩ := g
  exact ⟨n + 1, (ex_S h).trans g⟩
theorem G.r {d k i : Nat} {ls : xL} {st : List Value} {hp : xH} {r : Option Value} (h : gR P Cs K k i ls st hp = some r) : G P Cs K d k i ls st hp (.inl r, hp) := ⟨1, ex_R h⟩
theorem G.p {d k i : Nat} {ls : xL} {st st' : List Value} {hp hp' : xH} {o : xZ × xH} (h : gP P Cs K k i ls st hp = some (st', hp')) (g : G P Cs K (d + 1) k (i + 1) ls st' hp' o) : G P Cs K (d + 1) k i ls st hp o := by
  obtain ⟨n, g⟩ := g
  exact ⟨n + 1, (ex_P h).trans g⟩
theorem G.t {d k i z : Nat} {ls : xL} {hp : xH} (h : gT P Cs K k i ls [] hp = some z) (hd : 8 ≤ d) : G P Cs K (d + 1) k i ls [] hp (.inr z, hp ++ [(80 + z, [])]) := ⟨1, ex_T h hd⟩
theorem G.c {d k i k1 : Nat} {ls ls1 : xL} {st r : List Value} {hp hp1 : xH} {v : Option Value} {o : xZ × xH} (h : gC P Cs K k i ls st hp = some (k1, ls1, r)) (h1 : G P Cs K d k1 0 ls1 [] hp (.inl v, hp1)) (g : G P Cs K (d + 1) k (i + 1) ls (v.toList ++ r) hp1 o) : G P Cs K (d + 1) k i ls st hp o := by
  obtain ⟨n1, h1⟩ := h1
  obtain ⟨n2, g⟩ := g
  exact ⟨(n1 + n2) + 1, (ex_C h (ex_le h1 (Nat.le_add_right _ _))).trans (ex_le g (Nat.le_add_left _ _))⟩
theorem G.h {d k i k1 z t : Nat} {ls ls1 : xL} {st r : List Value} {hp hp1 : xH} {o : xZ × xH} (h : gC P Cs K k i ls st hp = some (k1, ls1, r)) (h1 : G P Cs K d k1 0 ls1 [] hp (.inr z, hp1)) (ht : gH P k i z = some t) (g : G P Cs K (d + 1) k t ls [.ref (hp1.length - 1)] hp1 o) : G P Cs K (d + 1) k i ls st hp o := by
  obtain ⟨n1, h1⟩ := h1
  obtain ⟨n2, g⟩ := g
  exact ⟨(n1 + n2) + 1, (ex_H h (ex_le h1 (Nat.le_add_right _ _)) ht).trans (ex_le g (Nat.le_add_left _ _))⟩
end GO
end
section
section XK
variable {e : Env} {U : State} {f : JFrame} {a : Addr}
/-- a catch type, resolved now or before -/
theorem x_cold {Q : Handler → Pre} {E : CtlPost} {d : Bool} {acts : List Action} {x : ExceptionTableEntry} {t : List ExceptionTableEntry} {cI : ClassId} {cell : Cell} {vm' : Vm} (hx : covers x f.pc = true) (h0 : x.catchType ≠ 0)
    (hg : (Jvm.resolveClass f.method.cls x.catchType).Gives e.toSetting U.vm (.ok cI) vm') (hsz : vm'.classes.size ≤ U.vm.classes.size) (hcell : U.heap[a]? = some cell) (hobj : ∀ k, cell.vm ≠ .statics k) (hk : ∃ k, vm'.classes[cell.cls]? = some k) (hc : ∃ k, vm'.classes[cI]? = some k) :
    wp (findHandler.go f a (x :: t)) Q E e d acts U ↔ if vm'.assignable cell.cls cI = true then Q (.found x.handlerPc) d acts (U.setVm vm') else wp (findHandler.go f a t) Q E e d acts (U.setVm vm') := by
  obtain ⟨ha, ht⟩ := hg.op (op := VmOp.resolveClass f.method.cls x.catchType) rfl
  simp only [covers] at hx
  cases hfit : vm'.assignable cell.cls cI <;>
    simp [findHandler.go, hx, h0, ha, ht, hsz, hcell, hobj, hk, hc, hfit, VmOp.dirties, VmOp.acts]
/-- the search through a method's table: the first row that covers the place and whose kind was thrown -/
theorem x_find {args : Array Value} {s : State} {own : String} {cell : Cell} {i z t : Nat} {F : Nat → Nat} (hpl : e.platform.magicAccessors = ({} : Platform).magicAccessors) (hown : s.vm.findClass own = some f.method.cls) (hcell : U.heap[a]? = some cell) (hobj : ∀ k, cell.vm ≠ .statics k) (hk : ∃ k, s.vm.classes[cell.cls]? = some k) (hAs : ∀ (y : Nat) (C : String) (cI : ClassId), xen y = some C → s.vm.findClass C = some cI → (∃ k, s.vm.classes[cI]? = some k) ∧ s.vm.assignable cell.cls cI = decide (y = z)) :
    ∀ (es : List ExceptionTableEntry) (hs : List (Nat × Nat × Nat × Nat × Nat)), es.map (fun h => (h.startPc, h.endPc, h.handlerPc, h.catchType)) = hs.map (fun h => (F h.1, F h.2.1, F h.2.2.1, h.2.2.2.2)) →
      (∀ h ∈ hs, ((F h.1 ≤ f.pc ∧ f.pc < F h.2.1) ↔ (h.1 ≤ i ∧ i < h.2.1)) ∧ h.2.2.2.2 ≠ 0 ∧ ∃ C, xen h.2.2.2.1 = some C ∧ (Cond.classLink own h.2.2.2.2 C).before args s = true) → xhd hs i z = some t → ∀ vm : Vm, s.WarmedH vm →
      ∃ vm' : Vm, s.WarmedH vm' ∧ ∀ (Q : Handler → Pre) (E : CtlPost) (d : Bool) (acts : List Action), wp (findHandler.go f a es) Q E e d acts (U.setVm vm) ↔ Q (.found (F t)) d acts (U.setVm vm') := by
  intro es
  induction es with
  | nil =>
    intro hs hmap hh hx
    cases hs with
    | nil => simp [xhd] at hx
    | cons h hs => simp at hmap
  | cons x es ih =>
    intro hs hmap hh hx vm hW
    cases hs with
    | nil => simp at hmap
    | cons h hs =>
      simp only [List.map_cons, List.cons.injEq] at hmap
      obtain ⟨hx1, hmap⟩ := hmap
      obtain ⟨h1, h2, h3, h4⟩ : x.startPc = F h.1 ∧ x.endPc = F h.2.1 ∧ x.handlerPc = F h.2.2.1 ∧ x.catchType = h.2.2.2.2 := by
        simp only [Prod.mk.injEq] at hx1
        exact hx1
      obtain ⟨g1, g2, C, g3, g4⟩ := hh h List.mem_cons_self
      have hh' := fun y hy => hh y (List.mem_cons_of_mem _ hy)
      by_cases hcov : h.1 ≤ i ∧ i < h.2.1
      · have hcv : covers x f.pc = true := by
          have := g1.mpr hcov
          simp only [covers, h1, h2, Bool.and_eq_true, decide_eq_true_eq]
          exact this
        obtain ⟨cI, hfc, hcl⟩ := Cond.classLink_spec hown g4 e.platform hpl
        obtain ⟨hg₁, hwarm₁, hready₁⟩ := State.classEntry (e := e) hW hcl
        obtain ⟨⟨kI, hkI⟩, hasg⟩ := hAs _ _ _ g3 hfc
        obtain ⟨kc, hkc⟩ := hk
        obtain ⟨k1, hk1, -⟩ := hwarm₁.alike.2.2 _ _ hkc
        obtain ⟨k2, hk2, -⟩ := hwarm₁.alike.2.2 _ _ hkI
        have hsz : (vm.noted f.method.cls h.2.2.2.2 (.cls cI)).classes.size ≤ vm.classes.size := by
          have e1 := hwarm₁.alike.2.1
          have e2 := hW.alike.2.1
          omega
        have step := fun (Q : Handler → Pre) (E : CtlPost) (d : Bool) (acts : List Action) => x_cold (Q := Q) (E := E) (d := d) (acts := acts) (U := U.setVm vm) (f := f) (a := a) (x := x) (t := es) (cI := cI) (cell := cell) (vm' := vm.noted f.method.cls h.2.2.2.2 (.cls cI)) (e := e) hcv (by rw [h4]; exact g2) (by rw [h4]; exact hg₁) hsz hcell hobj ⟨k1, hk1⟩ ⟨k2, hk2⟩
        rw [hwarm₁.alike.assignable, hasg] at step
        by_cases hz : h.2.2.2.1 = z
        · refine ⟨_, hwarm₁, fun Q E d acts => ?_⟩
          rw [step, if_pos (by simp [hz])]
          have ht : h.2.2.1 = t := by
            obtain ⟨a0, b0, t0, y0, c0⟩ := h
            simp only [xhd] at hx
            rw [if_pos ⟨hcov.1, hcov.2, hz⟩] at hx
            exact Option.some.inj hx
          rw [h3, ht]
          rfl
        · have hx' : xhd hs i z = some t := by
            obtain ⟨a0, b0, t0, y0, c0⟩ := h
            simp only [xhd] at hx
            rw [if_neg (fun q => hz q.2.2)] at hx
            exact hx
          obtain ⟨vm', w1, w2⟩ := ih hs hmap hh' hx' _ hwarm₁
          refine ⟨vm', w1, fun Q E d acts => ?_⟩
          rw [step, if_neg (by simp [hz])]
          exact w2 Q E d acts
      · have hcv : covers x f.pc = false := by
          have := fun q => hcov (g1.mp q)
          simp only [covers, h1, h2]
          simpa using this
        have hx' : xhd hs i z = some t := by
          obtain ⟨a0, b0, t0, y0, c0⟩ := h
          simp only [xhd] at hx
          rw [if_neg (fun q => hcov ⟨q.1, q.2.1⟩)] at hx
          exact hx
        obtain ⟨vm', w1, w2⟩ := ih hs hmap hh' hx' vm hW
        refine ⟨vm', w1, fun Q E d acts => ?_⟩
        rw [W.findHandler_go_skip hcv]
        exact w2 Q E d acts
/-- into a handler, the tables warmer -/
theorem x_caught {tb : Tables} {s target : State} {g : JFrame} {c : Code} {below : List Frame} {vm' : Vm} {pc : Nat} (h : At s g.method c below) (hfind : ∀ (Q : Handler → Pre) (E : CtlPost) (d : Bool) (acts : List Action), wp (findHandler g a) Q E e d acts ((s.setTop g).pushFrame (.throwing a)) ↔ Q (.found pc) d acts (((s.setTop g).pushFrame (.throwing a)).setVm vm'))
    (hrest : Steps tb e below ((s.setVm vm').setTop { g with pc := pc, stack := [.ref a] }) target) : Steps tb e below ((s.setTop g).pushFrame (.throwing a)) target := by
  obtain ⟨hgo, hw⟩ := h.throwing a
  refine Steps.head hgo hw ?_
  have hcatch : ∀ {s : State} {r : List Frame}, (∀ (Q : Handler → Pre) (E : CtlPost) (d : Bool) (acts : List Action), wp (findHandler g a) Q E e d acts s ↔ Q (.found pc) d acts (s.setVm vm')) → (stepThrowing e s a (.java g :: r)).Is ((s.setVm vm').setFrames (.java { g with pc := pc, stack := [.ref a] } :: r)) [] := by
    intro s r hfind
    simp only [stepThrowing, searchFrame, vmDo]
    generalize hr : Sem.go _ e false [] s = res
    obtain ⟨as, rfl, ha⟩ := Sem.eq_ok_of hr (a := Handler.found pc) (s' := s.setVm vm') (acts' := []) (by simp [hfind _ _ _ _])
    exact ⟨rfl, ha⟩
  rw [stepThread_throwing (frames_entered h.top _), (hcatch (s := (s.setTop g).pushFrame (.throwing a)) hfind).1]
  obtain ⟨g₀, hg⟩ := Option.isSome_iff_exists.mp h.top
  obtain ⟨r, hr⟩ := State.topJava?_eq_some.mp hg
  have hr2 : (s.setVm vm').frames = .java g₀ :: r := hr
  rw [State.setTop_of_frames _ hr2] at hrest
  have hsw : ∀ (x : State) (F : List Frame) (v : Vm), (x.setFrames F).setVm v = (x.setVm v).setFrames F := fun _ _ _ => rfl
  rw [State.pushFrame, State.setTop_of_frames _ hr, hr, hsw, hsw, State.setFrames_setFrames, State.setFrames_setFrames]
  exact hrest
end XK
end
section
section XL
variable {l : Launch} {cl : List vw_C} {kc : Nat → ClassId} {sl : Nat → Nat → Nat} {s0 : State} {B K : Nat} {pre : Nat → Nat} {Ts Ns : List Cond} {X : State → Prop} {P : List xQ6} {Cs : List Value}
/-- a virtual call whose method throws: the note lies over the caller's frame -/
theorem x_callT {p : Program} {e : Env} {R : Room} {s : State} {m : MethodId} {args : Array Value} {below : List Frame} {meth : Method} {c : Code} {T : State} {locs : List Loc} {cells slots : Nat} {y : MethodName} {bytes cc : ByteArray} {maxL nL mc ms n index zz : Nat} {ret : Option FieldType} {ws : List Cond} {rm : Room} {Pc : Array Value → State → Prop} {Qc : Array Value → State → Outcome → State → Prop} {free : Addr → Prop} {own C : String} {b : Addr} {As rest : List Value} {g : JFrame}
    (S : CallFix p m c cc nL s args Ts own) (hM : xMet (.inr zz) l y ws rm Pc Qc mc ms free) (cw : CallW R s args own C index y bytes maxL ret ws rm mc ms n) (hp : PreV s T.heap C b Pc As)
    (hg : g.method = m) (hn : As.length = n) (hsize : g.locals.size = nL) (hstack : g.stack = As.reverse ++ .ref b :: rest) (hW : 2 * g.monitorRoom + (rest.map fun v => v.category).sum ≤ 8) (hdg : decode cc g.pc = .ok (.invokevirtual index, 3)) (hf : cells + mc ≤ R.cells ∧ slots + ms ≤ R.slots) (X : Stand p l e R s m args below meth c T locs cells slots) :
    ∃ (x : Addr) (st₀ t T' : State) (L : List Loc), Stand p l e R s m args below meth c T' (locs ++ L) (cells + mc) (slots + ms) ∧ (∀ q ∈ L, free q.base) ∧ T'.heap = t.heap ∧ Qc (Value.ref b :: As).toArray st₀ (.threw x) t ∧
      ∀ target, Steps p.tables e below ((T'.setTop { g with stack := rest }).pushFrame (.throwing x)) target → Steps p.tables e below (T.setTop g) target := by
  obtain ⟨⟨hrc, hrs, hfr, hlo, hws, hcw, hcode, hini, hy, hlen, hl⟩, hin, hse⟩ := cw
  obtain ⟨hx, hb, hml, ho, -⟩ := S
  obtain ⟨hblind, ⟨cellB, hcB, hoB, hclB⟩, hPc⟩ := hp
  obtain ⟨mk, methM, hnamed, hmethM, hstM, habM⟩ := Cond.instanceMethod_spec hin
  obtain ⟨methM', cM, hmethM', hcM, -, hlM, -, -, -, hsigM⟩ := Cond.code_spec hnamed hcode
  cases hmethM.symm.trans hmethM'
  obtain ⟨c2, r2, m2, q1, q2, q3, q4, kP, hkP, hkPi⟩ := Cond.selects_spec hse
  cases hclB.symm.trans q1
  cases (State.methodFound?_of_named hnamed hy).symm.trans q2
  cases hnamed.symm.trans q3
  have hselP : selectMethod e.platform s.vm cellB.cls mk = .method mk := by rw [Launch.admits_selectMethod X.admits]; exact q4
  obtain ⟨vm₁, X₁, hstep₁⟩ := X.invokevirtual hx ho hl hnamed hmethM hstM hkP hkPi hy (a := b) (cell := cellB) hcB
    (fun z h => by rw [h] at hoB; cases hoB) hselP hmethM habM hkP hkPi (g := g) hg (argsL := As) (rest := rest) (hn.trans (hlen _ hsigM)) hstack (by rw [hb]; exact hdg)
  have hn₁ := X₁.named hnamed
  have hini₁ : (Cond.initialized y.cls).before (Value.ref b :: As).toArray (T.setVm vm₁) = true := word_at X₁.warmed (Or.inl (by first | rfl | simp [Cond.onTables, Cond.keeps, Cond.steady])) hini
  have hcode₁ : (Cond.code y bytes maxL ret).before (Value.ref b :: As).toArray (T.setVm vm₁) = true := hws _ hcw _ _ X₁.warmed
  obtain ⟨methY, cY, hmY, hcY, -, hlY, -⟩ := Cond.code_spec hn₁ hcode₁
  obtain ⟨kY, hkY, -⟩ := className_of_methodNamed hn₁
  have hinitY : kY.init = .initialized := Cond.initialized_spec (findClass_of_methodNamed hn₁) hkY hini₁
  have h : At (T.setVm vm₁) g.method c below := by rw [hg]; exact X₁.here
  have hdg' : decode c.code g.pc = .ok (.invokevirtual index, 3) := by rw [hb]; exact hdg
  have happ : (headSpec ws rm).appliesLoose y e.platform ((T.setVm vm₁).calling { g with stack := rest } mk (Value.ref b :: As).toArray) = true :=
    Spec.appliesLoose_calling (g := { g with stack := rest }) h hdg' hn₁ hkY hinitY
      (X₁.room_calling (g := { g with stack := rest }) (R' := (headSpec ws rm).room) (hsize.trans hml.symm) hmY hcY hfr (by rw [hlY]; show _ + _ + rm.locals ≤ R.locals; have := hW; show 2 * g.monitorRoom + (rest.map fun v => v.category).sum + (maxL + 11) + rm.locals ≤ R.locals; omega) (by show cells + rm.cells ≤ R.cells; omega) (by show slots + rm.slots ≤ R.slots; omega)) (atoms_intro fun w hw => hws w hw _ _ X₁.warmed)
  obtain ⟨mid, hmid⟩ := h.above
  have hfr9 : ((T.setVm vm₁).setTop { g with stack := rest }).frames = (.java { g with stack := rest } :: mid) ++ below := by rw [State.frames_setTop' _ h.top, hmid]; rfl
  obtain ⟨o, s₂, hsteps, hrun, hend, hq⟩ := Steps.callFree hM p X₁.admits X₁.cas X₁.clock (acts := []) hfr9 happ (hblind _ _ _ _ (hPc (T.setVm vm₁) rfl X₁.warmed)) trivial
  obtain ⟨hqc, L, ⟨⟨x, rfl⟩, hW₂, hsame⟩, hL⟩ := hq
  rw [State.frames_setTop' _ h.top, X₁.tail] at hend
  obtain ⟨T', X', hW', hsm, ht⟩ := X₁.outOfThrown (g := { g with stack := rest }) hg (mk := mk) (a := (Value.ref b :: As).toArray) hend hW₂ hsame
  refine ⟨x, (T.setVm vm₁).calling { g with stack := rest } mk (Value.ref b :: As).toArray, s₂, T', L, X', hL, ?_, hqc, fun target htgt => hstep₁ _ fun acts => ?_⟩
  · rw [ht]
    simp [State.pushFrame, State.setFrames, State.setTop, State.modifyTopJava]
  · rw [doInvoke_state]
    refine hsteps.trans ?_
    rw [ht]
    exact htgt
end XL
end
section
section XM
variable {l : Launch} {cl : List vw_C} {kc : Nat → ClassId} {sl : Nat → Nat → Nat} {s0 : State} {B K : Nat} {pre : Nat → Nat} {Ts Ns : List Cond} {X : State → Prop} {P : List xQ6} {Cs : List Value}
/-- what is known of the kinds that are thrown -/
def xEx (kc : Nat → ClassId) (s0 : State) : Prop := ∀ (y z : Nat) (C D : String), xen y = some C → xen z = some D → s0.vm.findClass C = some (kc (80 + y)) ∧ (∃ k : Class, s0.vm.classes[kc (80 + y)]? = some k) ∧ s0.vm.assignable (kc (80 + z)) (kc (80 + y)) = decide (y = z)
theorem xen_lt {z : Nat} {C : String} (h : xen z = some C) : z < 3 := by
  match z, h with
  | 0, _ => decide
  | 1, _ => decide
  | 2, _ => decide
theorem xhd_mem {i z t : Nat} : ∀ {hs : List (Nat × Nat × Nat × Nat × Nat)}, xhd hs i z = some t → ∃ h ∈ hs, h.1 ≤ i ∧ i < h.2.1 ∧ h.2.2.2.1 = z := by
  intro hs
  induction hs with
  | nil => intro h; simp [xhd] at h
  | cons a hs ih =>
    intro h
    obtain ⟨a0, b0, t0, y0, c0⟩ := a
    simp only [xhd] at h
    split at h
    · rename_i hq
      exact ⟨_, List.mem_cons_self, hq.1, hq.2.1, hq.2.2⟩
    · obtain ⟨q, h1, h2⟩ := ih h
      exact ⟨q, List.mem_cons_of_mem _ h1, h2⟩
set_option maxHeartbeats 16000000 in
theorem x_hC (hall : xall Ts Ns cl P) (hXW : ∀ s U : State, s.WarmedH U.vm → X s → X U) (hX : ∀ u U : State, u.vm = U.vm → X u → X U) (hNm : ∀ (ci : Nat) (q : String), xnm cl ci = some q → s0.vm.findClass q = some (kc ci)) (hEx : xEx kc s0) : xHC l cl kc sl s0 B K pre Ts X P := by
  intro k k1 M M1 i pc len ins ax ls st as r hp hp1 hp' z1 t d z hM hM1 hE hc hen y1 y2 y3 y4 hth hgo hhd hnext
  intro M' hM' hls p e R s m args below meth c H locs cells slots mc ms lr hctx hR hL hlo hmc hms hRc hRs hfr hloc
  cases Option.some.inj (hM.symm.trans hM')
  obtain ⟨hexec, hb, hml, hret, hlk, hnm, hown, hts, hal, hXs, hs0, hexc⟩ := id hctx
  obtain ⟨hmk, hcd⟩ := hall.1 k M hM
  obtain ⟨hdec, hlen0, -, -, -, hclk, hhs⟩ := hcd i _ hE
  have hlen9 : len = xLen ins := x_len hlen0 (xcall_fl hc).1
  clear hlen0
  subst hlen9
  have hk0 : 0 < k1 := x_k0 hall hM hE hc
  obtain ⟨hpl, hcode, hini, hmh, hmx, -⟩ := (hall.1 k1 M1 hM1).1 hk0
  obtain ⟨h9, hm9, hc1, hc2, hz9⟩ := xhd_mem hhd
  obtain ⟨-, -, ⟨Cz, hCz, -⟩, hvirt0⟩ := hhs h9 hm9
  have hvirt := hvirt0 ⟨hc1, hc2⟩
  clear hvirt0
  rw [hz9] at hCz
  have hz3 := xen_lt hCz
  have hgood : GoodIn Ts (xcw M1 :: Ts) := fun w hw => by
    rcases List.mem_cons.mp hw with rfl | hw
    · exact hall.2.2 _ hcode
    · exact hall.2.2 _ hw
  have hblind : FrameBlind (xPc cl kc sl s0 B K pre X hp as) := fun a U g mk q => by
    obtain ⟨q1, q2, q3, q4⟩ := q
    exact ⟨q1, q2, q3, hX U _ rfl q4⟩
  have hmet := x_met hall hM1 hk0 hen hgo
  have hstab := pay_in hts hgood
  rw [show xpc M i = pc by unfold xpc; rw [hE]]
  unfold xcall at hc
  split at hc
  · split at hc
    · cases hc; exact absurd hvirt (by simp [xvirt])
    · cases hc
  · split at hc
    · split at hc
      · cases hc; exact absurd hvirt (by simp [xvirt])
      · cases hc
    · cases hc
  · rename_i idx k' n ci rs
    split at hc
    · rename_i a hsta
      split at hc
      · rename_i c1 vs ha
        split at hc
        · rename_i hq
          obtain ⟨hci, hq⟩ := hq
          subst hci
          cases hc
          obtain ⟨-, hlt9, q, hqc, hrest⟩ := hclk
          obtain ⟨hhd1, hsel, hins, -, hnp⟩ := hrest M1 hM1
          have hlink : Cond.methodLink M.1.cls idx M1.1 ∈ Ts := hvirt M1 hM1
          have hcwc : xcw M1 = Cond.code M1.1 M1.2.1 M1.2.2.1 M1.2.2.2.1 := by unfold xcw; rw [hhd1]
          rw [hcwc] at hmet hcode hstab
          have hnp2 : ∀ sig, parseMethodDescriptor M1.1.desc = some sig → n = sig.parameters.length := fun sig h => by rw [h] at hnp; exact (Option.some.inj hnp).symm
          have hlt := (List.getElem?_eq_some_iff.mp hsta).1
          have hlen : (((st.take n).reverse).map (tv (xr B K pre))).length = n := by simp; omega
          have hstk : (F0 m pc lr (st.map (tv (xr B K pre)))).stack = (((st.take n).reverse).map (tv (xr B K pre))).reverse ++ .ref (xr B K pre a) :: (st.drop (n + 1)).map (tv (xr B K pre)) := by
            show st.map (tv (xr B K pre)) = _
            rw [List.map_reverse, List.reverse_reverse]
            conv => lhs; rw [x_split hsta]
            rw [List.map_append]
            rfl
          obtain ⟨cell, g1, g2⟩ := xC_get (hR.2.2.1 a _ ha) (by omega)
          intro T hT XS
          have hrecv : ∃ cellB : Cell, T.heap[xr B K pre a]? = some cellB ∧ cellB.vm.isStatics = false ∧ s.vm.findClass q = some cellB.cls := ⟨cell, by rw [hT]; exact g1, g2.2.2.1, by rw [show cell.cls = kc c1 from g2.1.1 (by show c1 < 100; omega), hal.findClass]; exact hNm _ _ hqc⟩
          have hpre9 : ∀ U : State, U.heap = T.heap → s.WarmedH U.vm → xPc cl kc sl s0 B K pre X hp (.ref a :: (st.take n).reverse) ((Value.ref a :: (st.take n).reverse).map (tv (xr B K pre))).toArray U := fun U hU hW => ⟨rfl, by rw [hU, hT]; exact hR, hal.trans hW.alike, hXW s U hW hXs⟩
          obtain ⟨x, st₀, t9, T', L, X', hLf, hheap, ⟨hR1, hx9⟩, hgo9⟩ := x_callT (n := n) (C := q) (b := xr B K pre a) (g := F0 m pc lr (st.map (tv (xr B K pre)))) (rest := (st.drop (n + 1)).map (tv (xr B K pre))) ⟨hexec, hb, hml, hown, hts⟩ hmet ⟨⟨rfl, rfl, by show d + 1 ≤ R.frames; omega, by show 8 + (M1.2.2.1 + 11) + 64 * d ≤ R.locals; omega, hstab, List.mem_cons_self, hts _ hcode, hts _ hini, hmh, hnp2, hts _ hlink⟩, hts _ hins, hts _ hsel⟩ ⟨hblind, hrecv, hpre9⟩ rfl hlen (hL.1.trans hls) hstk (lv_room (by rw [tv_sum]; exact hq)) hdec ⟨by omega, by omega⟩ XS
          have hx : x = xr B K pre (hp1.length - 1) := by cases hx9; rfl
          obtain ⟨hp0, hp0e⟩ := hth
          have hlast : hp1[hp1.length - 1]? = some (80 + z1, []) := by rw [hp0e]; simp
          obtain ⟨cellX, u1, u2⟩ := xC_get (hR1.2.2.1 _ _ hlast) (by omega)
          have hclsX : cellX.cls = kc (80 + z1) := u2.1.1 (by show 80 + z1 < 100; omega)
          have hpl9 : e.platform.magicAccessors = ({} : Platform).magicAccessors := by rw [XS.admits.platform]
          obtain ⟨vm', hW', hfind⟩ := x_find (e := e) (U := (T'.setTop { F0 m pc lr (st.map (tv (xr B K pre))) with stack := (st.drop (n + 1)).map (tv (xr B K pre)) }).pushFrame (.throwing x)) (f := { F0 m pc lr (st.map (tv (xr B K pre))) with stack := (st.drop (n + 1)).map (tv (xr B K pre)) }) (a := x) (args := args) (s := s) (own := M.1.cls) (cell := cellX) (i := i) (z := z1) (t := t) (F := xpc M) hpl9 hown (by rw [Stand.throwing_heap, hheap, hx]; exact u1) (fun k9 h8 => by have := u2.2.2.1; rw [h8] at this; cases this)
            (by
              rw [hclsX]
              obtain ⟨-, ⟨k9, h8⟩, -⟩ := hEx z1 z1 _ _ hCz hCz
              obtain ⟨k', h7, -⟩ := hal.2.2 _ _ h8
              exact ⟨k', h7⟩)
            (fun y C cI hy hfc => by
              obtain ⟨w1, ⟨k9, w2⟩, w3⟩ := hEx y z1 C Cz hy hCz
              rw [hal.findClass, w1] at hfc
              cases hfc
              obtain ⟨k', h7, -⟩ := hal.2.2 _ _ w2
              exact ⟨⟨k', h7⟩, by rw [hclsX, hal.assignable]; exact w3⟩)
            c.exceptionTable.toList M.2.2.2.2.1 hexc (fun h hh => by
              obtain ⟨v1, v2, ⟨C, v3, v4⟩, -⟩ := hhs h hh
              exact ⟨v1, v2, C, v3, hts _ v4⟩) hhd T'.vm X'.warmed
          have hnx := hnext M hM hls p e R s m args below meth c t9.heap (locs ++ L) (cells + (hp1.length - hp.length)) (slots + (xsz hp1 - xsz hp)) mc ms lr hctx hR1 hL (fun q hq => by
            rcases List.mem_append.mp hq with h8 | h8
            · exact hlo q h8
            · exact hLf q h8) (by omega) (by omega) hRc hRs hfr hloc
          obtain ⟨t2, a1, b1⟩ := hnx (T'.setVm vm') hheap (X'.noted hW')
          refine ⟨t2, hgo9 t2 (x_caught (vm' := vm') (pc := xpc M t) X'.here (fun Q E d' acts => ?_) ?_), b1⟩
          · rw [W.findHandler_eq (by rw [Stand.throwing_vm]; exact X'.method') X'.code]
            exact hfind Q E d' acts
          · rw [hx]
            exact a1
        · cases hc
      · cases hc
    · cases hc
  · cases hc
end XM
end
section
section XN
variable {l : Launch} {cl : List vw_C} {kc : Nat → ClassId} {sl : Nat → Nat → Nat} {s0 : State} {B K : Nat} {pre : Nat → Nat} {Ts Ns As : List Cond} {X : State → Prop} {P : List xQ6} {Cs : List Value} {Ss : List (String × Nat × String × Nat)}
/-- what stands at a throw -/
def xthk (Ts As : List Cond) (Ss : List (String × Nat × String × Nat)) (M : xQ6) (i z : Nat) : Prop := ∃ (i1 i2 ic j : Nat) (tx cls : String) (names : List String), M.2.2.2.2.1 = [] ∧ decode M.2.1 (xpc M i) = .ok (.new i1, 3) ∧ decode M.2.1 (xpc M i + 3) = .ok (.dup, 1) ∧ decode M.2.1 (xpc M i + 4) = .ok (.ldc i2, 2) ∧ decode M.2.1 (xpc M i + 6) = .ok (.invokespecial ic, 3) ∧ decode M.2.1 (xpc M i + 9) = .ok (.athrow, 1) ∧
  xen z = some cls ∧ names.length ≤ 3 ∧ Cond.classLink M.1.cls i1 cls ∈ Ts ∧ Cond.instantiable cls 6 ∈ Ts ∧ Cond.initialized cls ∈ Ts ∧ (M.1.cls, i2, tx, j) ∈ Ss ∧ (∀ a ∈ Bundle.ownAtoms M.1.cls ic cls names, a ∈ Ts ∨ a ∈ As) ∧ Bundle.fit cls = true ∧ ∀ n ∈ names, Bundle.fit n = true
set_option maxHeartbeats 8000000 in
theorem x_hR (hall : xall Ts Ns cl P) (hXW : ∀ s U : State, s.WarmedH U.vm → X s → X U) (hTr : ∀ e : Env, l.admits e → e.platform.stackTraces = false) (hXS : ∀ s : State, X s → ∀ q ∈ Ss, vk_R q.1 q.2.1 q.2.2.1 (pre q.2.2.2) s) (hXA : ∀ (args : Array Value) (s : State), X s → (∀ q : Nat, q < B → s.heap[q]? = s0.heap[q]?) → ∀ a ∈ As, a.before args s = true) (hEx : xEx kc s0)
    (hthk : ∀ (k : Nat) (M : xQ6) (i pc len : Nat) (ins : Instr) (ax : List Nat) (z : Nat), P[k]? = some M → M.2.2.2.2.2[i]? = some (pc, len, ins, ax) → xthr ins ax = some z → xthk Ts As Ss M i z) : xHR l cl kc sl s0 B K pre Ts X P := by
  intro k M i pc len ins ax ls hp z hM hE hth d hd M' hM' hls p e R s m args below meth c H locs cells slots mc ms lr hctx hR hL hlo hmc hms hRc hRs hfr hloc
  cases Option.some.inj (hM.symm.trans hM')
  obtain ⟨hexec, hb, hml, hret, hlk, hnm, hown, hts, hal, hXs, hs0, hexc⟩ := id hctx
  obtain ⟨i1, i2, ic, j, tx, cls, names, hhd, d0, d3, d4, d6, d9, hcls, hnl, hw1, hw2, hw3, hSs, hat, hf1, hf2⟩ := hthk k M i pc len ins ax z hM hE hth
  have hz3 := xen_lt hcls
  have hlen : (hp ++ [((80 + z, []) : xO)]).length = hp.length + 1 := by simp
  have hsz : xsz (hp ++ [((80 + z, []) : xO)]) = xsz hp + 6 := by rw [xsz_push]; unfold xwt; rw [if_pos ⟨by show 80 ≤ 80 + z; omega, by show 80 + z < 100; omega⟩]
  rw [hlen] at hmc
  rw [hsz] at hms
  have hexc0 : c.exceptionTable.toList = [] := by
    have : c.exceptionTable.toList.map (fun h => (h.startPc, h.endPc, h.handlerPc, h.catchType)) = [] := by rw [hexc]; unfold xrh; rw [hhd]; rfl
    exact List.map_eq_nil_iff.mp this
  intro T hT XS
  obtain ⟨t, a1, a2, a3, a4, a5, ⟨ce, a6, a7, a8⟩, a9, a10⟩ := x_thr (H := H) (B := B) (s0 := s0) (own := M.1.cls) (cls := cls) (tx := tx) (names := names) (i1 := i1) (i2 := i2) (ic := ic) (q9 := pre j) (pc := xpc M i) (lr := lr) hall.2.2 hexec hb ((hL.1.trans hls).trans hml.symm) hlk hown hts hTr d0 d3 d4 d6 d9 hw1 hw2 hw3 (fun U hW => hXS U (hXW s U hW hXs) _ hSs)
    (fun U hW hq a ha => by
      rcases hat a ha with h | h
      · exact pay_in hts hall.2.2 a h args U hW
      · exact hXA args U (hXW s U hW hXs) hq a h) hf1 hf2 hexc0 (by omega) (by omega) (by omega) (by omega) hR.2.2.2 hT XS
  have hcl9 : ce.cls = kc (80 + z) := by
    rw [hal.findClass, (hEx z z cls cls hcls hcls).1] at a7
    exact (Option.some.inj a7).symm
  refine ⟨t, a1, .threw H.size, a2, a3, ⟨xRp_push hR a6 a9 a10 ⟨⟨fun _ => hcl9, fun g => absurd g (by show ¬ 100 ≤ 80 + z; omega), fun g => absurd g (by show ¬ 110 ≤ 80 + z; omega)⟩, vm_nu a8, vm_ns a8, fun _ => a8, fun j v hj => by simp at hj, fun g => absurd g (by show ¬ 100 ≤ 80 + z; omega), fun _ q hq => Nat.zero_le _⟩, ?_⟩, locs, ⟨⟨_, rfl⟩, a4, a5.mono (by omega) (by omega)⟩, hlo⟩
  show Outcome.threw H.size = .threw (xr B K pre ((hp ++ [((80 + z, []) : xO)]).length - 1))
  rw [hlen, Nat.add_sub_cancel, xr_len hR]
end XN
end
section
section XP
variable {cl : List vw_C} {kc : Nat → ClassId} {sl : Nat → Nat → Nat} {s0 : State} {B K : Nat} {pre : Nat → Nat}
theorem fold_set (at9 : Nat) : ∀ (vals : List Value) (i : Nat) (vs : List Value), at9 + i + vals.length ≤ vs.length → (vals.zipIdx i).foldl (fun l p => l.set (at9 + p.2) p.1) vs = vs.take (at9 + i) ++ vals ++ vs.drop (at9 + i + vals.length) := by
  intro vals
  induction vals with
  | nil => intro i vs h; simp
  | cons v vals ih =>
    intro i vs h
    rw [List.length_cons] at h
    rw [List.zipIdx_cons, List.foldl_cons, ih (i + 1) (vs.set (at9 + i) v) (by rw [List.length_set]; omega)]
    refine List.ext_getElem? fun j => ?_
    rw [List.length_cons, show at9 + (i + 1) = at9 + i + 1 by omega, show at9 + i + 1 + vals.length = at9 + i + (vals.length + 1) by omega]
    simp only [List.getElem?_append, List.length_append, List.length_take, List.length_set, List.length_cons]
    have e1 : min (at9 + i + 1) vs.length = at9 + i + 1 := by omega
    have e2 : min (at9 + i) vs.length = at9 + i := by omega
    rw [e1, e2]
    by_cases c1 : j < at9 + i
    · rw [if_pos (by omega), if_pos (by omega), if_pos (by omega), if_pos c1, List.getElem?_take_of_lt (by omega), List.getElem?_take_of_lt c1, List.getElem?_set_ne (by omega)]
    · by_cases c2 : j = at9 + i
      · subst c2
        rw [if_pos (by omega), if_pos (by omega), if_pos (by omega), if_neg (by omega), List.getElem?_take_of_lt (by omega), List.getElem?_set_self (by omega), Nat.sub_self]
        rfl
      · by_cases c3 : j < at9 + i + 1 + vals.length
        · rw [if_pos c3, if_neg (by omega), if_pos (by omega), if_neg c1, show j - (at9 + i) = (j - (at9 + i + 1)) + 1 by omega, List.getElem?_cons_succ]
        · rw [if_neg c3, if_neg (by omega), List.getElem?_drop, List.getElem?_drop, List.getElem?_set_ne (by omega)]
          congr 1
          omega
theorem xCk_run {ρ : Nat → Nat} {own : Prop} {c at9 : Nat} (hc : 100 ≤ c) : ∀ (ps : List (Value × Nat)) (cell : Cell) (vs : List Value), xCk cl kc sl s0 ρ own cell (c, vs) → (∀ p ∈ ps, at9 + p.2 < vs.length) → xCk cl kc sl s0 ρ own (cell.storePairs at9 (ps.map fun p => (tv ρ p.1, p.2))) (c, ps.foldl (fun l p => l.set (at9 + p.2) p.1) vs) := by
  intro ps
  induction ps with
  | nil => intro cell vs h _; exact h
  | cons p ps ih =>
    intro cell vs h hl
    have h1 := xCk_arr (v := p.1) h hc (hl p List.mem_cons_self)
    exact ih _ _ h1 (fun q hq => by rw [List.length_set]; exact hl q (List.mem_cons_of_mem _ hq))
end XP
section XQ
variable {l : Launch} {cl : List vw_C} {kc : Nat → ClassId} {sl : Nat → Nat → Nat} {s0 : State} {B K : Nat} {pre : Nat → Nat} {Ts Ns : List Cond} {X : State → Prop} {P : List xQ6}
set_option maxHeartbeats 8000000 in
theorem x_hA (hall : xall Ts Ns cl P) (hpre : ∀ i, i + 1 < K → pre i < B) : xHA l cl kc sl s0 B K pre Ts X P := by
  intro k M i pc len ins ax st st' hp hp' hM hE hs p e R s m args below meth c H locs cells slots Q lr ls hctx hR hL hls hlo hfr hlc hRc9 hRs9 kk
  obtain ⟨hexec, hb, hml, hret, hlk, hnm, hown, hts, hal, hXs, hs0, hexc⟩ := hctx
  obtain ⟨hdec, hlen0, -, -, -, hclk, -⟩ := (hall.1 k M hM).2 i _ hE
  have hlen9 : len = xLen ins := x_len hlen0 (xsp_fl hs).1
  clear hlen0
  subst hlen9
  unfold xsp at hs
  split at hs
  · rename_i idx a r
    split at hs
    · rename_i hsum
      cases hs
      obtain ⟨w1, w2, w3⟩ := hclk
      refine W.objInit hexec hb hown (hts _ w1) (hts _ w2) (hts _ w3) rfl ((hL.1.trans hls).trans hml.symm) rfl hdec hfr ?_ (kk H locs hR hlo)
      show 2 * 0 + ((st'.map (tv (xr B K pre))).map fun v => v.category).sum + 12 ≤ R.locals
      rw [tv_sum]
      omega
    · cases hs
  · rename_i idx n dp dd sp q r
    split at hs
    · rename_i cq vq cd vd hq hd
      split at hs
      · rename_i hcond
        obtain ⟨hsum, hKd, hne, rfl, rfl, h1, h2, h3, h4, h5, h6⟩ := hcond
        cases hs
        obtain ⟨w1, w2, w3, w4⟩ := hclk
        obtain ⟨cS, u1, u2⟩ := xC_get (hR.2.2.1 q _ hq) (by decide)
        obtain ⟨cD, v1, v2⟩ := xC_get (hR.2.2.1 dd _ hd) (by decide)
        obtain ⟨szS, -⟩ := u2.2.2.2.2.2.1 (by decide : 100 ≤ 100)
        obtain ⟨szD, -⟩ := v2.2.2.2.2.2.1 (by decide : 100 ≤ 100)
        have szS : vq.length ≤ cS.slots.size := szS
        have szD : vd.length ≤ cD.slots.size := szD
        obtain ⟨oS, kS, hkS, cmS, hkkS⟩ := State.isArrayOf_alike hal (u2.1.2.1 (by decide : 100 ≤ 100))
        obtain ⟨oD, kD, hkD, cmD, hkkD⟩ := State.isArrayOf_alike hal (v2.1.2.1 (by decide : 100 ≤ 100))
        have nn : ∀ z : Int32, ¬ z < 0 → z.toInt = (z.toNatClampNeg : Int) := by
          intro z hz
          have hz0 : (0 : Int) ≤ z.toInt := by
            have := Int32.not_lt.mp hz
            simpa using Int32.le_iff_toInt_le.mp this
          show z.toInt = ((z.toInt.toNat : Nat) : Int)
          omega
        have el : ∀ j, j < n.toNatClampNeg → cS.slots.getD (sp.toNatClampNeg + j) .null = tv (xr B K pre) (vq.getD (sp.toNatClampNeg + j) .null) := by
          intro j hj
          have hlt : sp.toNatClampNeg + j < vq.length := by omega
          have h9 : vq[sp.toNatClampNeg + j]? = some (vq[sp.toNatClampNeg + j]'hlt) := List.getElem?_eq_getElem hlt
          rw [Array.getD_eq_getD_getElem?, (x_slot u2 (by decide) h9).1, List.getD_eq_getElem?_getD, h9]
          rfl
        have hfit9 : ∀ j, j < n.toNatClampNeg → ∃ x : Int32, vq.getD (sp.toNatClampNeg + j) .null = .int x := by
          intro j hj
          have hlt : sp.toNatClampNeg + j < vq.length := by omega
          have hmem : vq.getD (sp.toNatClampNeg + j) .null ∈ (vq.drop sp.toNatClampNeg).take n.toNatClampNeg := by
            rw [List.getD_eq_getElem?_getD, List.getElem?_eq_getElem hlt]
            refine List.mem_of_getElem? (i := j) ?_
            rw [List.getElem?_take_of_lt hj, List.getElem?_drop, List.getElem?_eq_getElem hlt]
            rfl
          exact xfit0 (List.all_eq_true.mp h6 _ hmem)
        intro T hT XS
        obtain ⟨vm', X', step⟩ := XS.arraycopy hexec hown (hts _ w1) (hts _ w2) (hts _ w3) (hts _ w4) (src := xr B K pre q) (dst := xr B K pre dd) (cs := cS) (cd := cD) (srcPos := sp) (destPos := dp) (n := n) (by rw [hT]; exact u1) (by rw [hT]; exact v1)
          oS oD u2.2.1 v2.2.1 hkS hkD hkkS hkkD rfl h1 h2 h3 (by rw [nn sp h1, nn n h3]; omega) (by rw [nn dp h2, nn n h3]; omega)
          (fun vm₁ _ j hj => by
            obtain ⟨x, hx⟩ := hfit9 j hj
            rw [el j hj, hx]
            exact ⟨rfl, trivial⟩)
          (g := F0 m pc lr ((Value.int n :: .int dp :: .ref dd :: .int sp :: .ref q :: st').map (tv (xr B K pre)))) rfl ((hL.1.trans hls).trans hml.symm) (rest := st'.map (tv (xr B K pre))) rfl (by rw [hb]; exact hdec) hfr
          (by
            show 2 * 0 + ((st'.map (tv (xr B K pre))).map fun v => v.category).sum + (nativeFrameWords "java/lang/System" "arraycopy" 5 + 11) ≤ R.locals
            rw [tv_sum]
            have : nativeFrameWords "java/lang/System" "arraycopy" 5 ≤ 40 := by decide +kernel
            omega)
        have hstr : cS.stretch sp.toNatClampNeg n.toNatClampNeg = ((vq.drop sp.toNatClampNeg).take n.toNatClampNeg).map (tv (xr B K pre)) := by
          unfold Cell.stretch
          refine List.ext_getElem? fun j => ?_
          rw [List.getElem?_map, List.getElem?_map]
          by_cases hj : j < n.toNatClampNeg
          · have hlt : sp.toNatClampNeg + j < vq.length := by omega
            rw [List.getElem?_range hj, List.getElem?_take_of_lt hj, List.getElem?_drop, List.getElem?_eq_getElem hlt]
            show some (cS.slots.getD (sp.toNatClampNeg + j) .null) = _
            rw [el j hj, List.getD_eq_getElem?_getD, List.getElem?_eq_getElem hlt]
            rfl
          · rw [List.getElem?_eq_none (by simp; omega), List.getElem?_eq_none (by simp; omega)]
            rfl
        have hlv : ((vq.drop sp.toNatClampNeg).take n.toNatClampNeg).length = n.toNatClampNeg := by simp; omega
        have hrun : xCk cl kc sl s0 (xr B K pre) (K ≤ dd) (copied cS cD sp dp n) (100, vd.take dp.toNatClampNeg ++ (vq.drop sp.toNatClampNeg).take n.toNatClampNeg ++ vd.drop (dp.toNatClampNeg + n.toNatClampNeg)) := by
          have h9 := xCk_run (at9 := dp.toNatClampNeg) (Nat.le_refl 100) (((vq.drop sp.toNatClampNeg).take n.toNatClampNeg).zipIdx 0) cD vd v2 (fun p hp => by
            have := List.snd_lt_of_mem_zipIdx hp
            rw [hlv] at this
            omega)
          rw [fold_set dp.toNatClampNeg _ 0 vd (by rw [hlv]; omega), hlv] at h9
          have e9 : copied cS cD sp dp n = cD.storePairs dp.toNatClampNeg ((((vq.drop sp.toNatClampNeg).take n.toNatClampNeg).zipIdx 0).map fun p => (tv (xr B K pre) p.1, p.2)) := by
            show cD.storeRun dp.toNatClampNeg (cS.stretch sp.toNatClampNeg n.toNatClampNeg) = _
            rw [hstr, Cell.storeRun, List.zipIdx_map]
            rfl
          rw [e9]
          exact h9
        have hl9 : xr B K pre dd < H.size := (Array.getElem?_eq_some_iff.mp v1).1
        have hheap : ((T.setVm vm').setCell (xr B K pre dd) (copied cS cD sp dp n)).heap = H.setIfInBounds (xr B K pre dd) (copied cS cD sp dp n) := by rw [← hT]; rfl
        obtain ⟨t, a1, b1⟩ := kk (H.setIfInBounds (xr B K pre dd) (copied cS cD sp dp n)) _ (xRp_set hpre hR hd hKd (by simp) (fun q' hq' => by simp [Array.getElem?_setIfInBounds, Ne.symm hq']) (Or.inr ⟨_, by simp [Array.getElem?_setIfInBounds, hl9], hrun⟩)) (fun q' hq' => by
          rcases List.mem_append.mp hq' with h8 | h8
          · exact hlo q' h8
          · obtain ⟨z, -, hz⟩ := List.mem_map.mp h8
            rw [← hz]
            exact xr_B hKd) _ hheap X'
        exact ⟨t, step t a1, b1⟩
      · cases hs
    · cases hs
  · rename_i idx y x r
    split at hs
    · rename_i hsum
      cases hs
      obtain ⟨w1, w2, w3, w4⟩ := hclk
      refine va_mmax hexec hb (hml.trans (hls.symm.trans hL.1.symm)) hown (hts _ w1) (hts _ w2) (hts _ w3) (hts _ w4) hfr ?_ hRc9 hRs9 hdec (kk H locs hR hlo)
      rw [tv_sum]
      omega
    · cases hs
  · rename_i idx y x r
    split at hs
    · rename_i hsum
      cases hs
      obtain ⟨w1, w2, w3, w4⟩ := hclk
      refine va_mmin hexec hb (hml.trans (hls.symm.trans hL.1.symm)) hown (hts _ w1) (hts _ w2) (hts _ w3) (hts _ w4) hfr ?_ hRc9 hRs9 hdec (kk H locs hR hlo)
      rw [tv_sum]
      omega
    · cases hs
  · cases hs
end XQ
end
section
section XR
variable {l : Launch} {cl : List vw_C} {kc : Nat → ClassId} {sl : Nat → Nat → Nat} {s0 : State} {B K : Nat} {pre : Nat → Nat} {Ts Ns : List Cond} {X : State → Prop} {P : List xQ6} {Cs : List Value} {Ss : List (String × Nat × String × Nat)} {Zs : List (String × String × String × Nat)}
/-- what stands at a constant -/
def xcst (Ts : List Cond) (Cs : List Value) (Ss : List (String × Nat × String × Nat)) (Zs : List (String × String × String × Nat)) (K : Nat) (own : String) (ins : Instr) (ax : List Nat) : Prop := match ins, ax with
  | .ldc idx, c :: _ => (∃ v : Int32, Cs[c]? = some (.int v) ∧ Cond.constant own idx v ∈ Ts) ∨ ∃ (tx : String) (j : Nat), Cs[c]? = some (.ref j) ∧ j < K ∧ (own, idx, tx, j) ∈ Ss
  | .ldc_w idx, c :: _ => ∃ v : Int32, Cs[c]? = some (.int v) ∧ Cond.constant own idx v ∈ Ts
  | .ldc2_w idx, c :: _ => ∃ v : Int64, Cs[c]? = some (.long v) ∧ Cond.constantLong own idx v ∈ Ts
  | .getstatic idx, c :: _ => ∃ C n d : String, Cond.fieldLink own idx C n d ∈ Ts ∧ (C, n, d, c) ∈ Zs
  | _, _ => True
set_option maxHeartbeats 4000000 in
theorem x_hT (hall : xall Ts Ns cl P) (hXS : ∀ s : State, X s → ∀ q ∈ Ss, vk_R q.1 q.2.1 q.2.2.1 (pre q.2.2.2) s) (hZ : ∀ q ∈ Zs, ∀ v : Value, Cs[q.2.2.2]? = some v → va_Z q.1 q.2.1 q.2.2.1 (tv (xr B K pre) v) (fun a => B ≤ a) s0 s0.heap)
    (hcs : ∀ (k : Nat) (M : xQ6) (i pc len : Nat) (ins : Instr) (ax : List Nat), P[k]? = some M → M.2.2.2.2.2[i]? = some (pc, len, ins, ax) → xcst Ts Cs Ss Zs K M.1.cls ins ax) : xHT l cl kc sl s0 B K pre Ts X P Cs := by
  intro k M i pc len ins ax st st' hM hE h p e R s m args below meth c H locs cells slots Q lr hp hctx hR kk
  obtain ⟨hexec, hb, hml, hret, hlk, hnm, hown, hts, hal, hXs, hs0, hexc⟩ := hctx
  obtain ⟨hdec, hlen0, -, -, -, -, -⟩ := (hall.1 k M hM).2 i _ hE
  have hlen9 : len = xLen ins := x_len hlen0 (xT_fl h).1
  clear hlen0
  subst hlen9
  have hc := hcs k M i pc _ ins ax hM hE
  unfold xT at h
  split at h
  · rename_i idx cc rs
    obtain ⟨v, h1, h2⟩ := Option.map_eq_some_iff.mp h
    cases h2
    rcases hc with ⟨w, q1, q2⟩ | ⟨tx, j, q1, q2, q3⟩
    · cases h1.symm.trans q1
      exact lv_ldc hexec hb hown (hts _ q2) hdec kk
    · cases h1.symm.trans q1
      have e9 : tv (xr B K pre) (.ref j) = .ref (pre j) := by
        show Value.ref (xr B K pre j) = _
        unfold xr
        rw [if_pos q2]
      have kk' : W p l e R s m args below meth c H locs cells slots Q (F0 m (pc + 2) lr (tv (xr B K pre) (.ref j) :: st.map (tv (xr B K pre)))) := kk
      rw [e9] at kk'
      exact va_ldcS hexec hb hown (hXS s hXs _ q3) hdec kk'
  · rename_i idx cc rs
    obtain ⟨v, h1, h2⟩ := Option.map_eq_some_iff.mp h
    cases h2
    obtain ⟨w, q1, q2⟩ := hc
    cases h1.symm.trans q1
    exact lv_ldcw hexec hb hown (hts _ q2) hdec kk
  · rename_i idx cc rs
    obtain ⟨v, h1, h2⟩ := Option.map_eq_some_iff.mp h
    cases h2
    obtain ⟨w, q1, q2⟩ := hc
    cases h1.symm.trans q1
    exact lv_ldc2 hexec hb hown (hts _ q2) hdec kk
  · rename_i idx cc rs
    obtain ⟨v, h1, h2⟩ := Option.map_eq_some_iff.mp h
    cases h2
    obtain ⟨C, n, d, q1, q2⟩ := hc
    obtain ⟨cf, kf, fi, f, a, cell, z1, z2, z3, z4, z5, z6, z7, z8⟩ := va_Z.moved hal (hZ _ q2 v h1)
    refine W.gets hexec hb hown (hts _ q1) z1 z2 z3 z4 (v := tv (xr B K pre) v) (by rw [hR.2.2.2 a (Nat.not_le.mp z8)]; exact z5) (fun q => by rw [q] at z6; cases z6) z7 rfl hdec kk
  · cases h
end XR
end
section
/-! from the law's start: all that is said of a state is said of the start and of warmer tables -/
def isSt (w : Cond) : Bool := match w with
  | .methodLinkNest _ _ _ _ => true
  | .arrayOver (.object _) => true
  | .castable _ _ => true
  | .declares _ => true
  | _ => false
theorem nw_warm {w : Cond} {s U : State} (hw : isSt w = true) (hW : s.WarmedH U.vm) (h : va_Nw w s) : va_Nw w U := by
  unfold isSt at hw
  split at hw
  · exact va_Nw.warmM hW h
  · exact va_AO.moved hW.alike h
  · exact va_Nw.warmC hW h
  · exact va_Nw.warmD hW h
  · cases hw
theorem ls_at {C n d : String} {s0 U : State} {A args : Array Value} (hW : s0.WarmedH U.vm) (hq : ∀ q : Nat, q < s0.heap.size → U.heap[q]? = s0.heap[q]?) (h : (Cond.laysStatic C n d).before A s0 = true) : (Cond.laysStatic C n d).before args U = true := by
  obtain ⟨c, k, i, f, a, cell, hc, hi, hst, ha, hcell, hs, hcls, hlt, hty⟩ := Cond.laysStatic_spec h
  obtain ⟨k', hi', hek⟩ := State.fieldFound?_setVm hW.alike hi
  exact Cond.laysStatic_of (s := U) (by rw [hW.alike.findClass]; exact hc) hi' hst (by rw [hek]; exact ha) (by rw [hq a (Array.getElem?_eq_some_iff.mp hcell).1]; exact hcell) hs hcls hlt (by rw [hek]; exact hty)
theorem xStr_warm {sl : Nat → Nat → Nat} {s U : State} (hW : s.WarmedH U.vm) (h : xStr sl s) : xStr sl U := by
  intro k hk
  obtain ⟨cf, kf, fi, f, h1, h2, h3⟩ := h k hk
  obtain ⟨k', hi', -⟩ := State.fieldFound?_setVm hW.alike h1
  exact ⟨cf, k', fi, f, hi', h2, h3⟩
/-- a static's value where the heap's old part is as it was -/
theorem st_at {C n d : String} {v : Value} {s0 U : State} {args : Array Value} {A : Nat → Prop} (hW : s0.WarmedH U.vm) (hA : ∀ q : Nat, ¬ A q → U.heap[q]? = s0.heap[q]?) (h : va_Z C n d v A s0 s0.heap) (o : Option Outcome) : (Term.static C n d).eval args U o [] U = some v := by
  obtain ⟨cf, kf, fi, f, a, cell, z1, z2, z3, z4, z5, z6, z7, z8⟩ := va_Z.moved hW.alike h
  have z5' : U.heap[a]? = some cell := by rw [hA a z8]; exact z5
  simp [Term.eval, State.fieldNamed?, z1, z2, z4, z5', z6, z7]
section XU
variable {l : Launch} {cl : List vw_C} {kc : Nat → ClassId} {sl : Nat → Nat → Nat} {s0 : State} {K : Nat} {pre : Nat → Nat} {Ts : List Cond} {P : List xQ6}
theorem lw_of {p : Program} {e : Env} {R : Room} {s : State} {m : MethodId} {b : Nat} {below : List Frame} {meth : Method} {c : Code} {H : Heap} {mc ms : Nat} {hp' : xH} {g : JFrame}
    (h : W p l e R s m #[Value.ref b] below meth c H [] 0 0 (xMQ (.inl (some (.int 1))) below (xQc cl kc sl s s.heap.size K pre (.inl (some (.int 1))) hp') #[Value.ref b] s mc ms (fun q => s.heap.size ≤ q)) g) :
    W p l e R s m #[Value.ref b] below meth c H [] 0 0 (fun t => ∃ o, t.status = .running ∧ Ended t below o ∧ o = .returned (some (.int 1)) ∧ Framed s o t [] mc ms) g := by
  intro T hT X
  obtain ⟨t, a1, o, a2, a3, ⟨-, a4⟩, L, ⟨b1, b2, b3⟩, a6⟩ := h T hT X
  refine ⟨t, a1, o, a2, a3, a4, b1, b2, b3.weaken (fun x hx hlt => ?_) (Nat.le_refl _) (Nat.le_refl _)⟩
  have h9 : s.heap.size ≤ x.base := a6 x hx
  exact absurd hlt (Nat.not_lt.mpr h9)
end XU
section XV
variable {l : Launch} {cl : List vw_C} {kc : Nat → ClassId} {sl : Nat → Nat → Nat} {s : State} {K : Nat} {pre : Nat → Nat} {Ts Ns As : List Cond} {P : List xQ6} {Cs : List Value} {Ss : List (String × Nat × String × Nat)} {Zs : List (String × String × String × Nat)}
set_option maxHeartbeats 4000000 in
/-- THE LAW'S RUN in the pure machine is the machine's, from its start -/
theorem x_law (hall : xall Ts Ns cl P) (hNs : ∀ w ∈ Ns, isSt w = true ∧ va_Nw w s) (hG0 : ∀ (ci : Nat) (q : vw_C), cl[ci]? = some q → u_Kn s q.1 q.2.1 q.2.2 (kc ci) (sl ci)) (hNm : ∀ (ci : Nat) (q : String), xnm cl ci = some q → s.vm.findClass q = some (kc ci)) (hStr : xStr sl s) (hpre : ∀ i, i + 1 < K → pre i < s.heap.size)
    (hSs : ∀ q ∈ Ss, vk_R q.1 q.2.1 q.2.2.1 (pre q.2.2.2) s) (hZ : ∀ q ∈ Zs, ∀ v : Value, Cs[q.2.2.2]? = some v → va_Z q.1 q.2.1 q.2.2.1 (tv (xr s.heap.size K pre) v) (fun a => s.heap.size ≤ a) s s.heap)
    (hcs : ∀ (k : Nat) (M : xQ6) (i pc len : Nat) (ins : Instr) (ax : List Nat), P[k]? = some M → M.2.2.2.2.2[i]? = some (pc, len, ins, ax) → xcst Ts Cs Ss Zs K M.1.cls ins ax)
    (hthk : ∀ (k : Nat) (M : xQ6) (i pc len : Nat) (ins : Instr) (ax : List Nat) (z : Nat), P[k]? = some M → M.2.2.2.2.2[i]? = some (pc, len, ins, ax) → xthr ins ax = some z → xthk Ts As Ss M i z)
    (hEx : xEx kc s) (hTr : ∀ e : Env, l.admits e → e.platform.stackTraces = false) (hAs : ∀ (args : Array Value) (U : State), s.WarmedH U.vm → (∀ q : Nat, q < s.heap.size → U.heap[q]? = s.heap[q]?) → ∀ a ∈ As, a.before args U = true)
    {p : Program} {e : Env} {R : Room} {m : MethodId} {b : Nat} {below : List Frame} {meth : Method} {c : Code} {M : xQ6} (hM : P[0]? = some M) (hexec : p.tables.exec = Jvm.exec) (hb : c.code = M.2.1) (hml : c.maxLocals = M.2.2.1) (hret : meth.sig.returnType = M.2.2.2.1) (hlk : meth.locks = false) (hnm : meth.name = M.1.name) (hown : s.vm.findClass M.1.cls = some m.cls) (hts : ∀ w ∈ Ts, w.before #[Value.ref b] s = true) (hexc : c.exceptionTable.toList = []) (hMh : M.2.2.2.2.1 = []) (hM0 : xpc M 0 = 0)
    {hp0 hp' : xH} (hR : xRp cl kc sl s s.heap.size K pre hp0 s.heap) (h0 : 0 < K) (hpb : pre 0 = b) {n d mx : Nat} (hmx : M.2.2.1 = mx) (hmx1 : 1 ≤ mx) (hex : ex P Cs K n d 0 0 (some (.ref 0) :: List.replicate (mx - 1) none) [] hp0 = some (.inl (some (.int 1)), hp')) {mc ms : Nat} (hmc : hp'.length - hp0.length ≤ mc) (hms : xsz hp' - xsz hp0 ≤ ms) (hRc : mc ≤ R.cells) (hRs : ms ≤ R.slots) (hfr : d ≤ R.frames) (hlc : 64 * d ≤ R.locals) :
    W p l e R s m #[Value.ref b] below meth c s.heap [] 0 0 (fun t => ∃ o, t.status = .running ∧ Ended t below o ∧ o = .returned (some (.int 1)) ∧ Framed s o t [] mc ms) (entryFrame m ([Value.ref b] : List Value).toArray mx) := by
  have hXN : ∀ U : State, s.WarmedH U.vm → ∀ w ∈ Ns, va_Nw w U := fun U hW w hw => nw_warm (hNs w hw).1 hW (hNs w hw).2
  have hXW : ∀ u U : State, u.WarmedH U.vm → s.WarmedH u.vm → s.WarmedH U.vm := fun u U h1 h2 => State.WarmedH.trans h2 h1
  have hXX : ∀ u U : State, u.vm = U.vm → s.WarmedH u.vm → s.WarmedH U.vm := fun u U h1 h2 => h1 ▸ h2
  have hXS : ∀ U : State, s.WarmedH U.vm → ∀ q ∈ Ss, vk_R q.1 q.2.1 q.2.2.1 (pre q.2.2.2) U := fun U hW q hq => vk_R.warm hW (hSs q hq)
  have hmain := x_main (l := l) (s0 := s) (B := s.heap.size) (pre := pre) (X := fun U => s.WarmedH U.vm) (Cs := Cs) (kc := kc) (sl := sl) hall hXN hXW hXX hG0 hNm (fun U hW => xStr_warm hW hStr) hpre
    (x_hT hall hXS hZ hcs) (x_hA hall hpre) (x_hR (As := As) (Ss := Ss) hall hXW hTr hXS (fun args U hW hq => hAs args U hW hq) hEx hthk) (x_hC hall hXW hXX hNm hEx) n d 0 0 _ [] hp0 _ hp' hex
  rw [lg_entry_eq]
  have hlr : xLH (xr s.heap.size K pre) ((lg_sl ([Value.ref b] : List Value) ++ List.replicate (mx - (lg_sl ([Value.ref b] : List Value)).length) Slot.unset).toArray) (some (.ref 0) :: List.replicate (mx - 1) none) := by
    have h9 := xent_ok (ρ := xr s.heap.size K pre) (as := [.ref 0]) (mx := mx) (by simp [xent, Value.category]; omega)
    have e1 : ([Value.ref 0] : List Value).map (tv (xr s.heap.size K pre)) = [Value.ref b] := by
      show [Value.ref (xr s.heap.size K pre 0)] = _
      unfold xr
      rw [if_pos h0, hpb]
    rw [e1] at h9
    exact h9
  have hW9 := hmain M hM (by rw [hmx]; simp; omega) p e R s m #[Value.ref b] below meth c s.heap [] 0 0 mc ms _ ⟨hexec, hb, hml, hret, hlk, hnm, hown, hts, Vm.Alike.refl _, State.WarmedH.refl s, fun _ _ => rfl, by rw [hexc]; unfold xrh; rw [hMh]; rfl⟩ hR hlr (fun q hq => by cases hq) (by omega) (by omega) hRc hRs hfr hlc
  rw [hM0] at hW9
  exact lw_of hW9
end XV
end
section
/-! the heap before the law's first step: the script, the texts with their bytes, one object of which nothing is known -/
def sCo (t : String × Nat × List Int32) : List Cond := [.exactly (.string t.1 t.2.1) "java/lang/String", .eq (.field (.string t.1 t.2.1) "java/lang/String" "coder" "B") (.int 0), .arrayOf (.field (.string t.1 t.2.1) "java/lang/String" "value" "[B") .byte, .eq (.length (.field (.string t.1 t.2.1) "java/lang/String" "value" "[B")) (.int (Int32.ofNat t.2.2.length))] ++ (List.range t.2.2.length).map fun j => .eq (.elem (.field (.string t.1 t.2.1) "java/lang/String" "value" "[B") (.int (Int32.ofNat j))) (.int (t.2.2.getD j 0))
theorem sCo_ok {args : Array Value} {s : State} {t : String × Nat × List Int32} {A : Nat → Prop} (h : ∀ w ∈ sCo t, w.before args s = true) (hl : t.2.2.length < 2 ^ 31) (hA : ∀ a : Nat, a < s.heap.size → ¬ A a) :
    ∃ q r : Nat, (Term.string t.1 t.2.1).eval args s none [] s = some (.ref q) ∧ va_O "java/lang/String" q A s s.heap ∧ va_OF "java/lang/String" "coder" "B" (.int 0) q A s s.heap ∧ va_OF "java/lang/String" "value" "[B" (.ref r) q A s s.heap ∧ va_T .byte r t.2.2.length (fun j => .int (t.2.2.getD j 0)) A s s.heap := by
  have h1 := h (.exactly (.string t.1 t.2.1) "java/lang/String") (by simp [sCo])
  have h2 := h (.eq (.field (.string t.1 t.2.1) "java/lang/String" "coder" "B") (.int 0)) (by simp [sCo])
  have h3 := h (.arrayOf (.field (.string t.1 t.2.1) "java/lang/String" "value" "[B") .byte) (by simp [sCo])
  have h4 := h (.eq (.length (.field (.string t.1 t.2.1) "java/lang/String" "value" "[B")) (.int (Int32.ofNat t.2.2.length))) (by simp [sCo])
  have h5 : ∀ j, j < t.2.2.length → (Cond.eq (.elem (.field (.string t.1 t.2.1) "java/lang/String" "value" "[B") (.int (Int32.ofNat j))) (.int (t.2.2.getD j 0))).before args s = true := fun j hj => h _ (List.mem_append_right _ (List.mem_map.mpr ⟨j, List.mem_range.mpr hj, rfl⟩))
  obtain ⟨a, c, cA, kA, q1, q2, q3, q4, q5, q6, -⟩ := Cond.exactly_spec (args := args) (first := s) (o := none) (s := s) (idx := []) (t := .string t.1 t.2.1) (cls := "java/lang/String") h1
  obtain ⟨r, hr, hT⟩ := va_Tof (f := fun j => .int (t.2.2.getD j 0)) (A := A) hl h3 (va_eqt h4) (fun j hj => va_eqt (h5 j hj)) hA
  exact ⟨a, r, q1, ⟨cA, q3, q5, by rw [q6]; exact q2, hA a (Array.getElem?_eq_some_iff.mp q3).1⟩, vk_OFof q1 (va_eqt h2) hA, vk_OFof q1 hr hA, hT⟩
def fCell (xs : List Int32) (tx : List (String × Nat × List Int32)) (i : Nat) : xO := if i = 0 then (100, xs.map .int) else if i = 1 + 2 * tx.length then (99, []) else if i % 2 = 1 then (70, [.ref (i + 1), .int 0]) else (101, ((tx.getD ((i - 2) / 2) ("", 0, [])).2.2).map .int)
def fHp (xs : List Int32) (tx : List (String × Nat × List Int32)) : xH := (List.range (2 + 2 * tx.length)).map (fCell xs tx)
def fPre (b sa : Nat) (n : Nat) (ad : Nat → Nat × Nat) (i : Nat) : Nat := if i = 0 then b else if i = 1 + 2 * n then sa else if i % 2 = 1 then (ad ((i - 1) / 2)).1 else (ad ((i - 2) / 2)).2
def fSl (s : State) (k : Nat) : Nat := match s.fieldFound? "java/lang/String" (xsn k).1 (xsn k).2 with
  | some (_, _, _, f) => f.slot
  | none => 0
set_option maxHeartbeats 4000000 in
theorem f_Rp {cl : List vw_C} {kc : Nat → ClassId} {sl : Nat → Nat → Nat} {s : State} {b sa : Nat} {xs : List Int32} {tx : List (String × Nat × List Int32)} {ad : Nat → Nat × Nat} (hsl : ∀ k, sl 70 k = fSl s k) (hkc : s.vm.findClass "java/lang/String" = some (kc 70)) (hcl : cl.length < 70) (hbl : b < s.heap.size) (hX : va_X b xs.length (fun j => xs.getD j 0) s s.heap) (hlen : xs.length < 2 ^ 31)
    (had : ∀ i, i < tx.length → va_O "java/lang/String" (ad i).1 (fun q => s.heap.size ≤ q) s s.heap ∧ va_OF "java/lang/String" "coder" "B" (.int 0) (ad i).1 (fun q => s.heap.size ≤ q) s s.heap ∧ va_OF "java/lang/String" "value" "[B" (.ref (ad i).2) (ad i).1 (fun q => s.heap.size ≤ q) s s.heap ∧ va_T .byte (ad i).2 (tx.getD i ("", 0, [])).2.2.length (fun j => .int ((tx.getD i ("", 0, [])).2.2.getD j 0)) (fun q => s.heap.size ≤ q) s s.heap) :
    xRp cl kc sl s s.heap.size (2 + 2 * tx.length) (fPre b sa tx.length ad) (fHp xs tx) s.heap ∧ ∀ i, i + 1 < 2 + 2 * tx.length → fPre b sa tx.length ad i < s.heap.size := by
  have hL : (fHp xs tx).length = 2 + 2 * tx.length := by simp [fHp]
  have hget : ∀ (i : Nat) (o : xO), (fHp xs tx)[i]? = some o → i < 2 + 2 * tx.length ∧ o = fCell xs tx i := by
    intro i o h
    have hlt : i < 2 + 2 * tx.length := by rw [← hL]; exact (List.getElem?_eq_some_iff.mp h).1
    rw [fHp, List.getElem?_map, List.getElem?_range hlt] at h
    exact ⟨hlt, (Option.some.inj h).symm⟩
  have hxr : ∀ i, i < 2 + 2 * tx.length → xr s.heap.size (2 + 2 * tx.length) (fPre b sa tx.length ad) i = fPre b sa tx.length ad i := fun i hi => by unfold xr; rw [if_pos hi]
  have key : ∀ i, i < 2 + 2 * tx.length → i = 0 ∨ i = 1 + 2 * tx.length ∨ (∃ j, j < tx.length ∧ i = 1 + 2 * j) ∨ ∃ j, j < tx.length ∧ i = 2 + 2 * j := by
    intro i hi
    by_cases h0 : i = 0
    · exact Or.inl h0
    · by_cases h1 : i = 1 + 2 * tx.length
      · exact Or.inr (Or.inl h1)
      · by_cases h2 : i % 2 = 1
        · exact Or.inr (Or.inr (Or.inl ⟨(i - 1) / 2, by omega, by omega⟩))
        · exact Or.inr (Or.inr (Or.inr ⟨(i - 2) / 2, by omega, by omega⟩))
  have p1 : ∀ j, j < tx.length → fPre b sa tx.length ad (1 + 2 * j) = (ad j).1 := fun j hj => by
    unfold fPre
    rw [if_neg (by omega), if_neg (by omega), if_pos (by omega), show (1 + 2 * j - 1) / 2 = j by omega]
  have p2 : ∀ j, j < tx.length → fPre b sa tx.length ad (2 + 2 * j) = (ad j).2 := fun j hj => by
    unfold fPre
    rw [if_neg (by omega), if_neg (by omega), if_neg (by omega), show (2 + 2 * j - 2) / 2 = j by omega]
  have ns : ∀ {cell : Cell}, (∀ k, cell.vm ≠ .statics k) → cell.vm.isStatics = false := by
    intro cell h
    cases hv : cell.vm with
    | statics k => exact absurd hv (h k)
    | _ => rfl
  refine ⟨⟨⟨by rw [hL]; exact Nat.le_refl _, fun i o h1 h2 => ?_⟩, by rw [hL, Nat.sub_self]; rfl, fun i o h => ?_, fun _ _ => rfl⟩, fun i hi => ?_⟩
  · obtain ⟨-, rfl⟩ := hget i o h2
    unfold fCell
    rw [if_neg (by omega), if_pos (by omega)]
  · obtain ⟨hi, rfl⟩ := hget i o h
    rcases key i hi with rfl | rfl | ⟨j, hj, rfl⟩ | ⟨j, hj, rfl⟩
    · obtain ⟨scr, x1, x2, x3, x4, x5⟩ := hX
      refine Or.inr ⟨scr, by rw [hxr 0 hi]; exact x1, ⟨⟨fun g => absurd g (by show ¬ 100 < 100; omega), fun _ => x2, fun g => absurd g (by show ¬ 110 ≤ 100; omega)⟩, x3, ns x2.1, fun g => absurd g (by omega), fun j v hj => ?_, fun _ => ?_, fun g => absurd g (by show ¬ 100 < 100; omega)⟩⟩
      · have hj' : (xs.map Value.int)[j]? = some v := hj
        rw [List.getElem?_map] at hj'
        obtain ⟨w, w1, rfl⟩ := Option.map_eq_some_iff.mp hj'
        have hlt := (List.getElem?_eq_some_iff.mp w1).1
        show scr.slots[j]? = some (.int w)
        have hd : xs.getD j 0 = w := by rw [List.getD_eq_getElem?_getD, w1]; rfl
        rw [x5 j hlt]
        show some (Value.int (xs.getD j 0)) = _
        rw [hd]
      · show (xs.map Value.int).length ≤ _ ∧ _ = Int32.ofNat (xs.map Value.int).length
        rw [List.length_map, x4]
        exact ⟨Nat.le_refl _, rfl⟩
    · refine Or.inl ⟨?_, by omega⟩
      unfold fCell
      rw [if_neg (by omega), if_pos rfl]
    · obtain ⟨⟨cell, o1, o2, o3, -⟩, ⟨cf, kf, fi, f, cell2, c1, c2, c3, c4, c5, -⟩, ⟨cf', kf', fi', f', cell3, d1, d2, d3, d4, d5, -⟩, -⟩ := had j hj
      cases o1.symm.trans c3
      cases o1.symm.trans d3
      have e9 : fCell xs tx (1 + 2 * j) = (70, [.ref (2 + 2 * j), .int 0]) := by
        unfold fCell
        rw [if_neg (by omega), if_neg (by omega), if_pos (by omega), show 1 + 2 * j + 1 = 2 + 2 * j by omega]
      rw [e9]
      refine Or.inr ⟨cell, by rw [hxr _ hi, p1 j hj]; exact o1, ⟨⟨fun _ => Option.some.inj (o3.symm.trans hkc), fun g => absurd g (by show ¬ 100 ≤ 70; omega), fun g => absurd g (by show ¬ 110 ≤ 70; omega)⟩, c4, o2, fun g => absurd g (by omega), fun k v hk => ?_, fun g => absurd g (by show ¬ 100 ≤ 70; omega), fun _ q hq => ?_⟩⟩
      · match k, hk with
        | 0, hk =>
          cases hk
          show cell.slots[sl 70 0]? = some (.ref (xr s.heap.size (2 + 2 * tx.length) (fPre b sa tx.length ad) (2 + 2 * j)))
          rw [hxr _ (by omega), p2 j hj, hsl, show fSl s 0 = f'.slot by unfold fSl; rw [show s.fieldFound? "java/lang/String" (xsn 0).1 (xsn 0).2 = some (cf', kf', fi', f') from d1]]
          exact d5
        | 1, hk =>
          cases hk
          show cell.slots[sl 70 1]? = some (.int 0)
          rw [hsl, show fSl s 1 = f.slot by unfold fSl; rw [show s.fieldFound? "java/lang/String" (xsn 1).1 (xsn 1).2 = some (cf, kf, fi, f) from c1]]
          exact c5
      · have := (List.getElem?_eq_some_iff.mp hq).1
        exact absurd this (by show ¬ 70 < cl.length; omega)
    · obtain ⟨-, -, -, ⟨cell, t1, t2, t3, t4, t5, t6, -⟩⟩ := had j hj
      have e9 : fCell xs tx (2 + 2 * j) = (101, ((tx.getD j ("", 0, [])).2.2).map .int) := by
        unfold fCell
        rw [if_neg (by omega), if_neg (by omega), if_neg (by omega), show (2 + 2 * j - 2) / 2 = j by omega]
      rw [e9]
      refine Or.inr ⟨cell, by rw [hxr _ hi, p2 j hj]; exact t1, ⟨⟨fun g => absurd g (by show ¬ 101 < 100; omega), fun _ => t2, fun g => absurd g (by show ¬ 110 ≤ 101; omega)⟩, t3, ns t2.1, fun g => absurd g (by omega), fun k v hk => ?_, fun _ => ?_, fun g => absurd g (by show ¬ 101 < 100; omega)⟩⟩
      · have hk' : (((tx.getD j ("", 0, [])).2.2).map Value.int)[k]? = some v := hk
        rw [List.getElem?_map] at hk'
        obtain ⟨w, w1, rfl⟩ := Option.map_eq_some_iff.mp hk'
        have hlt := (List.getElem?_eq_some_iff.mp w1).1
        show cell.slots[k]? = some (.int w)
        have hd : (tx.getD j ("", 0, [])).2.2.getD k 0 = w := by
          generalize (tx.getD j ("", 0, [])).2.2 = l9 at w1 ⊢
          rw [List.getD_eq_getElem?_getD, w1]
          rfl
        rw [t6 k hlt]
        show some (Value.int ((tx.getD j ("", 0, [])).2.2.getD k 0)) = _
        rw [hd]
      · show (((tx.getD j ("", 0, [])).2.2).map Value.int).length ≤ _ ∧ _ = Int32.ofNat (((tx.getD j ("", 0, [])).2.2).map Value.int).length
        rw [List.length_map]
        exact ⟨t4, t5⟩
  · rcases key i (by omega) with rfl | rfl | ⟨j, hj, rfl⟩ | ⟨j, hj, rfl⟩
    · exact hbl
    · omega
    · rw [p1 j hj]
      obtain ⟨⟨cell, o1, -⟩, -⟩ := had j hj
      exact (Array.getElem?_eq_some_iff.mp o1).1
    · rw [p2 j hj]
      obtain ⟨-, -, -, ⟨cell, t1, -⟩⟩ := had j hj
      exact (Array.getElem?_eq_some_iff.mp t1).1
end
section
/-! constants and throws in the tables, checked by running this -/
def kMem (T0 : List Cond) (w : Cond) : Bool := decide (w ∈ T0) && goodWord w
theorem kMem_ok {T0 : List Cond} {w : Cond} (h : kMem T0 w = true) : w ∈ T0.filter goodWord := by
  unfold kMem at h
  simp only [Bool.and_eq_true, decide_eq_true_eq] at h
  exact List.mem_filter.mpr h
def kCs (Ck : List (Option Value)) (sio : Value) : List Value := Ck.map fun o => o.getD sio
theorem kCs_get {Ck : List (Option Value)} {sio v : Value} {c : Nat} (h : Ck[c]? = some (some v)) : (kCs Ck sio)[c]? = some v := by
  rw [kCs, List.getElem?_map, h]
  rfl
def kcst (T0 : List Cond) (Ck : List (Option Value)) (Ss : List (String × Nat × String × Nat)) (Zs : List (String × String × String × Nat)) (K : Nat) (own : String) (ins : Instr) (ax : List Nat) : Bool := match ins, ax with
  | .ldc idx, c :: _ => match Ck[c]? with
    | some (some (.int v)) => kMem T0 (Cond.constant own idx v)
    | some (some (.ref j)) => decide (j < K) && Ss.any fun q => decide (q.1 = own) && decide (q.2.1 = idx) && decide (q.2.2.2 = j)
    | _ => false
  | .ldc_w idx, c :: _ => match Ck[c]? with
    | some (some (.int v)) => kMem T0 (Cond.constant own idx v)
    | _ => false
  | .ldc2_w idx, c :: _ => match Ck[c]? with
    | some (some (.long v)) => kMem T0 (Cond.constantLong own idx v)
    | _ => false
  | .getstatic idx, c :: _ => Zs.any fun q => decide (q.2.2.2 = c) && kMem T0 (Cond.fieldLink own idx q.1 q.2.1 q.2.2.1)
  | _, _ => true
theorem kcst_ok {T0 : List Cond} {Ck : List (Option Value)} {Ss : List (String × Nat × String × Nat)} {Zs : List (String × String × String × Nat)} {K : Nat} {own : String} {ins : Instr} {ax : List Nat} {sio : Value} (h : kcst T0 Ck Ss Zs K own ins ax = true) : xcst (T0.filter goodWord) (kCs Ck sio) Ss Zs K own ins ax := by
  unfold kcst at h
  unfold xcst
  split at h
  · split at h
    · rename_i v hv
      exact Or.inl ⟨v, kCs_get hv, kMem_ok h⟩
    · rename_i j hv
      simp only [Bool.and_eq_true, decide_eq_true_eq, List.any_eq_true] at h
      obtain ⟨h1, ⟨o, i, tx, j'⟩, h2, ⟨h3, h4⟩, h5⟩ := h
      subst h3; subst h4; subst h5
      exact Or.inr ⟨tx, j', kCs_get hv, h1, h2⟩
    · cases h
  · split at h
    · rename_i v hv
      exact ⟨v, kCs_get hv, kMem_ok h⟩
    · cases h
  · split at h
    · rename_i v hv
      exact ⟨v, kCs_get hv, kMem_ok h⟩
    · cases h
  · simp only [List.any_eq_true, Bool.and_eq_true, decide_eq_true_eq] at h
    obtain ⟨⟨C, n, d, c'⟩, h1, h2, h3⟩ := h
    subst h2
    exact ⟨C, n, d, kMem_ok h3, h1⟩
  · rename_i h1 h2 h3 h4
    try exact True.intro
    all_goals
      split
      · exact absurd rfl (h1 _ _ _ rfl)
      · exact absurd rfl (h2 _ _ _ rfl)
      · exact absurd rfl (h3 _ _ _ rfl)
      · exact absurd rfl (h4 _ _ _ rfl)
      · trivial
/-- Os: who throws by which entry which kind -/
def kthk (T0 : List Cond) (Ss : List (String × Nat × String × Nat)) (Os : List (String × Nat × String)) (M : xQ6) (i : Nat) (ins : Instr) (ax : List Nat) : Bool := match xthr ins ax with
  | none => true
  | some z => match xen z, ins, M.2.2.2.2.2[i + 2]?, M.2.2.2.2.2[i + 3]? with
    | some cls, .new i1, some (_, _, .ldc i2, _), some (_, _, .invokespecial ic, _) => M.2.2.2.2.1.isEmpty && decide (decode M.2.1 (xpc M i) = .ok (.new i1, 3)) && decide (decode M.2.1 (xpc M i + 3) = .ok (.dup, 1)) && decide (decode M.2.1 (xpc M i + 4) = .ok (.ldc i2, 2)) && decide (decode M.2.1 (xpc M i + 6) = .ok (.invokespecial ic, 3)) && decide (decode M.2.1 (xpc M i + 9) = .ok (.athrow, 1)) &&
      kMem T0 (Cond.classLink M.1.cls i1 cls) && kMem T0 (Cond.instantiable cls 6) && kMem T0 (Cond.initialized cls) && (Ss.any fun q => decide (q.1 = M.1.cls) && decide (q.2.1 = i2)) && decide ((M.1.cls, ic, cls) ∈ Os) && Bundle.fit cls
    | _, _, _, _ => false
def kNames : List String := ["java/lang/RuntimeException", "java/lang/Exception"]
theorem kthk_ok {T0 As : List Cond} {Ss : List (String × Nat × String × Nat)} {Os : List (String × Nat × String)} {M : xQ6} {i z : Nat} {ins : Instr} {ax : List Nat} (hO : ∀ q ∈ Os, ∀ a ∈ Bundle.ownAtoms q.1 q.2.1 q.2.2 kNames, a ∈ T0.filter goodWord ∨ a ∈ As) (h : kthk T0 Ss Os M i ins ax = true) (hz : xthr ins ax = some z) : xthk (T0.filter goodWord) As Ss M i z := by
  unfold kthk at h
  rw [hz] at h
  simp only at h
  split at h
  · rename_i cls i1 p2 l2 i2 a2 p3 l3 ic a3 hcls h2 h3
    simp only [Bool.and_eq_true, decide_eq_true_eq, List.isEmpty_iff, List.any_eq_true] at h
    obtain ⟨⟨⟨⟨⟨⟨⟨⟨⟨⟨⟨b1, b2⟩, b3⟩, b4⟩, b5⟩, b6⟩, b7⟩, b8⟩, b9⟩, b10⟩, b11⟩, b12⟩ := h
    obtain ⟨⟨o, i', tx, j⟩, c1, c2, c3⟩ := b10
    simp only at c2 c3
    subst c3
    exact ⟨i1, i', ic, j, tx, cls, kNames, b1, b2, b3, b4, b5, b6, hcls, by decide, kMem_ok b7, kMem_ok b8, kMem_ok b9, c2 ▸ c1, hO _ b11, b12, by decide +kernel⟩
  · cases h
def k2L (T0 : List Cond) (Ck : List (Option Value)) (Ss : List (String × Nat × String × Nat)) (Zs : List (String × String × String × Nat)) (Os : List (String × Nat × String)) (K : Nat) (M : xQ6) : Nat → List xE → Bool
  | _, [] => true
  | i, (_, _, ins, ax) :: es => kcst T0 Ck Ss Zs K M.1.cls ins ax && kthk T0 Ss Os M i ins ax && k2L T0 Ck Ss Zs Os K M (i + 1) es
theorem k2L_ok {T0 : List Cond} {Ck : List (Option Value)} {Ss : List (String × Nat × String × Nat)} {Zs : List (String × String × String × Nat)} {Os : List (String × Nat × String)} {K : Nat} {M : xQ6} : ∀ (es : List xE) (i : Nat), k2L T0 Ck Ss Zs Os K M i es = true → ∀ (j pc len : Nat) (ins : Instr) (ax : List Nat), es[j]? = some (pc, len, ins, ax) → kcst T0 Ck Ss Zs K M.1.cls ins ax = true ∧ kthk T0 Ss Os M (i + j) ins ax = true := by
  intro es
  induction es with
  | nil => intro i h j pc len ins ax hj; simp at hj
  | cons e es ih =>
    intro i h j pc len ins ax hj
    obtain ⟨p0, l0, in0, a0⟩ := e
    simp only [k2L, Bool.and_eq_true] at h
    match j, hj with
    | 0, hj => cases hj; exact h.1
    | j + 1, hj =>
      have := ih (i + 1) h.2 j pc len ins ax hj
      rw [show i + (j + 1) = i + 1 + j by omega]
      exact this
end
