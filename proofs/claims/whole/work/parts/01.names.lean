-- ===== PART A: goes FIRST, ahead of the names: the tables' words, and 'selects' of the private methods out of them =====
/-- a private method of a class that the tables say can be made, by its rows of tables_1 -/
def lw_okq (q : MethodName × Nat) : Prop := (q.1.cls ≠ "java/lang/invoke/MethodHandle" ∧ q.1.cls ≠ "java/lang/invoke/VarHandle") ∧ Cond.instantiable q.1.cls q.2 ∈ tables_1 ∧ Cond.privateMethod q.1 ∈ tables_1 ∧ Cond.instanceMethod q.1 ∈ tables_1
theorem lw_p0 : lw_okq (⟨"AlibiWindow", "saveState", "()V"⟩, 6) := ⟨⟨by decide +kernel, by decide +kernel⟩, List.mem_of_getElem? (i := 18) (by decide +kernel), List.mem_of_getElem? (i := 191) (by decide +kernel), List.mem_of_getElem? (i := 192) (by decide +kernel)⟩
theorem lw_p1 : lw_okq (⟨"AlibiWindow", "hashNumbers", "(J)J"⟩, 6) := ⟨⟨by decide +kernel, by decide +kernel⟩, List.mem_of_getElem? (i := 18) (by decide +kernel), List.mem_of_getElem? (i := 401) (by decide +kernel), List.mem_of_getElem? (i := 402) (by decide +kernel)⟩
theorem lw_p2 : lw_okq (⟨"AlibiWindow", "checkWhat", "(II)V"⟩, 6) := ⟨⟨by decide +kernel, by decide +kernel⟩, List.mem_of_getElem? (i := 18) (by decide +kernel), List.mem_of_getElem? (i := 410) (by decide +kernel), List.mem_of_getElem? (i := 411) (by decide +kernel)⟩
theorem lw_p3 : lw_okq (⟨"java/lang/Throwable", "fillInStackTrace", "(I)Ljava/lang/Throwable;"⟩, 6) := ⟨⟨by decide +kernel, by decide +kernel⟩, List.mem_of_getElem? (i := 452) (by decide +kernel), List.mem_of_getElem? (i := 450) (by decide +kernel), List.mem_of_getElem? (i := 451) (by decide +kernel)⟩
theorem lw_p4 : lw_okq (⟨"AlibiWindow", "checkPlace", "(II)V"⟩, 6) := ⟨⟨by decide +kernel, by decide +kernel⟩, List.mem_of_getElem? (i := 18) (by decide +kernel), List.mem_of_getElem? (i := 490) (by decide +kernel), List.mem_of_getElem? (i := 491) (by decide +kernel)⟩
theorem lw_p5 : lw_okq (⟨"AlibiWindow", "hashProgram", "(J)J"⟩, 6) := ⟨⟨by decide +kernel, by decide +kernel⟩, List.mem_of_getElem? (i := 18) (by decide +kernel), List.mem_of_getElem? (i := 510) (by decide +kernel), List.mem_of_getElem? (i := 511) (by decide +kernel)⟩
theorem lw_p6 : lw_okq (⟨"AlibiWindow", "rehearsePlainOrder", "()V"⟩, 6) := ⟨⟨by decide +kernel, by decide +kernel⟩, List.mem_of_getElem? (i := 18) (by decide +kernel), List.mem_of_getElem? (i := 522) (by decide +kernel), List.mem_of_getElem? (i := 523) (by decide +kernel)⟩
theorem lw_p7 : lw_okq (⟨"AlibiWindow", "hashValues", "(J)J"⟩, 6) := ⟨⟨by decide +kernel, by decide +kernel⟩, List.mem_of_getElem? (i := 18) (by decide +kernel), List.mem_of_getElem? (i := 530) (by decide +kernel), List.mem_of_getElem? (i := 531) (by decide +kernel)⟩
theorem lw_p8 : lw_okq (⟨"AlibiWindow", "registerFact", "(II)I"⟩, 6) := ⟨⟨by decide +kernel, by decide +kernel⟩, List.mem_of_getElem? (i := 18) (by decide +kernel), List.mem_of_getElem? (i := 534) (by decide +kernel), List.mem_of_getElem? (i := 535) (by decide +kernel)⟩
theorem lw_p9 : lw_okq (⟨"AlibiWindow", "cellFact", "(II)I"⟩, 6) := ⟨⟨by decide +kernel, by decide +kernel⟩, List.mem_of_getElem? (i := 18) (by decide +kernel), List.mem_of_getElem? (i := 540) (by decide +kernel), List.mem_of_getElem? (i := 541) (by decide +kernel)⟩
theorem lw_p10 : lw_okq (⟨"AlibiWindow", "rehearseCycles", "(I)V"⟩, 6) := ⟨⟨by decide +kernel, by decide +kernel⟩, List.mem_of_getElem? (i := 18) (by decide +kernel), List.mem_of_getElem? (i := 545) (by decide +kernel), List.mem_of_getElem? (i := 546) (by decide +kernel)⟩
theorem lw_p11 : lw_okq (⟨"AlibiWindow", "rehearsed", "(I)I"⟩, 6) := ⟨⟨by decide +kernel, by decide +kernel⟩, List.mem_of_getElem? (i := 18) (by decide +kernel), List.mem_of_getElem? (i := 553) (by decide +kernel), List.mem_of_getElem? (i := 554) (by decide +kernel)⟩
theorem lw_p12 : lw_okq (⟨"AlibiWindow", "rehearseWindows", "()V"⟩, 6) := ⟨⟨by decide +kernel, by decide +kernel⟩, List.mem_of_getElem? (i := 18) (by decide +kernel), List.mem_of_getElem? (i := 558) (by decide +kernel), List.mem_of_getElem? (i := 559) (by decide +kernel)⟩
theorem lw_p13 : lw_okq (⟨"AlibiWindow", "putValue", "([III)I"⟩, 6) := ⟨⟨by decide +kernel, by decide +kernel⟩, List.mem_of_getElem? (i := 18) (by decide +kernel), List.mem_of_getElem? (i := 595) (by decide +kernel), List.mem_of_getElem? (i := 596) (by decide +kernel)⟩
theorem lw_p14 : lw_okq (⟨"AlibiWindow", "checkCycles", "(I)V"⟩, 6) := ⟨⟨by decide +kernel, by decide +kernel⟩, List.mem_of_getElem? (i := 18) (by decide +kernel), List.mem_of_getElem? (i := 634) (by decide +kernel), List.mem_of_getElem? (i := 635) (by decide +kernel)⟩
theorem lw_p15 : lw_okq (⟨"AlibiWindowModel", "fails", "(I)I"⟩, 20) := ⟨⟨by decide +kernel, by decide +kernel⟩, List.mem_of_getElem? (i := 757) (by decide +kernel), List.mem_of_getElem? (i := 835) (by decide +kernel), List.mem_of_getElem? (i := 836) (by decide +kernel)⟩
def lw_privs_1 : List (MethodName × Nat) := [(⟨"AlibiWindow", "saveState", "()V"⟩, 6), (⟨"AlibiWindow", "hashNumbers", "(J)J"⟩, 6), (⟨"AlibiWindow", "checkWhat", "(II)V"⟩, 6), (⟨"java/lang/Throwable", "fillInStackTrace", "(I)Ljava/lang/Throwable;"⟩, 6), (⟨"AlibiWindow", "checkPlace", "(II)V"⟩, 6), (⟨"AlibiWindow", "hashProgram", "(J)J"⟩, 6), (⟨"AlibiWindow", "rehearsePlainOrder", "()V"⟩, 6), (⟨"AlibiWindow", "hashValues", "(J)J"⟩, 6), (⟨"AlibiWindow", "registerFact", "(II)I"⟩, 6), (⟨"AlibiWindow", "cellFact", "(II)I"⟩, 6), (⟨"AlibiWindow", "rehearseCycles", "(I)V"⟩, 6), (⟨"AlibiWindow", "rehearsed", "(I)I"⟩, 6), (⟨"AlibiWindow", "rehearseWindows", "()V"⟩, 6), (⟨"AlibiWindow", "putValue", "([III)I"⟩, 6), (⟨"AlibiWindow", "checkCycles", "(I)V"⟩, 6), (⟨"AlibiWindowModel", "fails", "(I)I"⟩, 20)]
theorem lw_r1 : ∀ q ∈ lw_privs_1, lw_okq q := List.forall_mem_cons.mpr ⟨lw_p0, List.forall_mem_cons.mpr ⟨lw_p1, List.forall_mem_cons.mpr ⟨lw_p2, List.forall_mem_cons.mpr ⟨lw_p3, List.forall_mem_cons.mpr ⟨lw_p4, List.forall_mem_cons.mpr ⟨lw_p5, List.forall_mem_cons.mpr ⟨lw_p6, List.forall_mem_cons.mpr ⟨lw_p7, List.forall_mem_cons.mpr ⟨lw_p8, List.forall_mem_cons.mpr ⟨lw_p9, List.forall_mem_cons.mpr ⟨lw_p10, List.forall_mem_cons.mpr ⟨lw_p11, List.forall_mem_cons.mpr ⟨lw_p12, List.forall_mem_cons.mpr ⟨lw_p13, List.forall_mem_cons.mpr ⟨lw_p14, List.forall_mem_cons.mpr ⟨lw_p15, fun _ h => absurd h List.not_mem_nil⟩⟩⟩⟩⟩⟩⟩⟩⟩⟩⟩⟩⟩⟩⟩⟩
theorem lw_p16 : lw_okq (⟨"AlibiWindowModel", "save", "()V"⟩, 20) := ⟨⟨by decide +kernel, by decide +kernel⟩, List.mem_of_getElem? (i := 757) (by decide +kernel), List.mem_of_getElem? (i := 839) (by decide +kernel), List.mem_of_getElem? (i := 840) (by decide +kernel)⟩
theorem lw_p17 : lw_okq (⟨"AlibiWindowModel", "rule", "(I)I"⟩, 20) := ⟨⟨by decide +kernel, by decide +kernel⟩, List.mem_of_getElem? (i := 757) (by decide +kernel), List.mem_of_getElem? (i := 843) (by decide +kernel), List.mem_of_getElem? (i := 844) (by decide +kernel)⟩
theorem lw_p18 : lw_okq (⟨"AlibiWindowModel", "puts", "(II)I"⟩, 20) := ⟨⟨by decide +kernel, by decide +kernel⟩, List.mem_of_getElem? (i := 757) (by decide +kernel), List.mem_of_getElem? (i := 851) (by decide +kernel), List.mem_of_getElem? (i := 852) (by decide +kernel)⟩
theorem lw_p19 : lw_okq (⟨"AlibiWindowModel", "entries", "()I"⟩, 20) := ⟨⟨by decide +kernel, by decide +kernel⟩, List.mem_of_getElem? (i := 757) (by decide +kernel), List.mem_of_getElem? (i := 865) (by decide +kernel), List.mem_of_getElem? (i := 866) (by decide +kernel)⟩
theorem lw_p20 : lw_okq (⟨"AlibiWindowModel", "cycle", "()I"⟩, 20) := ⟨⟨by decide +kernel, by decide +kernel⟩, List.mem_of_getElem? (i := 757) (by decide +kernel), List.mem_of_getElem? (i := 877) (by decide +kernel), List.mem_of_getElem? (i := 878) (by decide +kernel)⟩
theorem lw_p21 : lw_okq (⟨"AlibiWindowModel", "of", "(II)I"⟩, 20) := ⟨⟨by decide +kernel, by decide +kernel⟩, List.mem_of_getElem? (i := 757) (by decide +kernel), List.mem_of_getElem? (i := 881) (by decide +kernel), List.mem_of_getElem? (i := 882) (by decide +kernel)⟩
theorem lw_p22 : lw_okq (⟨"AlibiWindowModel", "retire", "()V"⟩, 20) := ⟨⟨by decide +kernel, by decide +kernel⟩, List.mem_of_getElem? (i := 757) (by decide +kernel), List.mem_of_getElem? (i := 885) (by decide +kernel), List.mem_of_getElem? (i := 886) (by decide +kernel)⟩
theorem lw_p23 : lw_okq (⟨"AlibiWindowModel", "lay", "(III)V"⟩, 20) := ⟨⟨by decide +kernel, by decide +kernel⟩, List.mem_of_getElem? (i := 757) (by decide +kernel), List.mem_of_getElem? (i := 889) (by decide +kernel), List.mem_of_getElem? (i := 890) (by decide +kernel)⟩
theorem lw_p24 : lw_okq (⟨"AlibiWindowModel", "work", "()V"⟩, 20) := ⟨⟨by decide +kernel, by decide +kernel⟩, List.mem_of_getElem? (i := 757) (by decide +kernel), List.mem_of_getElem? (i := 893) (by decide +kernel), List.mem_of_getElem? (i := 894) (by decide +kernel)⟩
theorem lw_p25 : lw_okq (⟨"AlibiWindowModel", "finish", "(I)V"⟩, 20) := ⟨⟨by decide +kernel, by decide +kernel⟩, List.mem_of_getElem? (i := 757) (by decide +kernel), List.mem_of_getElem? (i := 897) (by decide +kernel), List.mem_of_getElem? (i := 898) (by decide +kernel)⟩
theorem lw_p26 : lw_okq (⟨"AlibiWindowModel", "finishLoad", "(I)V"⟩, 20) := ⟨⟨by decide +kernel, by decide +kernel⟩, List.mem_of_getElem? (i := 757) (by decide +kernel), List.mem_of_getElem? (i := 915) (by decide +kernel), List.mem_of_getElem? (i := 916) (by decide +kernel)⟩
theorem lw_p27 : lw_okq (⟨"AlibiWindowModel", "valueOf", "(II)I"⟩, 20) := ⟨⟨by decide +kernel, by decide +kernel⟩, List.mem_of_getElem? (i := 757) (by decide +kernel), List.mem_of_getElem? (i := 919) (by decide +kernel), List.mem_of_getElem? (i := 920) (by decide +kernel)⟩
theorem lw_p28 : lw_okq (⟨"AlibiWindowModel", "maker", "(II)I"⟩, 20) := ⟨⟨by decide +kernel, by decide +kernel⟩, List.mem_of_getElem? (i := 757) (by decide +kernel), List.mem_of_getElem? (i := 923) (by decide +kernel), List.mem_of_getElem? (i := 924) (by decide +kernel)⟩
theorem lw_p29 : lw_okq (⟨"AlibiWindowModel", "makes", "(II)Z"⟩, 20) := ⟨⟨by decide +kernel, by decide +kernel⟩, List.mem_of_getElem? (i := 757) (by decide +kernel), List.mem_of_getElem? (i := 927) (by decide +kernel), List.mem_of_getElem? (i := 928) (by decide +kernel)⟩
theorem lw_p30 : lw_okq (⟨"AlibiWindowModel", "finishStore", "(I)V"⟩, 20) := ⟨⟨by decide +kernel, by decide +kernel⟩, List.mem_of_getElem? (i := 757) (by decide +kernel), List.mem_of_getElem? (i := 934) (by decide +kernel), List.mem_of_getElem? (i := 935) (by decide +kernel)⟩
theorem lw_p31 : lw_okq (⟨"AlibiWindowModel", "isBroken", "(II)Z"⟩, 20) := ⟨⟨by decide +kernel, by decide +kernel⟩, List.mem_of_getElem? (i := 757) (by decide +kernel), List.mem_of_getElem? (i := 938) (by decide +kernel), List.mem_of_getElem? (i := 939) (by decide +kernel)⟩
def lw_privs_2 : List (MethodName × Nat) := [(⟨"AlibiWindowModel", "save", "()V"⟩, 20), (⟨"AlibiWindowModel", "rule", "(I)I"⟩, 20), (⟨"AlibiWindowModel", "puts", "(II)I"⟩, 20), (⟨"AlibiWindowModel", "entries", "()I"⟩, 20), (⟨"AlibiWindowModel", "cycle", "()I"⟩, 20), (⟨"AlibiWindowModel", "of", "(II)I"⟩, 20), (⟨"AlibiWindowModel", "retire", "()V"⟩, 20), (⟨"AlibiWindowModel", "lay", "(III)V"⟩, 20), (⟨"AlibiWindowModel", "work", "()V"⟩, 20), (⟨"AlibiWindowModel", "finish", "(I)V"⟩, 20), (⟨"AlibiWindowModel", "finishLoad", "(I)V"⟩, 20), (⟨"AlibiWindowModel", "valueOf", "(II)I"⟩, 20), (⟨"AlibiWindowModel", "maker", "(II)I"⟩, 20), (⟨"AlibiWindowModel", "makes", "(II)Z"⟩, 20), (⟨"AlibiWindowModel", "finishStore", "(I)V"⟩, 20), (⟨"AlibiWindowModel", "isBroken", "(II)Z"⟩, 20)]
theorem lw_r2 : ∀ q ∈ lw_privs_2, lw_okq q := List.forall_mem_cons.mpr ⟨lw_p16, List.forall_mem_cons.mpr ⟨lw_p17, List.forall_mem_cons.mpr ⟨lw_p18, List.forall_mem_cons.mpr ⟨lw_p19, List.forall_mem_cons.mpr ⟨lw_p20, List.forall_mem_cons.mpr ⟨lw_p21, List.forall_mem_cons.mpr ⟨lw_p22, List.forall_mem_cons.mpr ⟨lw_p23, List.forall_mem_cons.mpr ⟨lw_p24, List.forall_mem_cons.mpr ⟨lw_p25, List.forall_mem_cons.mpr ⟨lw_p26, List.forall_mem_cons.mpr ⟨lw_p27, List.forall_mem_cons.mpr ⟨lw_p28, List.forall_mem_cons.mpr ⟨lw_p29, List.forall_mem_cons.mpr ⟨lw_p30, List.forall_mem_cons.mpr ⟨lw_p31, fun _ h => absurd h List.not_mem_nil⟩⟩⟩⟩⟩⟩⟩⟩⟩⟩⟩⟩⟩⟩⟩⟩
theorem lw_p32 : lw_okq (⟨"AlibiWindowModel", "reason", "(I)I"⟩, 20) := ⟨⟨by decide +kernel, by decide +kernel⟩, List.mem_of_getElem? (i := 757) (by decide +kernel), List.mem_of_getElem? (i := 945) (by decide +kernel), List.mem_of_getElem? (i := 946) (by decide +kernel)⟩
theorem lw_p33 : lw_okq (⟨"AlibiWindowModel", "hasOne", "(I)Z"⟩, 20) := ⟨⟨by decide +kernel, by decide +kernel⟩, List.mem_of_getElem? (i := 757) (by decide +kernel), List.mem_of_getElem? (i := 949) (by decide +kernel), List.mem_of_getElem? (i := 950) (by decide +kernel)⟩
theorem lw_p34 : lw_okq (⟨"AlibiWindowModel", "isReady", "(II)Z"⟩, 20) := ⟨⟨by decide +kernel, by decide +kernel⟩, List.mem_of_getElem? (i := 757) (by decide +kernel), List.mem_of_getElem? (i := 953) (by decide +kernel), List.mem_of_getElem? (i := 954) (by decide +kernel)⟩
theorem lw_p35 : lw_okq (⟨"AlibiWindowModel", "hasOther", "(I)Z"⟩, 20) := ⟨⟨by decide +kernel, by decide +kernel⟩, List.mem_of_getElem? (i := 757) (by decide +kernel), List.mem_of_getElem? (i := 957) (by decide +kernel), List.mem_of_getElem? (i := 958) (by decide +kernel)⟩
theorem lw_p36 : lw_okq (⟨"AlibiWindowModel", "isOpenStore", "(I)Z"⟩, 20) := ⟨⟨by decide +kernel, by decide +kernel⟩, List.mem_of_getElem? (i := 757) (by decide +kernel), List.mem_of_getElem? (i := 961) (by decide +kernel), List.mem_of_getElem? (i := 962) (by decide +kernel)⟩
theorem lw_p37 : lw_okq (⟨"AlibiWindowModel", "begin", "()V"⟩, 20) := ⟨⟨by decide +kernel, by decide +kernel⟩, List.mem_of_getElem? (i := 757) (by decide +kernel), List.mem_of_getElem? (i := 976) (by decide +kernel), List.mem_of_getElem? (i := 977) (by decide +kernel)⟩
theorem lw_p38 : lw_okq (⟨"AlibiWindowModel", "scan", "()I"⟩, 20) := ⟨⟨by decide +kernel, by decide +kernel⟩, List.mem_of_getElem? (i := 757) (by decide +kernel), List.mem_of_getElem? (i := 992) (by decide +kernel), List.mem_of_getElem? (i := 993) (by decide +kernel)⟩
theorem lw_p39 : lw_okq (⟨"AlibiWindowModel", "takes", "(I)Z"⟩, 20) := ⟨⟨by decide +kernel, by decide +kernel⟩, List.mem_of_getElem? (i := 757) (by decide +kernel), List.mem_of_getElem? (i := 996) (by decide +kernel), List.mem_of_getElem? (i := 997) (by decide +kernel)⟩
theorem lw_p40 : lw_okq (⟨"AlibiWindowModel", "begins", "(I)Z"⟩, 20) := ⟨⟨by decide +kernel, by decide +kernel⟩, List.mem_of_getElem? (i := 757) (by decide +kernel), List.mem_of_getElem? (i := 1000) (by decide +kernel), List.mem_of_getElem? (i := 1001) (by decide +kernel)⟩
theorem lw_p41 : lw_okq (⟨"AlibiWindowModel", "goes", "(ZI)Z"⟩, 20) := ⟨⟨by decide +kernel, by decide +kernel⟩, List.mem_of_getElem? (i := 757) (by decide +kernel), List.mem_of_getElem? (i := 1004) (by decide +kernel), List.mem_of_getElem? (i := 1005) (by decide +kernel)⟩
theorem lw_p42 : lw_okq (⟨"AlibiWindowModel", "takesRight", "(I)Z"⟩, 20) := ⟨⟨by decide +kernel, by decide +kernel⟩, List.mem_of_getElem? (i := 757) (by decide +kernel), List.mem_of_getElem? (i := 1011) (by decide +kernel), List.mem_of_getElem? (i := 1012) (by decide +kernel)⟩
theorem lw_p43 : lw_okq (⟨"AlibiWindowModel", "takesFigure", "(I)Z"⟩, 20) := ⟨⟨by decide +kernel, by decide +kernel⟩, List.mem_of_getElem? (i := 757) (by decide +kernel), List.mem_of_getElem? (i := 1015) (by decide +kernel), List.mem_of_getElem? (i := 1016) (by decide +kernel)⟩
theorem lw_p44 : lw_okq (⟨"AlibiWindowModel", "takesSecond", "(I)Z"⟩, 20) := ⟨⟨by decide +kernel, by decide +kernel⟩, List.mem_of_getElem? (i := 757) (by decide +kernel), List.mem_of_getElem? (i := 1022) (by decide +kernel), List.mem_of_getElem? (i := 1023) (by decide +kernel)⟩
theorem lw_p45 : lw_okq (⟨"AlibiWindowModel", "ends", "(I)Z"⟩, 20) := ⟨⟨by decide +kernel, by decide +kernel⟩, List.mem_of_getElem? (i := 757) (by decide +kernel), List.mem_of_getElem? (i := 1026) (by decide +kernel), List.mem_of_getElem? (i := 1027) (by decide +kernel)⟩
theorem lw_p46 : lw_okq (⟨"AlibiWindowModel", "takesSign", "(I)Z"⟩, 20) := ⟨⟨by decide +kernel, by decide +kernel⟩, List.mem_of_getElem? (i := 757) (by decide +kernel), List.mem_of_getElem? (i := 1030) (by decide +kernel), List.mem_of_getElem? (i := 1031) (by decide +kernel)⟩
theorem lw_p47 : lw_okq (⟨"AlibiWindowModel", "takesOther", "(I)Z"⟩, 20) := ⟨⟨by decide +kernel, by decide +kernel⟩, List.mem_of_getElem? (i := 757) (by decide +kernel), List.mem_of_getElem? (i := 1034) (by decide +kernel), List.mem_of_getElem? (i := 1035) (by decide +kernel)⟩
def lw_privs_3 : List (MethodName × Nat) := [(⟨"AlibiWindowModel", "reason", "(I)I"⟩, 20), (⟨"AlibiWindowModel", "hasOne", "(I)Z"⟩, 20), (⟨"AlibiWindowModel", "isReady", "(II)Z"⟩, 20), (⟨"AlibiWindowModel", "hasOther", "(I)Z"⟩, 20), (⟨"AlibiWindowModel", "isOpenStore", "(I)Z"⟩, 20), (⟨"AlibiWindowModel", "begin", "()V"⟩, 20), (⟨"AlibiWindowModel", "scan", "()I"⟩, 20), (⟨"AlibiWindowModel", "takes", "(I)Z"⟩, 20), (⟨"AlibiWindowModel", "begins", "(I)Z"⟩, 20), (⟨"AlibiWindowModel", "goes", "(ZI)Z"⟩, 20), (⟨"AlibiWindowModel", "takesRight", "(I)Z"⟩, 20), (⟨"AlibiWindowModel", "takesFigure", "(I)Z"⟩, 20), (⟨"AlibiWindowModel", "takesSecond", "(I)Z"⟩, 20), (⟨"AlibiWindowModel", "ends", "(I)Z"⟩, 20), (⟨"AlibiWindowModel", "takesSign", "(I)Z"⟩, 20), (⟨"AlibiWindowModel", "takesOther", "(I)Z"⟩, 20)]
theorem lw_r3 : ∀ q ∈ lw_privs_3, lw_okq q := List.forall_mem_cons.mpr ⟨lw_p32, List.forall_mem_cons.mpr ⟨lw_p33, List.forall_mem_cons.mpr ⟨lw_p34, List.forall_mem_cons.mpr ⟨lw_p35, List.forall_mem_cons.mpr ⟨lw_p36, List.forall_mem_cons.mpr ⟨lw_p37, List.forall_mem_cons.mpr ⟨lw_p38, List.forall_mem_cons.mpr ⟨lw_p39, List.forall_mem_cons.mpr ⟨lw_p40, List.forall_mem_cons.mpr ⟨lw_p41, List.forall_mem_cons.mpr ⟨lw_p42, List.forall_mem_cons.mpr ⟨lw_p43, List.forall_mem_cons.mpr ⟨lw_p44, List.forall_mem_cons.mpr ⟨lw_p45, List.forall_mem_cons.mpr ⟨lw_p46, List.forall_mem_cons.mpr ⟨lw_p47, fun _ h => absurd h List.not_mem_nil⟩⟩⟩⟩⟩⟩⟩⟩⟩⟩⟩⟩⟩⟩⟩⟩
theorem lw_p48 : lw_okq (⟨"AlibiWindowModel", "takesOne", "(II)Z"⟩, 20) := ⟨⟨by decide +kernel, by decide +kernel⟩, List.mem_of_getElem? (i := 757) (by decide +kernel), List.mem_of_getElem? (i := 1038) (by decide +kernel), List.mem_of_getElem? (i := 1039) (by decide +kernel)⟩
theorem lw_p49 : lw_okq (⟨"AlibiWindowModel", "takesOffset", "(II)Z"⟩, 20) := ⟨⟨by decide +kernel, by decide +kernel⟩, List.mem_of_getElem? (i := 757) (by decide +kernel), List.mem_of_getElem? (i := 1042) (by decide +kernel), List.mem_of_getElem? (i := 1043) (by decide +kernel)⟩
theorem lw_p50 : lw_okq (⟨"AlibiWindowModel", "isInstruction", "(I)Z"⟩, 20) := ⟨⟨by decide +kernel, by decide +kernel⟩, List.mem_of_getElem? (i := 757) (by decide +kernel), List.mem_of_getElem? (i := 1058) (by decide +kernel), List.mem_of_getElem? (i := 1059) (by decide +kernel)⟩
theorem lw_p51 : lw_okq (⟨"AlibiWindowModel", "isEntry", "(I)Z"⟩, 20) := ⟨⟨by decide +kernel, by decide +kernel⟩, List.mem_of_getElem? (i := 757) (by decide +kernel), List.mem_of_getElem? (i := 1066) (by decide +kernel), List.mem_of_getElem? (i := 1067) (by decide +kernel)⟩
theorem lw_p52 : lw_okq (⟨"AlibiWindowModel", "entryNow", "(II)I"⟩, 20) := ⟨⟨by decide +kernel, by decide +kernel⟩, List.mem_of_getElem? (i := 757) (by decide +kernel), List.mem_of_getElem? (i := 1070) (by decide +kernel), List.mem_of_getElem? (i := 1071) (by decide +kernel)⟩
theorem lw_p53 : lw_okq (⟨"AlibiWindowModel", "registerNow", "(II)I"⟩, 20) := ⟨⟨by decide +kernel, by decide +kernel⟩, List.mem_of_getElem? (i := 757) (by decide +kernel), List.mem_of_getElem? (i := 1082) (by decide +kernel), List.mem_of_getElem? (i := 1083) (by decide +kernel)⟩
theorem lw_p54 : lw_okq (⟨"AlibiWindowModel", "goPlain", "()V"⟩, 20) := ⟨⟨by decide +kernel, by decide +kernel⟩, List.mem_of_getElem? (i := 757) (by decide +kernel), List.mem_of_getElem? (i := 1086) (by decide +kernel), List.mem_of_getElem? (i := 1087) (by decide +kernel)⟩
theorem lw_p55 : lw_okq (⟨"AlibiWindowModel", "cellNow", "(II)I"⟩, 20) := ⟨⟨by decide +kernel, by decide +kernel⟩, List.mem_of_getElem? (i := 757) (by decide +kernel), List.mem_of_getElem? (i := 1094) (by decide +kernel), List.mem_of_getElem? (i := 1095) (by decide +kernel)⟩
theorem lw_p56 : lw_okq (⟨"AlibiWindowModel", "counted", "(I)I"⟩, 20) := ⟨⟨by decide +kernel, by decide +kernel⟩, List.mem_of_getElem? (i := 757) (by decide +kernel), List.mem_of_getElem? (i := 1102) (by decide +kernel), List.mem_of_getElem? (i := 1103) (by decide +kernel)⟩
theorem lw_p57 : lw_okq (⟨"AlibiWindowModel", "isFinished", "()Z"⟩, 20) := ⟨⟨by decide +kernel, by decide +kernel⟩, List.mem_of_getElem? (i := 757) (by decide +kernel), List.mem_of_getElem? (i := 1106) (by decide +kernel), List.mem_of_getElem? (i := 1107) (by decide +kernel)⟩
theorem lw_p58 : lw_okq (⟨"AlibiWindowModel", "runNow", "(II)I"⟩, 20) := ⟨⟨by decide +kernel, by decide +kernel⟩, List.mem_of_getElem? (i := 757) (by decide +kernel), List.mem_of_getElem? (i := 1118) (by decide +kernel), List.mem_of_getElem? (i := 1119) (by decide +kernel)⟩
theorem lw_p59 : lw_okq (⟨"AlibiWindowModel", "keep", "()V"⟩, 20) := ⟨⟨by decide +kernel, by decide +kernel⟩, List.mem_of_getElem? (i := 757) (by decide +kernel), List.mem_of_getElem? (i := 1122) (by decide +kernel), List.mem_of_getElem? (i := 1123) (by decide +kernel)⟩
theorem lw_p60 : lw_okq (⟨"AlibiWindowModel", "bring", "()V"⟩, 20) := ⟨⟨by decide +kernel, by decide +kernel⟩, List.mem_of_getElem? (i := 757) (by decide +kernel), List.mem_of_getElem? (i := 1126) (by decide +kernel), List.mem_of_getElem? (i := 1127) (by decide +kernel)⟩
theorem lw_p61 : lw_okq (⟨"AlibiWindowModel", "leftNow", "()I"⟩, 20) := ⟨⟨by decide +kernel, by decide +kernel⟩, List.mem_of_getElem? (i := 757) (by decide +kernel), List.mem_of_getElem? (i := 1134) (by decide +kernel), List.mem_of_getElem? (i := 1135) (by decide +kernel)⟩
theorem lw_p62 : lw_okq (⟨"AlibiWindowModel", "goOn", "()I"⟩, 20) := ⟨⟨by decide +kernel, by decide +kernel⟩, List.mem_of_getElem? (i := 757) (by decide +kernel), List.mem_of_getElem? (i := 1138) (by decide +kernel), List.mem_of_getElem? (i := 1139) (by decide +kernel)⟩
theorem lw_p63 : lw_okq (⟨"AlibiWindowModel", "windowNow", "(I)I"⟩, 20) := ⟨⟨by decide +kernel, by decide +kernel⟩, List.mem_of_getElem? (i := 757) (by decide +kernel), List.mem_of_getElem? (i := 1146) (by decide +kernel), List.mem_of_getElem? (i := 1147) (by decide +kernel)⟩
def lw_privs_4 : List (MethodName × Nat) := [(⟨"AlibiWindowModel", "takesOne", "(II)Z"⟩, 20), (⟨"AlibiWindowModel", "takesOffset", "(II)Z"⟩, 20), (⟨"AlibiWindowModel", "isInstruction", "(I)Z"⟩, 20), (⟨"AlibiWindowModel", "isEntry", "(I)Z"⟩, 20), (⟨"AlibiWindowModel", "entryNow", "(II)I"⟩, 20), (⟨"AlibiWindowModel", "registerNow", "(II)I"⟩, 20), (⟨"AlibiWindowModel", "goPlain", "()V"⟩, 20), (⟨"AlibiWindowModel", "cellNow", "(II)I"⟩, 20), (⟨"AlibiWindowModel", "counted", "(I)I"⟩, 20), (⟨"AlibiWindowModel", "isFinished", "()Z"⟩, 20), (⟨"AlibiWindowModel", "runNow", "(II)I"⟩, 20), (⟨"AlibiWindowModel", "keep", "()V"⟩, 20), (⟨"AlibiWindowModel", "bring", "()V"⟩, 20), (⟨"AlibiWindowModel", "leftNow", "()I"⟩, 20), (⟨"AlibiWindowModel", "goOn", "()I"⟩, 20), (⟨"AlibiWindowModel", "windowNow", "(I)I"⟩, 20)]
theorem lw_r4 : ∀ q ∈ lw_privs_4, lw_okq q := List.forall_mem_cons.mpr ⟨lw_p48, List.forall_mem_cons.mpr ⟨lw_p49, List.forall_mem_cons.mpr ⟨lw_p50, List.forall_mem_cons.mpr ⟨lw_p51, List.forall_mem_cons.mpr ⟨lw_p52, List.forall_mem_cons.mpr ⟨lw_p53, List.forall_mem_cons.mpr ⟨lw_p54, List.forall_mem_cons.mpr ⟨lw_p55, List.forall_mem_cons.mpr ⟨lw_p56, List.forall_mem_cons.mpr ⟨lw_p57, List.forall_mem_cons.mpr ⟨lw_p58, List.forall_mem_cons.mpr ⟨lw_p59, List.forall_mem_cons.mpr ⟨lw_p60, List.forall_mem_cons.mpr ⟨lw_p61, List.forall_mem_cons.mpr ⟨lw_p62, List.forall_mem_cons.mpr ⟨lw_p63, fun _ h => absurd h List.not_mem_nil⟩⟩⟩⟩⟩⟩⟩⟩⟩⟩⟩⟩⟩⟩⟩⟩
theorem lw_p64 : lw_okq (⟨"AlibiWindowModel", "worstNow", "()I"⟩, 20) := ⟨⟨by decide +kernel, by decide +kernel⟩, List.mem_of_getElem? (i := 757) (by decide +kernel), List.mem_of_getElem? (i := 1154) (by decide +kernel), List.mem_of_getElem? (i := 1155) (by decide +kernel)⟩
theorem lw_p65 : lw_okq (⟨"AlibiWindowModel", "shareNow", "()D"⟩, 20) := ⟨⟨by decide +kernel, by decide +kernel⟩, List.mem_of_getElem? (i := 757) (by decide +kernel), List.mem_of_getElem? (i := 1162) (by decide +kernel), List.mem_of_getElem? (i := 1163) (by decide +kernel)⟩
theorem lw_p66 : lw_okq (⟨"AlibiWindowModel", "mix", "(J)V"⟩, 20) := ⟨⟨by decide +kernel, by decide +kernel⟩, List.mem_of_getElem? (i := 757) (by decide +kernel), List.mem_of_getElem? (i := 1171) (by decide +kernel), List.mem_of_getElem? (i := 1172) (by decide +kernel)⟩
theorem lw_p67 : lw_okq (⟨"AlibiWindowModel", "mixProgram", "()V"⟩, 20) := ⟨⟨by decide +kernel, by decide +kernel⟩, List.mem_of_getElem? (i := 757) (by decide +kernel), List.mem_of_getElem? (i := 1176) (by decide +kernel), List.mem_of_getElem? (i := 1177) (by decide +kernel)⟩
def lw_privs_5 : List (MethodName × Nat) := [(⟨"AlibiWindowModel", "worstNow", "()I"⟩, 20), (⟨"AlibiWindowModel", "shareNow", "()D"⟩, 20), (⟨"AlibiWindowModel", "mix", "(J)V"⟩, 20), (⟨"AlibiWindowModel", "mixProgram", "()V"⟩, 20)]
theorem lw_r5 : ∀ q ∈ lw_privs_5, lw_okq q := List.forall_mem_cons.mpr ⟨lw_p64, List.forall_mem_cons.mpr ⟨lw_p65, List.forall_mem_cons.mpr ⟨lw_p66, List.forall_mem_cons.mpr ⟨lw_p67, fun _ h => absurd h List.not_mem_nil⟩⟩⟩⟩
def lw_privs : List (MethodName × Nat) := lw_privs_1 ++ (lw_privs_2 ++ (lw_privs_3 ++ (lw_privs_4 ++ (lw_privs_5))))
def lw_tbl : List Cond := k2_sels lw_privs ++ tables_1
theorem lw_privs_ok : ∀ q ∈ lw_privs, lw_okq q := by
  show ∀ q ∈ lw_privs_1 ++ (lw_privs_2 ++ (lw_privs_3 ++ (lw_privs_4 ++ (lw_privs_5)))), lw_okq q
  exact List.forall_mem_append.mpr ⟨lw_r1, List.forall_mem_append.mpr ⟨lw_r2, List.forall_mem_append.mpr ⟨lw_r3, List.forall_mem_append.mpr ⟨lw_r4, lw_r5⟩⟩⟩⟩
/-- the streams that the claim lets the run draw from -/
abbrev lw_cs : List Choice := [Jvm.Choice.named "NaN.bits", Jvm.Choice.named "NaN.copy"]
theorem lw_bits : nanBits ∈ lw_cs := by first | decide | exact List.mem_cons_self | simp [lw_cs, nanBits]
def RX0 : String := "AlibiWindow$Floats"
def TX0 : u_T := fun k => match k with
  | _ => ("", "", "", false)
def tyX0 : Nat → FieldType := fun k => match k with
  | _ => .int
abbrev wsX00 : List Cond := u_ws RX0 TX0 0
theorem nmX0 : ∀ a, a < 0 → ∀ b, b < 0 → a ≠ b → (TX0 a).2.1 ≠ (TX0 b).2.1 := by decide +kernel
theorem tyX0_ok : ∀ k, k < 0 → parseFieldDescriptor (TX0 k).2.2.1 = some (tyX0 k) := by decide +kernel
abbrev cX0_isInRange : ByteArray := prog_2_method_2_code
def yX0_isInRange : MethodName := ⟨RX0, "isInRange", "(I)Z"⟩
abbrev cX0_valueOf : ByteArray := prog_2_method_3_code
def yX0_valueOf : MethodName := ⟨RX0, "valueOf", "(I)F"⟩
abbrev cX0_bitsOf : ByteArray := prog_2_method_4_code
def yX0_bitsOf : MethodName := ⟨RX0, "bitsOf", "(FI)I"⟩
abbrev cX0_result : ByteArray := prog_2_method_5_code
def yX0_result : MethodName := ⟨RX0, "result", "(IIII)I"⟩
abbrev cX0_limited : ByteArray := prog_2_method_6_code
def yX0_limited : MethodName := ⟨RX0, "limited", "(F)F"⟩
abbrev cX0_bitsOfShare : ByteArray := prog_2_method_7_code
def yX0_bitsOfShare : MethodName := ⟨RX0, "bitsOfShare", "(D)J"⟩
def RX1 : String := "AlibiWindow$Instruction"
def TX1 : u_T := fun k => match k with
  | 0 => ("AlibiWindow$Instruction", "kind", "I", false)
  | 1 => ("AlibiWindow$Instruction", "r", "I", false)
  | 2 => ("AlibiWindow$Instruction", "p", "I", false)
  | 3 => ("AlibiWindow$Instruction", "q", "I", false)
  | 4 => ("AlibiWindow$Instruction", "number", "I", false)
  | 5 => ("AlibiWindow$Instruction", "distrust", "I", false)
  | 6 => ("AlibiWindow$Instruction", "replays", "I", false)
  | 7 => ("AlibiWindow$Instruction", "stage", "I", false)
  | 8 => ("AlibiWindow$Instruction", "workLeft", "I", false)
  | 9 => ("AlibiWindow$Instruction", "nameOfP", "I", false)
  | 10 => ("AlibiWindow$Instruction", "nameOfQ", "I", false)
  | 11 => ("AlibiWindow$Instruction", "place", "I", false)
  | 12 => ("AlibiWindow$Instruction", "alibi", "I", false)
  | _ => ("AlibiWindow$Instruction", "made", "I", false)
def tyX1 : Nat → FieldType := fun k => match k with
  | 0 => .int
  | 1 => .int
  | 2 => .int
  | 3 => .int
  | 4 => .int
  | 5 => .int
  | 6 => .int
  | 7 => .int
  | 8 => .int
  | 9 => .int
  | 10 => .int
  | 11 => .int
  | 12 => .int
  | _ => .int
abbrev wsX10 : List Cond := u_ws RX1 TX1 14
theorem nmX1 : ∀ a, a < 14 → ∀ b, b < 14 → a ≠ b → (TX1 a).2.1 ≠ (TX1 b).2.1 := by decide +kernel
theorem tyX1_ok : ∀ k, k < 14 → parseFieldDescriptor (TX1 k).2.2.1 = some (tyX1 k) := by decide +kernel
abbrev cX1_init : ByteArray := prog_3_method_1_code
def yX1_init : MethodName := ⟨RX1, "<init>", "()V"⟩
abbrev cX1_become : ByteArray := prog_3_method_2_code
def yX1_become : MethodName := ⟨RX1, "become", "(IIIII)V"⟩
abbrev cX1_becomeLike : ByteArray := prog_3_method_3_code
def yX1_becomeLike : MethodName := ⟨RX1, "becomeLike", "(LAlibiWindow$Instruction;)V"⟩
abbrev cX1_isDone : ByteArray := prog_3_method_4_code
def yX1_isDone : MethodName := ⟨RX1, "isDone", "(I)Z"⟩
abbrev cX1_endsItsWork : ByteArray := prog_3_method_5_code
def yX1_endsItsWork : MethodName := ⟨RX1, "endsItsWork", "()Z"⟩
abbrev cX1_cyclesNeeded : ByteArray := prog_3_method_6_code
def yX1_cyclesNeeded : MethodName := ⟨RX1, "cyclesNeeded", "()I"⟩
abbrev cX1_part : ByteArray := prog_3_method_7_code
def yX1_part : MethodName := ⟨RX1, "part", "(I)I"⟩
def RX2 : String := "AlibiWindow$Machine"
def TX2 : u_T := fun k => match k with
  | 0 => ("AlibiWindow$Machine", "rows", "[LAlibiWindow$Instruction;", true)
  | 1 => ("AlibiWindow$Machine", "nothing", "LAlibiWindow$Instruction;", true)
  | 2 => ("AlibiWindow$Machine", "registers", "[I", true)
  | 3 => ("AlibiWindow$Machine", "memory", "[I", true)
  | 4 => ("AlibiWindow$Machine", "settings", "[I", true)
  | 5 => ("AlibiWindow$Machine", "cycle", "I", false)
  | 6 => ("AlibiWindow$Machine", "length", "I", false)
  | 7 => ("AlibiWindow$Machine", "issued", "I", false)
  | 8 => ("AlibiWindow$Machine", "retired", "I", false)
  | 9 => ("AlibiWindow$Machine", "replays", "I", false)
  | 10 => ("AlibiWindow$Machine", "madeWaiting", "I", false)
  | 11 => ("AlibiWindow$Machine", "retiredEver", "I", false)
  | 12 => ("AlibiWindow$Machine", "loadsMade", "I", false)
  | _ => ("AlibiWindow$Machine", "earlyLoads", "I", false)
def tyX2 : Nat → FieldType := fun k => match k with
  | 0 => .array (.object "AlibiWindow$Instruction")
  | 1 => .object "AlibiWindow$Instruction"
  | 2 => .array .int
  | 3 => .array .int
  | 4 => .array .int
  | 5 => .int
  | 6 => .int
  | 7 => .int
  | 8 => .int
  | 9 => .int
  | 10 => .int
  | 11 => .int
  | 12 => .int
  | _ => .int
abbrev wsX20 : List Cond := u_ws RX2 TX2 14
theorem nmX2 : ∀ a, a < 14 → ∀ b, b < 14 → a ≠ b → (TX2 a).2.1 ≠ (TX2 b).2.1 := by decide +kernel
theorem tyX2_ok : ∀ k, k < 14 → parseFieldDescriptor (TX2 k).2.2.1 = some (tyX2 k) := by decide +kernel
abbrev cX2_init : ByteArray := prog_4_method_1_code
def yX2_init : MethodName := ⟨RX2, "<init>", "()V"⟩
abbrev cX2_greatest : ByteArray := prog_4_method_2_code
def yX2_greatest : MethodName := ⟨RX2, "greatest", "(I)I"⟩
abbrev cX2_becomeLike : ByteArray := prog_4_method_3_code
def yX2_becomeLike : MethodName := ⟨RX2, "becomeLike", "(LAlibiWindow$Machine;)V"⟩
abbrev cX2_beginAnew : ByteArray := prog_4_method_4_code
def yX2_beginAnew : MethodName := ⟨RX2, "beginAnew", "()V"⟩
abbrev cX2_at : ByteArray := prog_4_method_5_code
def yX2_at : MethodName := ⟨RX2, "at", "(I)LAlibiWindow$Instruction;"⟩
abbrev cX2_registerBits : ByteArray := prog_4_method_6_code
def yX2_registerBits : MethodName := ⟨RX2, "registerBits", "(I)I"⟩
abbrev cX2_cellBits : ByteArray := prog_4_method_7_code
def yX2_cellBits : MethodName := ⟨RX2, "cellBits", "(I)I"⟩
abbrev cX2_put : ByteArray := prog_4_method_8_code
def yX2_put : MethodName := ⟨RX2, "put", "(LAlibiWindow$Instruction;)V"⟩
abbrev cX2_entries : ByteArray := prog_4_method_9_code
def yX2_entries : MethodName := ⟨RX2, "entries", "()I"⟩
abbrev cX2_isFinished : ByteArray := prog_4_method_10_code
def yX2_isFinished : MethodName := ⟨RX2, "isFinished", "()Z"⟩
abbrev cX2_number : ByteArray := prog_4_method_11_code
def yX2_number : MethodName := ⟨RX2, "number", "(I)I"⟩
abbrev cX2_property : ByteArray := prog_4_method_12_code
def yX2_property : MethodName := ⟨RX2, "property", "(II)I"⟩
abbrev cX2_hindrance : ByteArray := prog_4_method_13_code
def yX2_hindrance : MethodName := ⟨RX2, "hindrance", "(I)I"⟩
abbrev cX2_isReady : ByteArray := prog_4_method_14_code
def yX2_isReady : MethodName := ⟨RX2, "isReady", "(I)Z"⟩
abbrev cX2_hasOpenStoreAhead : ByteArray := prog_4_method_15_code
def yX2_hasOpenStoreAhead : MethodName := ⟨RX2, "hasOpenStoreAhead", "(I)Z"⟩
abbrev cX2_latestMaker : ByteArray := prog_4_method_16_code
def yX2_latestMaker : MethodName := ⟨RX2, "latestMaker", "(II)I"⟩
abbrev cX2_latestStore : ByteArray := prog_4_method_17_code
def yX2_latestStore : MethodName := ⟨RX2, "latestStore", "(II)I"⟩
abbrev cX2_passCycles : ByteArray := prog_4_method_18_code
def yX2_passCycles : MethodName := ⟨RX2, "passCycles", "(I)V"⟩
abbrev cX2_cyclesToEnd : ByteArray := prog_4_method_19_code
def yX2_cyclesToEnd : MethodName := ⟨RX2, "cyclesToEnd", "(I)I"⟩
abbrev cX2_passCycle : ByteArray := prog_4_method_20_code
def yX2_passCycle : MethodName := ⟨RX2, "passCycle", "()V"⟩
abbrev cX2_retireEntries : ByteArray := prog_4_method_21_code
def yX2_retireEntries : MethodName := ⟨RX2, "retireEntries", "()V"⟩
abbrev cX2_finish : ByteArray := prog_4_method_22_code
def yX2_finish : MethodName := ⟨RX2, "finish", "(ILAlibiWindow$Instruction;)V"⟩
abbrev cX2_operand : ByteArray := prog_4_method_23_code
def yX2_operand : MethodName := ⟨RX2, "operand", "(II)I"⟩
abbrev cX2_finishLoad : ByteArray := prog_4_method_24_code
def yX2_finishLoad : MethodName := ⟨RX2, "finishLoad", "(ILAlibiWindow$Instruction;I)V"⟩
abbrev cX2_breakAlibis : ByteArray := prog_4_method_25_code
def yX2_breakAlibis : MethodName := ⟨RX2, "breakAlibis", "(II)V"⟩
abbrev cX2_replay : ByteArray := prog_4_method_26_code
def yX2_replay : MethodName := ⟨RX2, "replay", "(ILAlibiWindow$Instruction;)V"⟩
abbrev cX2_startEntries : ByteArray := prog_4_method_27_code
def yX2_startEntries : MethodName := ⟨RX2, "startEntries", "()V"⟩
abbrev cX2_issueInstructions : ByteArray := prog_4_method_28_code
def yX2_issueInstructions : MethodName := ⟨RX2, "issueInstructions", "()V"⟩
abbrev cX2_carryOutPlainly : ByteArray := prog_4_method_29_code
def yX2_carryOutPlainly : MethodName := ⟨RX2, "carryOutPlainly", "()V"⟩
abbrev cX2_placeOf : ByteArray := prog_4_method_30_code
def yX2_placeOf : MethodName := ⟨RX2, "placeOf", "(II)I"⟩
def RX3 : String := "AlibiWindow$Text"
def TX3 : u_T := fun k => match k with
  | 0 => ("AlibiWindow$Text", "signs", "[C", true)
  | _ => ("AlibiWindow$Text", "length", "I", false)
def tyX3 : Nat → FieldType := fun k => match k with
  | 0 => .array .char
  | _ => .int
abbrev wsX30 : List Cond := u_ws RX3 TX3 2
theorem nmX3 : ∀ a, a < 2 → ∀ b, b < 2 → a ≠ b → (TX3 a).2.1 ≠ (TX3 b).2.1 := by decide +kernel
theorem tyX3_ok : ∀ k, k < 2 → parseFieldDescriptor (TX3 k).2.2.1 = some (tyX3 k) := by decide +kernel
abbrev cX3_init : ByteArray := prog_5_method_1_code
def yX3_init : MethodName := ⟨RX3, "<init>", "()V"⟩
abbrev cX3_add : ByteArray := prog_5_method_2_code
def yX3_add : MethodName := ⟨RX3, "add", "(C)V"⟩
abbrev cX3_signAt : ByteArray := prog_5_method_3_code
def yX3_signAt : MethodName := ⟨RX3, "signAt", "(I)C"⟩
abbrev cX3_rightSigns : ByteArray := prog_5_method_4_code
def yX3_rightSigns : MethodName := ⟨RX3, "rightSigns", "()I"⟩
abbrev cX3_isComplete : ByteArray := prog_5_method_5_code
def yX3_isComplete : MethodName := ⟨RX3, "isComplete", "()Z"⟩
abbrev cX3_instructions : ByteArray := prog_5_method_6_code
def yX3_instructions : MethodName := ⟨RX3, "instructions", "()I"⟩
abbrev cX3_nextInstruction : ByteArray := prog_5_method_7_code
def yX3_nextInstruction : MethodName := ⟨RX3, "nextInstruction", "(I)I"⟩
abbrev cX3_readInstruction : ByteArray := prog_5_method_8_code
def yX3_readInstruction : MethodName := ⟨RX3, "readInstruction", "(ILAlibiWindow$Instruction;)V"⟩
abbrev cX3_registerAt : ByteArray := prog_5_method_9_code
def yX3_registerAt : MethodName := ⟨RX3, "registerAt", "(I)I"⟩
abbrev cX3_digitAt : ByteArray := prog_5_method_10_code
def yX3_digitAt : MethodName := ⟨RX3, "digitAt", "(I)I"⟩
abbrev cX3_numberAt : ByteArray := prog_5_method_11_code
def yX3_numberAt : MethodName := ⟨RX3, "numberAt", "(I)I"⟩
abbrev cX3_hashAll : ByteArray := prog_5_method_12_code
def yX3_hashAll : MethodName := ⟨RX3, "hashAll", "(J)J"⟩
abbrev cX3_isRegister : ByteArray := prog_5_method_13_code
def yX3_isRegister : MethodName := ⟨RX3, "isRegister", "(C)Z"⟩
abbrev cX3_isDigit : ByteArray := prog_5_method_14_code
def yX3_isDigit : MethodName := ⟨RX3, "isDigit", "(C)Z"⟩
abbrev cX3_next : ByteArray := prog_5_method_15_code
def yX3_next : MethodName := ⟨RX3, "next", "(IC)I"⟩
abbrev cX3_ifRegister : ByteArray := prog_5_method_16_code
def yX3_ifRegister : MethodName := ⟨RX3, "ifRegister", "(CI)I"⟩
abbrev cX3_nextOfRightSide : ByteArray := prog_5_method_17_code
def yX3_nextOfRightSide : MethodName := ⟨RX3, "nextOfRightSide", "(C)I"⟩
abbrev cX3_nextOfNumber : ByteArray := prog_5_method_18_code
def yX3_nextOfNumber : MethodName := ⟨RX3, "nextOfNumber", "(C)I"⟩
abbrev cX3_nextOfEnd : ByteArray := prog_5_method_19_code
def yX3_nextOfEnd : MethodName := ⟨RX3, "nextOfEnd", "(C)I"⟩
def RX4 : String := "AlibiWindow"
def TX4 : u_T := fun k => match k with
  | 0 => ("AlibiWindow", "now", "LAlibiWindow$Machine;", true)
  | 1 => ("AlibiWindow", "rehearsal", "LAlibiWindow$Machine;", true)
  | 2 => ("AlibiWindow", "saved", "[LAlibiWindow$Machine;", true)
  | 3 => ("AlibiWindow", "buffer", "LAlibiWindow$Text;", true)
  | 4 => ("AlibiWindow", "best", "[I", true)
  | _ => ("AlibiWindow", "savedStates", "I", false)
def tyX4 : Nat → FieldType := fun k => match k with
  | 0 => .object "AlibiWindow$Machine"
  | 1 => .object "AlibiWindow$Machine"
  | 2 => .array (.object "AlibiWindow$Machine")
  | 3 => .object "AlibiWindow$Text"
  | 4 => .array .int
  | _ => .int
abbrev wsX40 : List Cond := u_ws RX4 TX4 6
theorem nmX4 : ∀ a, a < 6 → ∀ b, b < 6 → a ≠ b → (TX4 a).2.1 ≠ (TX4 b).2.1 := by decide +kernel
theorem tyX4_ok : ∀ k, k < 6 → parseFieldDescriptor (TX4 k).2.2.1 = some (tyX4 k) := by decide +kernel
abbrev cX4_init : ByteArray := prog_1_method_1_code
def yX4_init : MethodName := ⟨RX4, "<init>", "()V"⟩
abbrev cX4_set : ByteArray := prog_1_method_2_code
def yX4_set : MethodName := ⟨RX4, "set", "(II)I"⟩
abbrev cX4_putRegister : ByteArray := prog_1_method_3_code
def yX4_putRegister : MethodName := ⟨RX4, "putRegister", "(II)I"⟩
abbrev cX4_putCell : ByteArray := prog_1_method_4_code
def yX4_putCell : MethodName := ⟨RX4, "putCell", "(II)I"⟩
abbrev cX4_putValue : ByteArray := prog_1_method_5_code
def yX4_putValue : MethodName := ⟨RX4, "putValue", "([III)I"⟩
abbrev cX4_run : ByteArray := prog_1_method_6_code
def yX4_run : MethodName := ⟨RX4, "run", "(I)I"⟩
abbrev cX4_checkCycles : ByteArray := prog_1_method_7_code
def yX4_checkCycles : MethodName := ⟨RX4, "checkCycles", "(I)V"⟩
abbrev cX4_flush : ByteArray := prog_1_method_8_code
def yX4_flush : MethodName := ⟨RX4, "flush", "()I"⟩
abbrev cX4_again : ByteArray := prog_1_method_9_code
def yX4_again : MethodName := ⟨RX4, "again", "()I"⟩
abbrev cX4_append : ByteArray := prog_1_method_10_code
def yX4_append : MethodName := ⟨RX4, "append", "(I)I"⟩
abbrev cX4_clearBuffer : ByteArray := prog_1_method_11_code
def yX4_clearBuffer : MethodName := ⟨RX4, "clearBuffer", "()I"⟩
abbrev cX4_firstError : ByteArray := prog_1_method_12_code
def yX4_firstError : MethodName := ⟨RX4, "firstError", "()I"⟩
abbrev cX4_load : ByteArray := prog_1_method_13_code
def yX4_load : MethodName := ⟨RX4, "load", "()I"⟩
abbrev cX4_undo : ByteArray := prog_1_method_14_code
def yX4_undo : MethodName := ⟨RX4, "undo", "()I"⟩
abbrev cX4_saveState : ByteArray := prog_1_method_15_code
def yX4_saveState : MethodName := ⟨RX4, "saveState", "()V"⟩
abbrev cX4_instruction : ByteArray := prog_1_method_16_code
def yX4_instruction : MethodName := ⟨RX4, "instruction", "(II)I"⟩
abbrev cX4_entry : ByteArray := prog_1_method_17_code
def yX4_entry : MethodName := ⟨RX4, "entry", "(II)I"⟩
abbrev cX4_whyNot : ByteArray := prog_1_method_18_code
def yX4_whyNot : MethodName := ⟨RX4, "whyNot", "(I)I"⟩
abbrev cX4_register : ByteArray := prog_1_method_19_code
def yX4_register : MethodName := ⟨RX4, "register", "(II)I"⟩
abbrev cX4_cell : ByteArray := prog_1_method_20_code
def yX4_cell : MethodName := ⟨RX4, "cell", "(II)I"⟩
abbrev cX4_count : ByteArray := prog_1_method_21_code
def yX4_count : MethodName := ⟨RX4, "count", "(I)I"⟩
abbrev cX4_setting : ByteArray := prog_1_method_22_code
def yX4_setting : MethodName := ⟨RX4, "setting", "(I)I"⟩
abbrev cX4_checkPlace : ByteArray := prog_1_method_23_code
def yX4_checkPlace : MethodName := ⟨RX4, "checkPlace", "(II)V"⟩
abbrev cX4_checkWhat : ByteArray := prog_1_method_24_code
def yX4_checkWhat : MethodName := ⟨RX4, "checkWhat", "(II)V"⟩
abbrev cX4_registerFact : ByteArray := prog_1_method_25_code
def yX4_registerFact : MethodName := ⟨RX4, "registerFact", "(II)I"⟩
abbrev cX4_cellFact : ByteArray := prog_1_method_26_code
def yX4_cellFact : MethodName := ⟨RX4, "cellFact", "(II)I"⟩
abbrev cX4_ifRun : ByteArray := prog_1_method_27_code
def yX4_ifRun : MethodName := ⟨RX4, "ifRun", "(II)I"⟩
abbrev cX4_cyclesLeft : ByteArray := prog_1_method_28_code
def yX4_cyclesLeft : MethodName := ⟨RX4, "cyclesLeft", "()I"⟩
abbrev cX4_bestWindow : ByteArray := prog_1_method_29_code
def yX4_bestWindow : MethodName := ⟨RX4, "bestWindow", "(I)I"⟩
abbrev cX4_worstLoad : ByteArray := prog_1_method_30_code
def yX4_worstLoad : MethodName := ⟨RX4, "worstLoad", "()I"⟩
abbrev cX4_earlyShare : ByteArray := prog_1_method_31_code
def yX4_earlyShare : MethodName := ⟨RX4, "earlyShare", "()D"⟩
abbrev cX4_digest : ByteArray := prog_1_method_32_code
def yX4_digest : MethodName := ⟨RX4, "digest", "()J"⟩
abbrev cX4_hashNumbers : ByteArray := prog_1_method_33_code
def yX4_hashNumbers : MethodName := ⟨RX4, "hashNumbers", "(J)J"⟩
abbrev cX4_hashProgram : ByteArray := prog_1_method_34_code
def yX4_hashProgram : MethodName := ⟨RX4, "hashProgram", "(J)J"⟩
abbrev cX4_hashValues : ByteArray := prog_1_method_35_code
def yX4_hashValues : MethodName := ⟨RX4, "hashValues", "(J)J"⟩
abbrev cX4_rehearsePlainOrder : ByteArray := prog_1_method_36_code
def yX4_rehearsePlainOrder : MethodName := ⟨RX4, "rehearsePlainOrder", "()V"⟩
abbrev cX4_rehearseCycles : ByteArray := prog_1_method_37_code
def yX4_rehearseCycles : MethodName := ⟨RX4, "rehearseCycles", "(I)V"⟩
abbrev cX4_rehearsed : ByteArray := prog_1_method_38_code
def yX4_rehearsed : MethodName := ⟨RX4, "rehearsed", "(I)I"⟩
abbrev cX4_rehearseWindows : ByteArray := prog_1_method_39_code
def yX4_rehearseWindows : MethodName := ⟨RX4, "rehearseWindows", "()V"⟩
def RX5 : String := "AlibiWindowModel"
def TX5 : u_T := fun k => match k with
  | 0 => ("AlibiWindowModel", "z", "[I", true)
  | 1 => ("AlibiWindowModel", "aside", "[I", true)
  | 2 => ("AlibiWindowModel", "rows", "[I", true)
  | 3 => ("AlibiWindowModel", "text", "[I", true)
  | 4 => ("AlibiWindowModel", "kinds", "[I", true)
  | 5 => ("AlibiWindowModel", "targets", "[I", true)
  | 6 => ("AlibiWindowModel", "ones", "[I", true)
  | 7 => ("AlibiWindowModel", "others", "[I", true)
  | 8 => ("AlibiWindowModel", "numbers", "[I", true)
  | 9 => ("AlibiWindowModel", "registers", "[I", true)
  | 10 => ("AlibiWindowModel", "cells", "[I", true)
  | 11 => ("AlibiWindowModel", "read", "I", false)
  | 12 => ("AlibiWindowModel", "sign", "I", false)
  | 13 => ("AlibiWindowModel", "state", "I", false)
  | 14 => ("AlibiWindowModel", "saved", "I", false)
  | 15 => ("AlibiWindowModel", "length", "I", false)
  | 16 => ("AlibiWindowModel", "thrown", "I", false)
  | 17 => ("AlibiWindowModel", "bestCycles", "I", false)
  | 18 => ("AlibiWindowModel", "bestReplays", "I", false)
  | _ => ("AlibiWindowModel", "h", "J", false)
def tyX5 : Nat → FieldType := fun k => match k with
  | 0 => .array .int
  | 1 => .array .int
  | 2 => .array .int
  | 3 => .array .int
  | 4 => .array .int
  | 5 => .array .int
  | 6 => .array .int
  | 7 => .array .int
  | 8 => .array .int
  | 9 => .array .int
  | 10 => .array .int
  | 11 => .int
  | 12 => .int
  | 13 => .int
  | 14 => .int
  | 15 => .int
  | 16 => .int
  | 17 => .int
  | 18 => .int
  | _ => .long
abbrev wsX50 : List Cond := u_ws RX5 TX5 20
theorem nmX5 : ∀ a, a < 20 → ∀ b, b < 20 → a ≠ b → (TX5 a).2.1 ≠ (TX5 b).2.1 := by decide +kernel
theorem tyX5_ok : ∀ k, k < 20 → parseFieldDescriptor (TX5 k).2.2.1 = some (tyX5 k) := by decide +kernel
abbrev cX5_init : ByteArray := prog_7_method_1_code
def yX5_init : MethodName := ⟨RX5, "<init>", "()V"⟩
abbrev cX5_thrown : ByteArray := prog_7_method_2_code
def yX5_thrown : MethodName := ⟨RX5, "thrown", "()I"⟩
abbrev cX5_fails : ByteArray := prog_7_method_3_code
def yX5_fails : MethodName := ⟨RX5, "fails", "(I)I"⟩
abbrev cX5_within : ByteArray := prog_7_method_4_code
def yX5_within : MethodName := ⟨RX5, "within", "(III)Z"⟩
abbrev cX5_of : ByteArray := prog_7_method_5_code
def yX5_of : MethodName := ⟨RX5, "of", "(II)I"⟩
abbrev cX5_lay : ByteArray := prog_7_method_6_code
def yX5_lay : MethodName := ⟨RX5, "lay", "(III)V"⟩
abbrev cX5_rule : ByteArray := prog_7_method_7_code
def yX5_rule : MethodName := ⟨RX5, "rule", "(I)I"⟩
abbrev cX5_save : ByteArray := prog_7_method_8_code
def yX5_save : MethodName := ⟨RX5, "save", "()V"⟩
abbrev cX5_keep : ByteArray := prog_7_method_9_code
def yX5_keep : MethodName := ⟨RX5, "keep", "()V"⟩
abbrev cX5_bring : ByteArray := prog_7_method_10_code
def yX5_bring : MethodName := ⟨RX5, "bring", "()V"⟩
abbrev cX5_entries : ByteArray := prog_7_method_11_code
def yX5_entries : MethodName := ⟨RX5, "entries", "()I"⟩
abbrev cX5_set : ByteArray := prog_7_method_12_code
def yX5_set : MethodName := ⟨RX5, "set", "(II)I"⟩
abbrev cX5_isValue : ByteArray := prog_7_method_13_code
def yX5_isValue : MethodName := ⟨RX5, "isValue", "(I)Z"⟩
abbrev cX5_puts : ByteArray := prog_7_method_14_code
def yX5_puts : MethodName := ⟨RX5, "puts", "(II)I"⟩
abbrev cX5_putRegister : ByteArray := prog_7_method_15_code
def yX5_putRegister : MethodName := ⟨RX5, "putRegister", "(II)I"⟩
abbrev cX5_putCell : ByteArray := prog_7_method_16_code
def yX5_putCell : MethodName := ⟨RX5, "putCell", "(II)I"⟩
abbrev cX5_makes : ByteArray := prog_7_method_17_code
def yX5_makes : MethodName := ⟨RX5, "makes", "(II)Z"⟩
abbrev cX5_maker : ByteArray := prog_7_method_18_code
def yX5_maker : MethodName := ⟨RX5, "maker", "(II)I"⟩
abbrev cX5_hasOne : ByteArray := prog_7_method_19_code
def yX5_hasOne : MethodName := ⟨RX5, "hasOne", "(I)Z"⟩
abbrev cX5_hasOther : ByteArray := prog_7_method_20_code
def yX5_hasOther : MethodName := ⟨RX5, "hasOther", "(I)Z"⟩
abbrev cX5_isReady : ByteArray := prog_7_method_21_code
def yX5_isReady : MethodName := ⟨RX5, "isReady", "(II)Z"⟩
abbrev cX5_valueOf : ByteArray := prog_7_method_22_code
def yX5_valueOf : MethodName := ⟨RX5, "valueOf", "(II)I"⟩
abbrev cX5_cellOf : ByteArray := prog_7_method_23_code
def yX5_cellOf : MethodName := ⟨RX5, "cellOf", "(II)I"⟩
abbrev cX5_result : ByteArray := prog_7_method_24_code
def yX5_result : MethodName := ⟨RX5, "result", "(III)I"⟩
abbrev cX5_setTo : ByteArray := prog_7_method_25_code
def yX5_setTo : MethodName := ⟨RX5, "setTo", "(I)I"⟩
abbrev cX5_retire : ByteArray := prog_7_method_26_code
def yX5_retire : MethodName := ⟨RX5, "retire", "()V"⟩
abbrev cX5_finishLoad : ByteArray := prog_7_method_27_code
def yX5_finishLoad : MethodName := ⟨RX5, "finishLoad", "(I)V"⟩
abbrev cX5_isBroken : ByteArray := prog_7_method_28_code
def yX5_isBroken : MethodName := ⟨RX5, "isBroken", "(II)Z"⟩
abbrev cX5_finishStore : ByteArray := prog_7_method_29_code
def yX5_finishStore : MethodName := ⟨RX5, "finishStore", "(I)V"⟩
abbrev cX5_finish : ByteArray := prog_7_method_30_code
def yX5_finish : MethodName := ⟨RX5, "finish", "(I)V"⟩
abbrev cX5_work : ByteArray := prog_7_method_31_code
def yX5_work : MethodName := ⟨RX5, "work", "()V"⟩
abbrev cX5_isOpenStore : ByteArray := prog_7_method_32_code
def yX5_isOpenStore : MethodName := ⟨RX5, "isOpenStore", "(I)Z"⟩
abbrev cX5_reason : ByteArray := prog_7_method_33_code
def yX5_reason : MethodName := ⟨RX5, "reason", "(I)I"⟩
abbrev cX5_needs : ByteArray := prog_7_method_34_code
def yX5_needs : MethodName := ⟨RX5, "needs", "(I)I"⟩
abbrev cX5_cycle : ByteArray := prog_7_method_35_code
def yX5_cycle : MethodName := ⟨RX5, "cycle", "()I"⟩
abbrev cX5_run : ByteArray := prog_7_method_36_code
def yX5_run : MethodName := ⟨RX5, "run", "(I)I"⟩
abbrev cX5_flush : ByteArray := prog_7_method_37_code
def yX5_flush : MethodName := ⟨RX5, "flush", "()I"⟩
abbrev cX5_begin : ByteArray := prog_7_method_38_code
def yX5_begin : MethodName := ⟨RX5, "begin", "()V"⟩
abbrev cX5_again : ByteArray := prog_7_method_39_code
def yX5_again : MethodName := ⟨RX5, "again", "()I"⟩
abbrev cX5_append : ByteArray := prog_7_method_40_code
def yX5_append : MethodName := ⟨RX5, "append", "(I)I"⟩
abbrev cX5_clearBuffer : ByteArray := prog_7_method_41_code
def yX5_clearBuffer : MethodName := ⟨RX5, "clearBuffer", "()I"⟩
abbrev cX5_goes : ByteArray := prog_7_method_42_code
def yX5_goes : MethodName := ⟨RX5, "goes", "(ZI)Z"⟩
abbrev cX5_isRegister : ByteArray := prog_7_method_43_code
def yX5_isRegister : MethodName := ⟨RX5, "isRegister", "(I)Z"⟩
abbrev cX5_isFigure : ByteArray := prog_7_method_44_code
def yX5_isFigure : MethodName := ⟨RX5, "isFigure", "(I)Z"⟩
abbrev cX5_begins : ByteArray := prog_7_method_45_code
def yX5_begins : MethodName := ⟨RX5, "begins", "(I)Z"⟩
abbrev cX5_takesRight : ByteArray := prog_7_method_46_code
def yX5_takesRight : MethodName := ⟨RX5, "takesRight", "(I)Z"⟩
abbrev cX5_takesFigure : ByteArray := prog_7_method_47_code
def yX5_takesFigure : MethodName := ⟨RX5, "takesFigure", "(I)Z"⟩
abbrev cX5_takesSign : ByteArray := prog_7_method_48_code
def yX5_takesSign : MethodName := ⟨RX5, "takesSign", "(I)Z"⟩
abbrev cX5_takesSecond : ByteArray := prog_7_method_49_code
def yX5_takesSecond : MethodName := ⟨RX5, "takesSecond", "(I)Z"⟩
abbrev cX5_ends : ByteArray := prog_7_method_50_code
def yX5_ends : MethodName := ⟨RX5, "ends", "(I)Z"⟩
abbrev cX5_takesOne : ByteArray := prog_7_method_51_code
def yX5_takesOne : MethodName := ⟨RX5, "takesOne", "(II)Z"⟩
abbrev cX5_takesOther : ByteArray := prog_7_method_52_code
def yX5_takesOther : MethodName := ⟨RX5, "takesOther", "(I)Z"⟩
abbrev cX5_takesOffset : ByteArray := prog_7_method_53_code
def yX5_takesOffset : MethodName := ⟨RX5, "takesOffset", "(II)Z"⟩
abbrev cX5_takes : ByteArray := prog_7_method_54_code
def yX5_takes : MethodName := ⟨RX5, "takes", "(I)Z"⟩
abbrev cX5_scan : ByteArray := prog_7_method_55_code
def yX5_scan : MethodName := ⟨RX5, "scan", "()I"⟩
abbrev cX5_firstError : ByteArray := prog_7_method_56_code
def yX5_firstError : MethodName := ⟨RX5, "firstError", "()I"⟩
abbrev cX5_load : ByteArray := prog_7_method_57_code
def yX5_load : MethodName := ⟨RX5, "load", "()I"⟩
abbrev cX5_undo : ByteArray := prog_7_method_58_code
def yX5_undo : MethodName := ⟨RX5, "undo", "()I"⟩
abbrev cX5_isInstruction : ByteArray := prog_7_method_59_code
def yX5_isInstruction : MethodName := ⟨RX5, "isInstruction", "(I)Z"⟩
abbrev cX5_instruction : ByteArray := prog_7_method_60_code
def yX5_instruction : MethodName := ⟨RX5, "instruction", "(II)I"⟩
abbrev cX5_entryNow : ByteArray := prog_7_method_61_code
def yX5_entryNow : MethodName := ⟨RX5, "entryNow", "(II)I"⟩
abbrev cX5_isEntry : ByteArray := prog_7_method_62_code
def yX5_isEntry : MethodName := ⟨RX5, "isEntry", "(I)Z"⟩
abbrev cX5_entry : ByteArray := prog_7_method_63_code
def yX5_entry : MethodName := ⟨RX5, "entry", "(II)I"⟩
abbrev cX5_whyNot : ByteArray := prog_7_method_64_code
def yX5_whyNot : MethodName := ⟨RX5, "whyNot", "(I)I"⟩
abbrev cX5_goPlain : ByteArray := prog_7_method_65_code
def yX5_goPlain : MethodName := ⟨RX5, "goPlain", "()V"⟩
abbrev cX5_registerNow : ByteArray := prog_7_method_66_code
def yX5_registerNow : MethodName := ⟨RX5, "registerNow", "(II)I"⟩
abbrev cX5_register : ByteArray := prog_7_method_67_code
def yX5_register : MethodName := ⟨RX5, "register", "(II)I"⟩
abbrev cX5_cellNow : ByteArray := prog_7_method_68_code
def yX5_cellNow : MethodName := ⟨RX5, "cellNow", "(II)I"⟩
abbrev cX5_cell : ByteArray := prog_7_method_69_code
def yX5_cell : MethodName := ⟨RX5, "cell", "(II)I"⟩
abbrev cX5_isFinished : ByteArray := prog_7_method_70_code
def yX5_isFinished : MethodName := ⟨RX5, "isFinished", "()Z"⟩
abbrev cX5_counted : ByteArray := prog_7_method_71_code
def yX5_counted : MethodName := ⟨RX5, "counted", "(I)I"⟩
abbrev cX5_count : ByteArray := prog_7_method_72_code
def yX5_count : MethodName := ⟨RX5, "count", "(I)I"⟩
abbrev cX5_setting : ByteArray := prog_7_method_73_code
def yX5_setting : MethodName := ⟨RX5, "setting", "(I)I"⟩
abbrev cX5_runNow : ByteArray := prog_7_method_74_code
def yX5_runNow : MethodName := ⟨RX5, "runNow", "(II)I"⟩
abbrev cX5_ifRun : ByteArray := prog_7_method_75_code
def yX5_ifRun : MethodName := ⟨RX5, "ifRun", "(II)I"⟩
abbrev cX5_goOn : ByteArray := prog_7_method_76_code
def yX5_goOn : MethodName := ⟨RX5, "goOn", "()I"⟩
abbrev cX5_leftNow : ByteArray := prog_7_method_77_code
def yX5_leftNow : MethodName := ⟨RX5, "leftNow", "()I"⟩
abbrev cX5_cyclesLeft : ByteArray := prog_7_method_78_code
def yX5_cyclesLeft : MethodName := ⟨RX5, "cyclesLeft", "()I"⟩
abbrev cX5_windowNow : ByteArray := prog_7_method_79_code
def yX5_windowNow : MethodName := ⟨RX5, "windowNow", "(I)I"⟩
abbrev cX5_bestWindow : ByteArray := prog_7_method_80_code
def yX5_bestWindow : MethodName := ⟨RX5, "bestWindow", "(I)I"⟩
abbrev cX5_worstNow : ByteArray := prog_7_method_81_code
def yX5_worstNow : MethodName := ⟨RX5, "worstNow", "()I"⟩
abbrev cX5_worstLoad : ByteArray := prog_7_method_82_code
def yX5_worstLoad : MethodName := ⟨RX5, "worstLoad", "()I"⟩
abbrev cX5_shareNow : ByteArray := prog_7_method_83_code
def yX5_shareNow : MethodName := ⟨RX5, "shareNow", "()D"⟩
abbrev cX5_earlyShare : ByteArray := prog_7_method_84_code
def yX5_earlyShare : MethodName := ⟨RX5, "earlyShare", "()D"⟩
abbrev cX5_mix : ByteArray := prog_7_method_85_code
def yX5_mix : MethodName := ⟨RX5, "mix", "(J)V"⟩
abbrev cX5_mixProgram : ByteArray := prog_7_method_86_code
def yX5_mixProgram : MethodName := ⟨RX5, "mixProgram", "()V"⟩
abbrev cX5_digest : ByteArray := prog_7_method_87_code
def yX5_digest : MethodName := ⟨RX5, "digest", "()J"⟩
def RJxe99ae : String := "java/lang/Double"
def TJxe99ae : u_T := fun k => match k with
  | _ => ("", "", "", false)
def tyJxe99ae : Nat → FieldType := fun k => match k with
  | _ => .int
abbrev wsJxe99ae0 : List Cond := u_ws RJxe99ae TJxe99ae 0
theorem nmJxe99ae : ∀ a, a < 0 → ∀ b, b < 0 → a ≠ b → (TJxe99ae a).2.1 ≠ (TJxe99ae b).2.1 := by decide +kernel
theorem tyJxe99ae_ok : ∀ k, k < 0 → parseFieldDescriptor (TJxe99ae k).2.2.1 = some (tyJxe99ae k) := by decide +kernel
abbrev cJxe99ae_isNaN_b9ae7 : ByteArray := prog_8_method_6_code
def yJxe99ae_isNaN_b9ae7 : MethodName := ⟨RJxe99ae, "isNaN", "(D)Z"⟩
abbrev cJxe99ae_doubleToLongBits_ccdee : ByteArray := prog_8_method_23_code
def yJxe99ae_doubleToLongBits_ccdee : MethodName := ⟨RJxe99ae, "doubleToLongBits", "(D)J"⟩
def RJxf58ca : String := "java/lang/Float"
def TJxf58ca : u_T := fun k => match k with
  | _ => ("", "", "", false)
def tyJxf58ca : Nat → FieldType := fun k => match k with
  | _ => .int
abbrev wsJxf58ca0 : List Cond := u_ws RJxf58ca TJxf58ca 0
theorem nmJxf58ca : ∀ a, a < 0 → ∀ b, b < 0 → a ≠ b → (TJxf58ca a).2.1 ≠ (TJxf58ca b).2.1 := by decide +kernel
theorem tyJxf58ca_ok : ∀ k, k < 0 → parseFieldDescriptor (TJxf58ca k).2.2.1 = some (tyJxf58ca k) := by decide +kernel
abbrev cJxf58ca_isNaN_12338 : ByteArray := prog_10_method_6_code
def yJxf58ca_isNaN_12338 : MethodName := ⟨RJxf58ca, "isNaN", "(F)Z"⟩
abbrev cJxf58ca_floatToIntBits_5c35a : ByteArray := prog_10_method_24_code
def yJxf58ca_floatToIntBits_5c35a : MethodName := ⟨RJxf58ca, "floatToIntBits", "(F)I"⟩
def RJ9 : String := "java/lang/Math"
def TJ9 : u_T := fun k => match k with
  | _ => ("", "", "", false)
def tyJ9 : Nat → FieldType := fun k => match k with
  | _ => .int
abbrev wsJ90 : List Cond := u_ws RJ9 TJ9 0
theorem nmJ9 : ∀ a, a < 0 → ∀ b, b < 0 → a ≠ b → (TJ9 a).2.1 ≠ (TJ9 b).2.1 := by decide +kernel
theorem tyJ9_ok : ∀ k, k < 0 → parseFieldDescriptor (TJ9 k).2.2.1 = some (tyJ9 k) := by decide +kernel
abbrev cJ9_floorMod_7cf53 : ByteArray := prog_14_method_50_code
def yJ9_floorMod_7cf53 : MethodName := ⟨RJ9, "floorMod", "(II)I"⟩
def RJ0 : String := "java/lang/String"
def TJ0 : u_T := fun k => match k with
  | _ => ("", "", "", false)
def tyJ0 : Nat → FieldType := fun k => match k with
  | _ => .int
abbrev wsJ00 : List Cond := u_ws RJ0 TJ0 0
theorem nmJ0 : ∀ a, a < 0 → ∀ b, b < 0 → a ≠ b → (TJ0 a).2.1 ≠ (TJ0 b).2.1 := by decide +kernel
theorem tyJ0_ok : ∀ k, k < 0 → parseFieldDescriptor (TJ0 k).2.2.1 = some (tyJ0 k) := by decide +kernel
def RJ10 : String := "java/lang/System"
def TJ10 : u_T := fun k => match k with
  | _ => ("", "", "", false)
def tyJ10 : Nat → FieldType := fun k => match k with
  | _ => .int
abbrev wsJ100 : List Cond := u_ws RJ10 TJ10 0
theorem nmJ10 : ∀ a, a < 0 → ∀ b, b < 0 → a ≠ b → (TJ10 a).2.1 ≠ (TJ10 b).2.1 := by decide +kernel
theorem tyJ10_ok : ∀ k, k < 0 → parseFieldDescriptor (TJ10 k).2.2.1 = some (tyJ10 k) := by decide +kernel
def RL : String := "AlibiWindowLaw"
abbrev cL_set : ByteArray := method_3_code
def yL_set : MethodName := ⟨RL, "set", "(LAlibiWindow;II[J)I"⟩
abbrev cL_putRegister : ByteArray := method_4_code
def yL_putRegister : MethodName := ⟨RL, "putRegister", "(LAlibiWindow;II[J)I"⟩
abbrev cL_putCell : ByteArray := method_5_code
def yL_putCell : MethodName := ⟨RL, "putCell", "(LAlibiWindow;II[J)I"⟩
abbrev cL_run : ByteArray := method_6_code
def yL_run : MethodName := ⟨RL, "run", "(LAlibiWindow;I[J)I"⟩
abbrev cL_append : ByteArray := method_7_code
def yL_append : MethodName := ⟨RL, "append", "(LAlibiWindow;I[J)I"⟩
abbrev cL_load : ByteArray := method_8_code
def yL_load : MethodName := ⟨RL, "load", "(LAlibiWindow;[J)I"⟩
abbrev cL_undo : ByteArray := method_9_code
def yL_undo : MethodName := ⟨RL, "undo", "(LAlibiWindow;[J)I"⟩
abbrev cL_instruction : ByteArray := method_10_code
def yL_instruction : MethodName := ⟨RL, "instruction", "(LAlibiWindow;II[J)I"⟩
abbrev cL_entry : ByteArray := method_11_code
def yL_entry : MethodName := ⟨RL, "entry", "(LAlibiWindow;II[J)I"⟩
abbrev cL_whyNot : ByteArray := method_12_code
def yL_whyNot : MethodName := ⟨RL, "whyNot", "(LAlibiWindow;I[J)I"⟩
abbrev cL_register : ByteArray := method_13_code
def yL_register : MethodName := ⟨RL, "register", "(LAlibiWindow;II[J)I"⟩
abbrev cL_cell : ByteArray := method_14_code
def yL_cell : MethodName := ⟨RL, "cell", "(LAlibiWindow;II[J)I"⟩
abbrev cL_count : ByteArray := method_15_code
def yL_count : MethodName := ⟨RL, "count", "(LAlibiWindow;I[J)I"⟩
abbrev cL_setting : ByteArray := method_16_code
def yL_setting : MethodName := ⟨RL, "setting", "(LAlibiWindow;I[J)I"⟩
abbrev cL_ifRun : ByteArray := method_17_code
def yL_ifRun : MethodName := ⟨RL, "ifRun", "(LAlibiWindow;II[J)I"⟩
abbrev cL_bestWindow : ByteArray := method_18_code
def yL_bestWindow : MethodName := ⟨RL, "bestWindow", "(LAlibiWindow;I[J)I"⟩
abbrev cL_law : ByteArray := code
def yL_law : MethodName := ⟨RL, "law", "([I)Z"⟩
abbrev vwCl : List vw_C := [(RX1, TX1, 14), (RX2, TX2, 14), (RX3, TX3, 2), (RX4, TX4, 6), (RX5, TX5, 20)]
