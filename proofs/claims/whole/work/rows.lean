section
-- ===== PART A: goes FIRST, ahead of the names: the tables' words, and 'selects' of the private methods out of them =====
/-- a private method of a class that the tables say can be made, by its rows of tables_1 -/
def lw_okq (q : MethodName × Nat) : Prop := (q.1.cls ≠ "java/lang/invoke/MethodHandle" ∧ q.1.cls ≠ "java/lang/invoke/VarHandle") ∧ Cond.instantiable q.1.cls q.2 ∈ tables_1 ∧ Cond.privateMethod q.1 ∈ tables_1 ∧ Cond.instanceMethod q.1 ∈ tables_1
theorem lw_p0 : lw_okq (⟨"LateRows", "operatorAt", "(I)LLateRows$Operator;"⟩, 14) := ⟨⟨by decide +kernel, by decide +kernel⟩, List.mem_of_getElem? (i := 15) (by decide +kernel), List.mem_of_getElem? (i := 291) (by decide +kernel), List.mem_of_getElem? (i := 292) (by decide +kernel)⟩
theorem lw_p1 : lw_okq (⟨"LateRows", "sourceAt", "(I)LLateRows$Source;"⟩, 14) := ⟨⟨by decide +kernel, by decide +kernel⟩, List.mem_of_getElem? (i := 15) (by decide +kernel), List.mem_of_getElem? (i := 343) (by decide +kernel), List.mem_of_getElem? (i := 344) (by decide +kernel)⟩
theorem lw_p2 : lw_okq (⟨"LateRows", "moveMark", "(LLateRows$Operator;)I"⟩, 14) := ⟨⟨by decide +kernel, by decide +kernel⟩, List.mem_of_getElem? (i := 15) (by decide +kernel), List.mem_of_getElem? (i := 348) (by decide +kernel), List.mem_of_getElem? (i := 349) (by decide +kernel)⟩
theorem lw_p3 : lw_okq (⟨"LateRows", "leastPromise", "(LLateRows$Operator;)I"⟩, 14) := ⟨⟨by decide +kernel, by decide +kernel⟩, List.mem_of_getElem? (i := 15) (by decide +kernel), List.mem_of_getElem? (i := 352) (by decide +kernel), List.mem_of_getElem? (i := 353) (by decide +kernel)⟩
theorem lw_p4 : lw_okq (⟨"LateRows", "tellAllDue", "(LLateRows$Operator;)V"⟩, 14) := ⟨⟨by decide +kernel, by decide +kernel⟩, List.mem_of_getElem? (i := 15) (by decide +kernel), List.mem_of_getElem? (i := 359) (by decide +kernel), List.mem_of_getElem? (i := 360) (by decide +kernel)⟩
theorem lw_p5 : lw_okq (⟨"LateRows$WindowList", "endsBefore", "(LLateRows$Window;I)Z"⟩, 2) := ⟨⟨by decide +kernel, by decide +kernel⟩, List.mem_of_getElem? (i := 43) (by decide +kernel), List.mem_of_getElem? (i := 371) (by decide +kernel), List.mem_of_getElem? (i := 372) (by decide +kernel)⟩
theorem lw_p6 : lw_okq (⟨"LateRows", "tell", "(LLateRows$Window;)V"⟩, 14) := ⟨⟨by decide +kernel, by decide +kernel⟩, List.mem_of_getElem? (i := 15) (by decide +kernel), List.mem_of_getElem? (i := 379) (by decide +kernel), List.mem_of_getElem? (i := 380) (by decide +kernel)⟩
theorem lw_p7 : lw_okq (⟨"LateRows", "keepResult", "(ILLateRows$Window;)V"⟩, 14) := ⟨⟨by decide +kernel, by decide +kernel⟩, List.mem_of_getElem? (i := 15) (by decide +kernel), List.mem_of_getElem? (i := 383) (by decide +kernel), List.mem_of_getElem? (i := 384) (by decide +kernel)⟩
theorem lw_p8 : lw_okq (⟨"LateRows", "letClosedGo", "(LLateRows$Operator;)V"⟩, 14) := ⟨⟨by decide +kernel, by decide +kernel⟩, List.mem_of_getElem? (i := 15) (by decide +kernel), List.mem_of_getElem? (i := 403) (by decide +kernel), List.mem_of_getElem? (i := 404) (by decide +kernel)⟩
theorem lw_p9 : lw_okq (⟨"LateRows$WindowList", "placeOf", "(III)I"⟩, 2) := ⟨⟨by decide +kernel, by decide +kernel⟩, List.mem_of_getElem? (i := 43) (by decide +kernel), List.mem_of_getElem? (i := 433) (by decide +kernel), List.mem_of_getElem? (i := 434) (by decide +kernel)⟩
theorem lw_p10 : lw_okq (⟨"LateRows", "judge", "(LLateRows$Operator;I)I"⟩, 14) := ⟨⟨by decide +kernel, by decide +kernel⟩, List.mem_of_getElem? (i := 15) (by decide +kernel), List.mem_of_getElem? (i := 455) (by decide +kernel), List.mem_of_getElem? (i := 456) (by decide +kernel)⟩
theorem lw_p11 : lw_okq (⟨"LateRows", "judgeInGaps", "(LLateRows$Operator;)I"⟩, 14) := ⟨⟨by decide +kernel, by decide +kernel⟩, List.mem_of_getElem? (i := 15) (by decide +kernel), List.mem_of_getElem? (i := 459) (by decide +kernel), List.mem_of_getElem? (i := 460) (by decide +kernel)⟩
theorem lw_p12 : lw_okq (⟨"LateRows", "layAside", "(LLateRows$Source;IIII)I"⟩, 14) := ⟨⟨by decide +kernel, by decide +kernel⟩, List.mem_of_getElem? (i := 15) (by decide +kernel), List.mem_of_getElem? (i := 475) (by decide +kernel), List.mem_of_getElem? (i := 476) (by decide +kernel)⟩
theorem lw_p13 : lw_okq (⟨"LateRows", "keepAside", "(LLateRows$Source;IIII)V"⟩, 14) := ⟨⟨by decide +kernel, by decide +kernel⟩, List.mem_of_getElem? (i := 15) (by decide +kernel), List.mem_of_getElem? (i := 518) (by decide +kernel), List.mem_of_getElem? (i := 519) (by decide +kernel)⟩
theorem lw_p14 : lw_okq (⟨"LateRows", "countNewWindows", "(LLateRows$Operator;II)I"⟩, 14) := ⟨⟨by decide +kernel, by decide +kernel⟩, List.mem_of_getElem? (i := 15) (by decide +kernel), List.mem_of_getElem? (i := 522) (by decide +kernel), List.mem_of_getElem? (i := 523) (by decide +kernel)⟩
theorem lw_p15 : lw_okq (⟨"LateRows$WindowList", "holds", "(IIII)Z"⟩, 2) := ⟨⟨by decide +kernel, by decide +kernel⟩, List.mem_of_getElem? (i := 43) (by decide +kernel), List.mem_of_getElem? (i := 530) (by decide +kernel), List.mem_of_getElem? (i := 531) (by decide +kernel)⟩
def lw_privs_1 : List (MethodName × Nat) := [(⟨"LateRows", "operatorAt", "(I)LLateRows$Operator;"⟩, 14), (⟨"LateRows", "sourceAt", "(I)LLateRows$Source;"⟩, 14), (⟨"LateRows", "moveMark", "(LLateRows$Operator;)I"⟩, 14), (⟨"LateRows", "leastPromise", "(LLateRows$Operator;)I"⟩, 14), (⟨"LateRows", "tellAllDue", "(LLateRows$Operator;)V"⟩, 14), (⟨"LateRows$WindowList", "endsBefore", "(LLateRows$Window;I)Z"⟩, 2), (⟨"LateRows", "tell", "(LLateRows$Window;)V"⟩, 14), (⟨"LateRows", "keepResult", "(ILLateRows$Window;)V"⟩, 14), (⟨"LateRows", "letClosedGo", "(LLateRows$Operator;)V"⟩, 14), (⟨"LateRows$WindowList", "placeOf", "(III)I"⟩, 2), (⟨"LateRows", "judge", "(LLateRows$Operator;I)I"⟩, 14), (⟨"LateRows", "judgeInGaps", "(LLateRows$Operator;)I"⟩, 14), (⟨"LateRows", "layAside", "(LLateRows$Source;IIII)I"⟩, 14), (⟨"LateRows", "keepAside", "(LLateRows$Source;IIII)V"⟩, 14), (⟨"LateRows", "countNewWindows", "(LLateRows$Operator;II)I"⟩, 14), (⟨"LateRows$WindowList", "holds", "(IIII)Z"⟩, 2)]
theorem lw_r1 : ∀ q ∈ lw_privs_1, lw_okq q := List.forall_mem_cons.mpr ⟨lw_p0, List.forall_mem_cons.mpr ⟨lw_p1, List.forall_mem_cons.mpr ⟨lw_p2, List.forall_mem_cons.mpr ⟨lw_p3, List.forall_mem_cons.mpr ⟨lw_p4, List.forall_mem_cons.mpr ⟨lw_p5, List.forall_mem_cons.mpr ⟨lw_p6, List.forall_mem_cons.mpr ⟨lw_p7, List.forall_mem_cons.mpr ⟨lw_p8, List.forall_mem_cons.mpr ⟨lw_p9, List.forall_mem_cons.mpr ⟨lw_p10, List.forall_mem_cons.mpr ⟨lw_p11, List.forall_mem_cons.mpr ⟨lw_p12, List.forall_mem_cons.mpr ⟨lw_p13, List.forall_mem_cons.mpr ⟨lw_p14, List.forall_mem_cons.mpr ⟨lw_p15, fun _ h => absurd h List.not_mem_nil⟩⟩⟩⟩⟩⟩⟩⟩⟩⟩⟩⟩⟩⟩⟩⟩
theorem lw_p16 : lw_okq (⟨"LateRows", "useInGaps", "(LLateRows$Operator;II)V"⟩, 14) := ⟨⟨by decide +kernel, by decide +kernel⟩, List.mem_of_getElem? (i := 15) (by decide +kernel), List.mem_of_getElem? (i := 534) (by decide +kernel), List.mem_of_getElem? (i := 535) (by decide +kernel)⟩
theorem lw_p17 : lw_okq (⟨"LateRows$WindowList", "open", "(IIIII)V"⟩, 2) := ⟨⟨by decide +kernel, by decide +kernel⟩, List.mem_of_getElem? (i := 43) (by decide +kernel), List.mem_of_getElem? (i := 542) (by decide +kernel), List.mem_of_getElem? (i := 543) (by decide +kernel)⟩
theorem lw_p18 : lw_okq (⟨"LateRows", "comeInto", "(LLateRows$Operator;LLateRows$Window;I)V"⟩, 14) := ⟨⟨by decide +kernel, by decide +kernel⟩, List.mem_of_getElem? (i := 15) (by decide +kernel), List.mem_of_getElem? (i := 554) (by decide +kernel), List.mem_of_getElem? (i := 555) (by decide +kernel)⟩
theorem lw_p19 : lw_okq (⟨"LateRows", "takeBackJoined", "()V"⟩, 14) := ⟨⟨by decide +kernel, by decide +kernel⟩, List.mem_of_getElem? (i := 15) (by decide +kernel), List.mem_of_getElem? (i := 564) (by decide +kernel), List.mem_of_getElem? (i := 565) (by decide +kernel)⟩
theorem lw_p20 : lw_okq (⟨"LateRows", "mergeJoined", "(LLateRows$Window;)V"⟩, 14) := ⟨⟨by decide +kernel, by decide +kernel⟩, List.mem_of_getElem? (i := 15) (by decide +kernel), List.mem_of_getElem? (i := 568) (by decide +kernel), List.mem_of_getElem? (i := 569) (by decide +kernel)⟩
theorem lw_p21 : lw_okq (⟨"LateRows", "useInGrid", "(LLateRows$Operator;III)V"⟩, 14) := ⟨⟨by decide +kernel, by decide +kernel⟩, List.mem_of_getElem? (i := 15) (by decide +kernel), List.mem_of_getElem? (i := 576) (by decide +kernel), List.mem_of_getElem? (i := 577) (by decide +kernel)⟩
theorem lw_p22 : lw_okq (⟨"LateRows$OnePass", "addToGaps", "(LLateRows$Operator;LLateRows$Row;)V"⟩, 2) := ⟨⟨by decide +kernel, by decide +kernel⟩, List.mem_of_getElem? (i := 184) (by decide +kernel), List.mem_of_getElem? (i := 640) (by decide +kernel), List.mem_of_getElem? (i := 641) (by decide +kernel)⟩
theorem lw_p23 : lw_okq (⟨"LateRows$OnePass", "comeInto", "(III)V"⟩, 2) := ⟨⟨by decide +kernel, by decide +kernel⟩, List.mem_of_getElem? (i := 184) (by decide +kernel), List.mem_of_getElem? (i := 649) (by decide +kernel), List.mem_of_getElem? (i := 650) (by decide +kernel)⟩
theorem lw_p24 : lw_okq (⟨"LateRows$OnePass", "open", "(LLateRows$Row;II)V"⟩, 2) := ⟨⟨by decide +kernel, by decide +kernel⟩, List.mem_of_getElem? (i := 184) (by decide +kernel), List.mem_of_getElem? (i := 659) (by decide +kernel), List.mem_of_getElem? (i := 660) (by decide +kernel)⟩
theorem lw_p25 : lw_okq (⟨"LateRows$OnePass", "addToGrid", "(LLateRows$Operator;LLateRows$Row;)V"⟩, 2) := ⟨⟨by decide +kernel, by decide +kernel⟩, List.mem_of_getElem? (i := 184) (by decide +kernel), List.mem_of_getElem? (i := 663) (by decide +kernel), List.mem_of_getElem? (i := 664) (by decide +kernel)⟩
theorem lw_p26 : lw_okq (⟨"LateRows$OnePass", "find", "(II)I"⟩, 2) := ⟨⟨by decide +kernel, by decide +kernel⟩, List.mem_of_getElem? (i := 184) (by decide +kernel), List.mem_of_getElem? (i := 668) (by decide +kernel), List.mem_of_getElem? (i := 669) (by decide +kernel)⟩
theorem lw_p27 : lw_okq (⟨"LateRowsModel", "isOp", "(I)Z"⟩, 51) := ⟨⟨by decide +kernel, by decide +kernel⟩, List.mem_of_getElem? (i := 681) (by decide +kernel), List.mem_of_getElem? (i := 856) (by decide +kernel), List.mem_of_getElem? (i := 857) (by decide +kernel)⟩
theorem lw_p28 : lw_okq (⟨"LateRowsModel", "isSource", "(I)Z"⟩, 51) := ⟨⟨by decide +kernel, by decide +kernel⟩, List.mem_of_getElem? (i := 681) (by decide +kernel), List.mem_of_getElem? (i := 865) (by decide +kernel), List.mem_of_getElem? (i := 866) (by decide +kernel)⟩
theorem lw_p29 : lw_okq (⟨"LateRowsModel", "moves", "(I)I"⟩, 51) := ⟨⟨by decide +kernel, by decide +kernel⟩, List.mem_of_getElem? (i := 681) (by decide +kernel), List.mem_of_getElem? (i := 870) (by decide +kernel), List.mem_of_getElem? (i := 871) (by decide +kernel)⟩
theorem lw_p30 : lw_okq (⟨"LateRowsModel", "due", "(IZ)I"⟩, 51) := ⟨⟨by decide +kernel, by decide +kernel⟩, List.mem_of_getElem? (i := 681) (by decide +kernel), List.mem_of_getElem? (i := 874) (by decide +kernel), List.mem_of_getElem? (i := 875) (by decide +kernel)⟩
theorem lw_p31 : lw_okq (⟨"LateRowsModel", "isClosed", "(II)Z"⟩, 51) := ⟨⟨by decide +kernel, by decide +kernel⟩, List.mem_of_getElem? (i := 681) (by decide +kernel), List.mem_of_getElem? (i := 878) (by decide +kernel), List.mem_of_getElem? (i := 879) (by decide +kernel)⟩
def lw_privs_2 : List (MethodName × Nat) := [(⟨"LateRows", "useInGaps", "(LLateRows$Operator;II)V"⟩, 14), (⟨"LateRows$WindowList", "open", "(IIIII)V"⟩, 2), (⟨"LateRows", "comeInto", "(LLateRows$Operator;LLateRows$Window;I)V"⟩, 14), (⟨"LateRows", "takeBackJoined", "()V"⟩, 14), (⟨"LateRows", "mergeJoined", "(LLateRows$Window;)V"⟩, 14), (⟨"LateRows", "useInGrid", "(LLateRows$Operator;III)V"⟩, 14), (⟨"LateRows$OnePass", "addToGaps", "(LLateRows$Operator;LLateRows$Row;)V"⟩, 2), (⟨"LateRows$OnePass", "comeInto", "(III)V"⟩, 2), (⟨"LateRows$OnePass", "open", "(LLateRows$Row;II)V"⟩, 2), (⟨"LateRows$OnePass", "addToGrid", "(LLateRows$Operator;LLateRows$Row;)V"⟩, 2), (⟨"LateRows$OnePass", "find", "(II)I"⟩, 2), (⟨"LateRowsModel", "isOp", "(I)Z"⟩, 51), (⟨"LateRowsModel", "isSource", "(I)Z"⟩, 51), (⟨"LateRowsModel", "moves", "(I)I"⟩, 51), (⟨"LateRowsModel", "due", "(IZ)I"⟩, 51), (⟨"LateRowsModel", "isClosed", "(II)Z"⟩, 51)]
theorem lw_r2 : ∀ q ∈ lw_privs_2, lw_okq q := List.forall_mem_cons.mpr ⟨lw_p16, List.forall_mem_cons.mpr ⟨lw_p17, List.forall_mem_cons.mpr ⟨lw_p18, List.forall_mem_cons.mpr ⟨lw_p19, List.forall_mem_cons.mpr ⟨lw_p20, List.forall_mem_cons.mpr ⟨lw_p21, List.forall_mem_cons.mpr ⟨lw_p22, List.forall_mem_cons.mpr ⟨lw_p23, List.forall_mem_cons.mpr ⟨lw_p24, List.forall_mem_cons.mpr ⟨lw_p25, List.forall_mem_cons.mpr ⟨lw_p26, List.forall_mem_cons.mpr ⟨lw_p27, List.forall_mem_cons.mpr ⟨lw_p28, List.forall_mem_cons.mpr ⟨lw_p29, List.forall_mem_cons.mpr ⟨lw_p30, List.forall_mem_cons.mpr ⟨lw_p31, fun _ h => absurd h List.not_mem_nil⟩⟩⟩⟩⟩⟩⟩⟩⟩⟩⟩⟩⟩⟩⟩⟩
theorem lw_p32 : lw_okq (⟨"LateRowsModel", "isAhead", "(II)Z"⟩, 51) := ⟨⟨by decide +kernel, by decide +kernel⟩, List.mem_of_getElem? (i := 681) (by decide +kernel), List.mem_of_getElem? (i := 882) (by decide +kernel), List.mem_of_getElem? (i := 883) (by decide +kernel)⟩
theorem lw_p33 : lw_okq (⟨"LateRowsModel", "tell", "(I)V"⟩, 51) := ⟨⟨by decide +kernel, by decide +kernel⟩, List.mem_of_getElem? (i := 681) (by decide +kernel), List.mem_of_getElem? (i := 886) (by decide +kernel), List.mem_of_getElem? (i := 887) (by decide +kernel)⟩
theorem lw_p34 : lw_okq (⟨"LateRowsModel", "result", "(IIIJII)V"⟩, 51) := ⟨⟨by decide +kernel, by decide +kernel⟩, List.mem_of_getElem? (i := 681) (by decide +kernel), List.mem_of_getElem? (i := 890) (by decide +kernel), List.mem_of_getElem? (i := 891) (by decide +kernel)⟩
theorem lw_p35 : lw_okq (⟨"LateRowsModel", "takeBack", "(I)V"⟩, 51) := ⟨⟨by decide +kernel, by decide +kernel⟩, List.mem_of_getElem? (i := 681) (by decide +kernel), List.mem_of_getElem? (i := 894) (by decide +kernel), List.mem_of_getElem? (i := 895) (by decide +kernel)⟩
theorem lw_p36 : lw_okq (⟨"LateRowsModel", "remove", "(I)V"⟩, 51) := ⟨⟨by decide +kernel, by decide +kernel⟩, List.mem_of_getElem? (i := 681) (by decide +kernel), List.mem_of_getElem? (i := 898) (by decide +kernel), List.mem_of_getElem? (i := 899) (by decide +kernel)⟩
theorem lw_p37 : lw_okq (⟨"LateRowsModel", "joined", "(III)V"⟩, 51) := ⟨⟨by decide +kernel, by decide +kernel⟩, List.mem_of_getElem? (i := 681) (by decide +kernel), List.mem_of_getElem? (i := 911) (by decide +kernel), List.mem_of_getElem? (i := 912) (by decide +kernel)⟩
theorem lw_p38 : lw_okq (⟨"LateRowsModel", "meets", "(IIIII)Z"⟩, 51) := ⟨⟨by decide +kernel, by decide +kernel⟩, List.mem_of_getElem? (i := 681) (by decide +kernel), List.mem_of_getElem? (i := 915) (by decide +kernel), List.mem_of_getElem? (i := 916) (by decide +kernel)⟩
theorem lw_p39 : lw_okq (⟨"LateRowsModel", "beginOf", "(III)I"⟩, 51) := ⟨⟨by decide +kernel, by decide +kernel⟩, List.mem_of_getElem? (i := 681) (by decide +kernel), List.mem_of_getElem? (i := 919) (by decide +kernel), List.mem_of_getElem? (i := 920) (by decide +kernel)⟩
theorem lw_p40 : lw_okq (⟨"LateRowsModel", "found", "(III)I"⟩, 51) := ⟨⟨by decide +kernel, by decide +kernel⟩, List.mem_of_getElem? (i := 681) (by decide +kernel), List.mem_of_getElem? (i := 926) (by decide +kernel), List.mem_of_getElem? (i := 927) (by decide +kernel)⟩
theorem lw_p41 : lw_okq (⟨"LateRowsModel", "putAside", "(IIIII)Z"⟩, 51) := ⟨⟨by decide +kernel, by decide +kernel⟩, List.mem_of_getElem? (i := 681) (by decide +kernel), List.mem_of_getElem? (i := 930) (by decide +kernel), List.mem_of_getElem? (i := 931) (by decide +kernel)⟩
theorem lw_p42 : lw_okq (⟨"LateRowsModel", "came", "(IIIIZ)V"⟩, 51) := ⟨⟨by decide +kernel, by decide +kernel⟩, List.mem_of_getElem? (i := 681) (by decide +kernel), List.mem_of_getElem? (i := 934) (by decide +kernel), List.mem_of_getElem? (i := 935) (by decide +kernel)⟩
theorem lw_p43 : lw_okq (⟨"LateRowsModel", "gap", "(IIII)V"⟩, 51) := ⟨⟨by decide +kernel, by decide +kernel⟩, List.mem_of_getElem? (i := 681) (by decide +kernel), List.mem_of_getElem? (i := 938) (by decide +kernel), List.mem_of_getElem? (i := 939) (by decide +kernel)⟩
theorem lw_p44 : lw_okq (⟨"LateRowsModel", "into", "(II)V"⟩, 51) := ⟨⟨by decide +kernel, by decide +kernel⟩, List.mem_of_getElem? (i := 681) (by decide +kernel), List.mem_of_getElem? (i := 942) (by decide +kernel), List.mem_of_getElem? (i := 943) (by decide +kernel)⟩
theorem lw_p45 : lw_okq (⟨"LateRowsModel", "follows", "(I)V"⟩, 51) := ⟨⟨by decide +kernel, by decide +kernel⟩, List.mem_of_getElem? (i := 681) (by decide +kernel), List.mem_of_getElem? (i := 946) (by decide +kernel), List.mem_of_getElem? (i := 947) (by decide +kernel)⟩
theorem lw_p46 : lw_okq (⟨"LateRowsModel", "made", "(IIII)I"⟩, 51) := ⟨⟨by decide +kernel, by decide +kernel⟩, List.mem_of_getElem? (i := 681) (by decide +kernel), List.mem_of_getElem? (i := 950) (by decide +kernel), List.mem_of_getElem? (i := 951) (by decide +kernel)⟩
theorem lw_p47 : lw_okq (⟨"LateRowsModel", "isTaken", "(IIZ)Z"⟩, 51) := ⟨⟨by decide +kernel, by decide +kernel⟩, List.mem_of_getElem? (i := 681) (by decide +kernel), List.mem_of_getElem? (i := 987) (by decide +kernel), List.mem_of_getElem? (i := 988) (by decide +kernel)⟩
def lw_privs_3 : List (MethodName × Nat) := [(⟨"LateRowsModel", "isAhead", "(II)Z"⟩, 51), (⟨"LateRowsModel", "tell", "(I)V"⟩, 51), (⟨"LateRowsModel", "result", "(IIIJII)V"⟩, 51), (⟨"LateRowsModel", "takeBack", "(I)V"⟩, 51), (⟨"LateRowsModel", "remove", "(I)V"⟩, 51), (⟨"LateRowsModel", "joined", "(III)V"⟩, 51), (⟨"LateRowsModel", "meets", "(IIIII)Z"⟩, 51), (⟨"LateRowsModel", "beginOf", "(III)I"⟩, 51), (⟨"LateRowsModel", "found", "(III)I"⟩, 51), (⟨"LateRowsModel", "putAside", "(IIIII)Z"⟩, 51), (⟨"LateRowsModel", "came", "(IIIIZ)V"⟩, 51), (⟨"LateRowsModel", "gap", "(IIII)V"⟩, 51), (⟨"LateRowsModel", "into", "(II)V"⟩, 51), (⟨"LateRowsModel", "follows", "(I)V"⟩, 51), (⟨"LateRowsModel", "made", "(IIII)I"⟩, 51), (⟨"LateRowsModel", "isTaken", "(IIZ)Z"⟩, 51)]
theorem lw_r3 : ∀ q ∈ lw_privs_3, lw_okq q := List.forall_mem_cons.mpr ⟨lw_p32, List.forall_mem_cons.mpr ⟨lw_p33, List.forall_mem_cons.mpr ⟨lw_p34, List.forall_mem_cons.mpr ⟨lw_p35, List.forall_mem_cons.mpr ⟨lw_p36, List.forall_mem_cons.mpr ⟨lw_p37, List.forall_mem_cons.mpr ⟨lw_p38, List.forall_mem_cons.mpr ⟨lw_p39, List.forall_mem_cons.mpr ⟨lw_p40, List.forall_mem_cons.mpr ⟨lw_p41, List.forall_mem_cons.mpr ⟨lw_p42, List.forall_mem_cons.mpr ⟨lw_p43, List.forall_mem_cons.mpr ⟨lw_p44, List.forall_mem_cons.mpr ⟨lw_p45, List.forall_mem_cons.mpr ⟨lw_p46, List.forall_mem_cons.mpr ⟨lw_p47, fun _ h => absurd h List.not_mem_nil⟩⟩⟩⟩⟩⟩⟩⟩⟩⟩⟩⟩⟩⟩⟩⟩
theorem lw_p48 : lw_okq (⟨"LateRowsModel", "edge", "(IIZZ)I"⟩, 51) := ⟨⟨by decide +kernel, by decide +kernel⟩, List.mem_of_getElem? (i := 681) (by decide +kernel), List.mem_of_getElem? (i := 991) (by decide +kernel), List.mem_of_getElem? (i := 992) (by decide +kernel)⟩
theorem lw_p49 : lw_okq (⟨"LateRowsModel", "passInto", "(IIIJ)V"⟩, 51) := ⟨⟨by decide +kernel, by decide +kernel⟩, List.mem_of_getElem? (i := 681) (by decide +kernel), List.mem_of_getElem? (i := 995) (by decide +kernel), List.mem_of_getElem? (i := 996) (by decide +kernel)⟩
def lw_privs_4 : List (MethodName × Nat) := [(⟨"LateRowsModel", "edge", "(IIZZ)I"⟩, 51), (⟨"LateRowsModel", "passInto", "(IIIJ)V"⟩, 51)]
theorem lw_r4 : ∀ q ∈ lw_privs_4, lw_okq q := List.forall_mem_cons.mpr ⟨lw_p48, List.forall_mem_cons.mpr ⟨lw_p49, fun _ h => absurd h List.not_mem_nil⟩⟩
def lw_privs : List (MethodName × Nat) := lw_privs_1 ++ (lw_privs_2 ++ (lw_privs_3 ++ (lw_privs_4)))
def lw_tbl : List Cond := k2_sels lw_privs ++ tables_1
theorem lw_privs_ok : ∀ q ∈ lw_privs, lw_okq q := by
  show ∀ q ∈ lw_privs_1 ++ (lw_privs_2 ++ (lw_privs_3 ++ (lw_privs_4))), lw_okq q
  exact List.forall_mem_append.mpr ⟨lw_r1, List.forall_mem_append.mpr ⟨lw_r2, List.forall_mem_append.mpr ⟨lw_r3, lw_r4⟩⟩⟩
end
section
def RX0 : String := "LateRows$Join"
def TX0 : u_T := fun k => match k with
  | 0 => ("LateRows$Join", "first", "I", false)
  | 1 => ("LateRows$Join", "size", "I", false)
  | 2 => ("LateRows$Join", "begin", "I", false)
  | 3 => ("LateRows$Join", "end", "I", false)
  | _ => ("LateRows$Join", "told", "Z", false)
def tyX0 : Nat → FieldType := fun k => match k with
  | 0 => .int
  | 1 => .int
  | 2 => .int
  | 3 => .int
  | _ => .boolean
theorem nmX0 : ∀ a, a < 5 → ∀ b, b < 5 → a ≠ b → (TX0 a).2.1 ≠ (TX0 b).2.1 := by decide +kernel
theorem tyX0_ok : ∀ k, k < 5 → parseFieldDescriptor (TX0 k).2.2.1 = some (tyX0 k) := by decide +kernel
abbrev cX0_init : ByteArray := prog_2_method_1_code
def yX0_init : MethodName := ⟨RX0, "<init>", "()V"⟩
abbrev cX0_start : ByteArray := prog_2_method_2_code
def yX0_start : MethodName := ⟨RX0, "start", "(III)V"⟩
abbrev cX0_add : ByteArray := prog_2_method_3_code
def yX0_add : MethodName := ⟨RX0, "add", "(LLateRows$Window;)V"⟩
def RX1 : String := "LateRows$OnePass"
def TX1 : u_T := fun k => match k with
  | 0 => ("LateRows$OnePass", "cells", "[J", true)
  | _ => ("LateRows$OnePass", "size", "I", false)
def tyX1 : Nat → FieldType := fun k => match k with
  | 0 => .array .long
  | _ => .int
theorem nmX1 : ∀ a, a < 2 → ∀ b, b < 2 → a ≠ b → (TX1 a).2.1 ≠ (TX1 b).2.1 := by decide +kernel
theorem tyX1_ok : ∀ k, k < 2 → parseFieldDescriptor (TX1 k).2.2.1 = some (tyX1 k) := by decide +kernel
abbrev cX1_init : ByteArray := prog_3_method_1_code
def yX1_init : MethodName := ⟨RX1, "<init>", "()V"⟩
abbrev cX1_clear : ByteArray := prog_3_method_2_code
def yX1_clear : MethodName := ⟨RX1, "clear", "()V"⟩
abbrev cX1_add : ByteArray := prog_3_method_3_code
def yX1_add : MethodName := ⟨RX1, "add", "(LLateRows$Operator;LLateRows$Row;)V"⟩
abbrev cX1_get : ByteArray := prog_3_method_4_code
def yX1_get : MethodName := ⟨RX1, "get", "(II)J"⟩
abbrev cX1_addToGaps : ByteArray := prog_3_method_5_code
def yX1_addToGaps : MethodName := ⟨RX1, "addToGaps", "(LLateRows$Operator;LLateRows$Row;)V"⟩
abbrev cX1_addToGrid : ByteArray := prog_3_method_6_code
def yX1_addToGrid : MethodName := ⟨RX1, "addToGrid", "(LLateRows$Operator;LLateRows$Row;)V"⟩
abbrev cX1_find : ByteArray := prog_3_method_7_code
def yX1_find : MethodName := ⟨RX1, "find", "(II)I"⟩
abbrev cX1_open : ByteArray := prog_3_method_8_code
def yX1_open : MethodName := ⟨RX1, "open", "(LLateRows$Row;II)V"⟩
abbrev cX1_comeInto : ByteArray := prog_3_method_9_code
def yX1_comeInto : MethodName := ⟨RX1, "comeInto", "(III)V"⟩
def RX2 : String := "LateRows$Operator"
def TX2 : u_T := fun k => match k with
  | 0 => ("LateRows$Operator", "number", "I", true)
  | 1 => ("LateRows$Operator", "kind", "I", true)
  | 2 => ("LateRows$Operator", "size", "I", true)
  | 3 => ("LateRows$Operator", "stride", "I", true)
  | 4 => ("LateRows$Operator", "lateness", "I", true)
  | 5 => ("LateRows$Operator", "rule", "I", true)
  | _ => ("LateRows$Operator", "mark", "I", false)
def tyX2 : Nat → FieldType := fun k => match k with
  | 0 => .int
  | 1 => .int
  | 2 => .int
  | 3 => .int
  | 4 => .int
  | 5 => .int
  | _ => .int
theorem nmX2 : ∀ a, a < 7 → ∀ b, b < 7 → a ≠ b → (TX2 a).2.1 ≠ (TX2 b).2.1 := by decide +kernel
theorem tyX2_ok : ∀ k, k < 7 → parseFieldDescriptor (TX2 k).2.2.1 = some (tyX2 k) := by decide +kernel
abbrev cX2_init : ByteArray := prog_4_method_1_code
def yX2_init : MethodName := ⟨RX2, "<init>", "(IIIIII)V"⟩
abbrev cX2_hasReached : ByteArray := prog_4_method_2_code
def yX2_hasReached : MethodName := ⟨RX2, "hasReached", "(I)Z"⟩
abbrev cX2_closes : ByteArray := prog_4_method_3_code
def yX2_closes : MethodName := ⟨RX2, "closes", "(I)Z"⟩
abbrev cX2_firstBegin : ByteArray := prog_4_method_4_code
def yX2_firstBegin : MethodName := ⟨RX2, "firstBegin", "(I)I"⟩
def RX3 : String := "LateRows$Ring"
def TX3 : u_T := fun k => match k with
  | 0 => ("LateRows$Ring", "room", "I", true)
  | 1 => ("LateRows$Ring", "width", "I", true)
  | 2 => ("LateRows$Ring", "cells", "[J", true)
  | 3 => ("LateRows$Ring", "eldest", "I", false)
  | 4 => ("LateRows$Ring", "latest", "I", false)
  | _ => ("LateRows$Ring", "size", "I", false)
def tyX3 : Nat → FieldType := fun k => match k with
  | 0 => .int
  | 1 => .int
  | 2 => .array .long
  | 3 => .int
  | 4 => .int
  | _ => .int
theorem nmX3 : ∀ a, a < 6 → ∀ b, b < 6 → a ≠ b → (TX3 a).2.1 ≠ (TX3 b).2.1 := by decide +kernel
theorem tyX3_ok : ∀ k, k < 6 → parseFieldDescriptor (TX3 k).2.2.1 = some (tyX3 k) := by decide +kernel
abbrev cX3_init : ByteArray := prog_5_method_1_code
def yX3_init : MethodName := ⟨RX3, "<init>", "(II)V"⟩
abbrev cX3_open : ByteArray := prog_5_method_2_code
def yX3_open : MethodName := ⟨RX3, "open", "()V"⟩
abbrev cX3_set : ByteArray := prog_5_method_3_code
def yX3_set : MethodName := ⟨RX3, "set", "(IJ)V"⟩
abbrev cX3_get : ByteArray := prog_5_method_4_code
def yX3_get : MethodName := ⟨RX3, "get", "(II)J"⟩
abbrev cX3_dropEldest : ByteArray := prog_5_method_5_code
def yX3_dropEldest : MethodName := ⟨RX3, "dropEldest", "()V"⟩
abbrev cX3_clear : ByteArray := prog_5_method_6_code
def yX3_clear : MethodName := ⟨RX3, "clear", "()V"⟩
def RX4 : String := "LateRows$Row"
def TX4 : u_T := fun k => match k with
  | 0 => ("LateRows$Row", "from", "LLateRows$Source;", true)
  | 1 => ("LateRows$Row", "key", "I", true)
  | 2 => ("LateRows$Row", "time", "I", true)
  | 3 => ("LateRows$Row", "v", "I", true)
  | _ => ("LateRows$Row", "used", "Z", true)
def tyX4 : Nat → FieldType := fun k => match k with
  | 0 => .object "LateRows$Source"
  | 1 => .int
  | 2 => .int
  | 3 => .int
  | _ => .boolean
theorem nmX4 : ∀ a, a < 5 → ∀ b, b < 5 → a ≠ b → (TX4 a).2.1 ≠ (TX4 b).2.1 := by decide +kernel
theorem tyX4_ok : ∀ k, k < 5 → parseFieldDescriptor (TX4 k).2.2.1 = some (tyX4 k) := by decide +kernel
abbrev cX4_init : ByteArray := prog_6_method_1_code
def yX4_init : MethodName := ⟨RX4, "<init>", "(LLateRows$Source;IIIZ)V"⟩
abbrev cX4_standsAfter : ByteArray := prog_6_method_2_code
def yX4_standsAfter : MethodName := ⟨RX4, "standsAfter", "(II)Z"⟩
def RX5 : String := "LateRows$RowLog"
def TX5 : u_T := fun k => match k with
  | 0 => ("LateRows$RowLog", "rows", "[LLateRows$Row;", true)
  | _ => ("LateRows$RowLog", "size", "I", false)
def tyX5 : Nat → FieldType := fun k => match k with
  | 0 => .array (.object "LateRows$Row")
  | _ => .int
theorem nmX5 : ∀ a, a < 2 → ∀ b, b < 2 → a ≠ b → (TX5 a).2.1 ≠ (TX5 b).2.1 := by decide +kernel
theorem tyX5_ok : ∀ k, k < 2 → parseFieldDescriptor (TX5 k).2.2.1 = some (tyX5 k) := by decide +kernel
abbrev cX5_init : ByteArray := prog_7_method_1_code
def yX5_init : MethodName := ⟨RX5, "<init>", "()V"⟩
abbrev cX5_add : ByteArray := prog_7_method_2_code
def yX5_add : MethodName := ⟨RX5, "add", "(LLateRows$Source;IIIZ)V"⟩
abbrev cX5_inOrder : ByteArray := prog_7_method_3_code
def yX5_inOrder : MethodName := ⟨RX5, "inOrder", "(I)LLateRows$Row;"⟩
def RX6 : String := "LateRows$Source"
def TX6 : u_T := fun k => match k with
  | 0 => ("LateRows$Source", "number", "I", true)
  | 1 => ("LateRows$Source", "owner", "LLateRows$Operator;", true)
  | 2 => ("LateRows$Source", "promise", "I", false)
  | 3 => ("LateRows$Source", "ended", "Z", false)
  | 4 => ("LateRows$Source", "stopped", "Z", false)
  | 5 => ("LateRows$Source", "rowsUsed", "I", false)
  | 6 => ("LateRows$Source", "rowsAside", "I", false)
  | 7 => ("LateRows$Source", "timesBroken", "I", false)
  | _ => ("LateRows$Source", "firstBroken", "I", false)
def tyX6 : Nat → FieldType := fun k => match k with
  | 0 => .int
  | 1 => .object "LateRows$Operator"
  | 2 => .int
  | 3 => .boolean
  | 4 => .boolean
  | 5 => .int
  | 6 => .int
  | 7 => .int
  | _ => .int
theorem nmX6 : ∀ a, a < 9 → ∀ b, b < 9 → a ≠ b → (TX6 a).2.1 ≠ (TX6 b).2.1 := by decide +kernel
theorem tyX6_ok : ∀ k, k < 9 → parseFieldDescriptor (TX6 k).2.2.1 = some (tyX6 k) := by decide +kernel
abbrev cX6_init : ByteArray := prog_8_method_1_code
def yX6_init : MethodName := ⟨RX6, "<init>", "(ILLateRows$Operator;)V"⟩
abbrev cX6_noteRow : ByteArray := prog_8_method_2_code
def yX6_noteRow : MethodName := ⟨RX6, "noteRow", "(IZ)V"⟩
def RX7 : String := "LateRows$Tally"
def TX7 : u_T := fun k => match k with
  | 0 => ("LateRows$Tally", "count", "I", false)
  | 1 => ("LateRows$Tally", "sum", "J", false)
  | 2 => ("LateRows$Tally", "least", "I", false)
  | _ => ("LateRows$Tally", "greatest", "I", false)
def tyX7 : Nat → FieldType := fun k => match k with
  | 0 => .int
  | 1 => .long
  | 2 => .int
  | _ => .int
theorem nmX7 : ∀ a, a < 4 → ∀ b, b < 4 → a ≠ b → (TX7 a).2.1 ≠ (TX7 b).2.1 := by decide +kernel
theorem tyX7_ok : ∀ k, k < 4 → parseFieldDescriptor (TX7 k).2.2.1 = some (tyX7 k) := by decide +kernel
abbrev cX7_init : ByteArray := prog_9_method_1_code
def yX7_init : MethodName := ⟨RX7, "<init>", "()V"⟩
abbrev cX7_clear : ByteArray := prog_9_method_2_code
def yX7_clear : MethodName := ⟨RX7, "clear", "()V"⟩
abbrev cX7_copy : ByteArray := prog_9_method_3_code
def yX7_copy : MethodName := ⟨RX7, "copy", "(LLateRows$Tally;)V"⟩
abbrev cX7_add : ByteArray := prog_9_method_4_code
def yX7_add : MethodName := ⟨RX7, "add", "(I)V"⟩
abbrev cX7_addAll : ByteArray := prog_9_method_5_code
def yX7_addAll : MethodName := ⟨RX7, "addAll", "(LLateRows$Tally;)V"⟩
def RX8 : String := "LateRows$Window"
def TX8 : u_T := fun k => match k with
  | 0 => ("LateRows$Window", "operator", "I", false)
  | 1 => ("LateRows$Window", "key", "I", false)
  | 2 => ("LateRows$Window", "begin", "I", false)
  | 3 => ("LateRows$Window", "end", "I", false)
  | 4 => ("LateRows$Window", "told", "Z", false)
  | 5 => ("LateRows$Window", "changed", "Z", false)
  | 6 => ("LateRows$Window", "has", "LLateRows$Tally;", true)
  | _ => ("LateRows$Window", "toldLast", "LLateRows$Tally;", true)
def tyX8 : Nat → FieldType := fun k => match k with
  | 0 => .int
  | 1 => .int
  | 2 => .int
  | 3 => .int
  | 4 => .boolean
  | 5 => .boolean
  | 6 => .object "LateRows$Tally"
  | _ => .object "LateRows$Tally"
theorem nmX8 : ∀ a, a < 8 → ∀ b, b < 8 → a ≠ b → (TX8 a).2.1 ≠ (TX8 b).2.1 := by decide +kernel
theorem tyX8_ok : ∀ k, k < 8 → parseFieldDescriptor (TX8 k).2.2.1 = some (tyX8 k) := by decide +kernel
abbrev cX8_init : ByteArray := prog_10_method_1_code
def yX8_init : MethodName := ⟨RX8, "<init>", "()V"⟩
abbrev cX8_start : ByteArray := prog_10_method_2_code
def yX8_start : MethodName := ⟨RX8, "start", "(IIII)V"⟩
abbrev cX8_belongsTo : ByteArray := prog_10_method_3_code
def yX8_belongsTo : MethodName := ⟨RX8, "belongsTo", "(II)Z"⟩
abbrev cX8_standsBefore : ByteArray := prog_10_method_4_code
def yX8_standsBefore : MethodName := ⟨RX8, "standsBefore", "(III)Z"⟩
def RX9 : String := "LateRows$WindowList"
def TX9 : u_T := fun k => match k with
  | 0 => ("LateRows$WindowList", "windows", "[LLateRows$Window;", true)
  | _ => ("LateRows$WindowList", "size", "I", false)
def tyX9 : Nat → FieldType := fun k => match k with
  | 0 => .array (.object "LateRows$Window")
  | _ => .int
theorem nmX9 : ∀ a, a < 2 → ∀ b, b < 2 → a ≠ b → (TX9 a).2.1 ≠ (TX9 b).2.1 := by decide +kernel
theorem tyX9_ok : ∀ k, k < 2 → parseFieldDescriptor (TX9 k).2.2.1 = some (tyX9 k) := by decide +kernel
abbrev cX9_init : ByteArray := prog_11_method_1_code
def yX9_init : MethodName := ⟨RX9, "<init>", "()V"⟩
abbrev cX9_at : ByteArray := prog_11_method_2_code
def yX9_at : MethodName := ⟨RX9, "at", "(I)LLateRows$Window;"⟩
abbrev cX9_find : ByteArray := prog_11_method_3_code
def yX9_find : MethodName := ⟨RX9, "find", "(III)LLateRows$Window;"⟩
abbrev cX9_has : ByteArray := prog_11_method_4_code
def yX9_has : MethodName := ⟨RX9, "has", "(III)Z"⟩
abbrev cX9_findOrOpen : ByteArray := prog_11_method_5_code
def yX9_findOrOpen : MethodName := ⟨RX9, "findOrOpen", "(IIII)LLateRows$Window;"⟩
abbrev cX9_remove : ByteArray := prog_11_method_6_code
def yX9_remove : MethodName := ⟨RX9, "remove", "(I)V"⟩
abbrev cX9_nextDue : ByteArray := prog_11_method_7_code
def yX9_nextDue : MethodName := ⟨RX9, "nextDue", "(LLateRows$Operator;)I"⟩
abbrev cX9_nextClosed : ByteArray := prog_11_method_8_code
def yX9_nextClosed : MethodName := ⟨RX9, "nextClosed", "(LLateRows$Operator;)I"⟩
abbrev cX9_gather : ByteArray := prog_11_method_9_code
def yX9_gather : MethodName := ⟨RX9, "gather", "(LLateRows$Join;LLateRows$Operator;II)V"⟩
abbrev cX9_endsBefore : ByteArray := prog_11_method_10_code
def yX9_endsBefore : MethodName := ⟨RX9, "endsBefore", "(LLateRows$Window;I)Z"⟩
abbrev cX9_holds : ByteArray := prog_11_method_11_code
def yX9_holds : MethodName := ⟨RX9, "holds", "(IIII)Z"⟩
abbrev cX9_placeOf : ByteArray := prog_11_method_12_code
def yX9_placeOf : MethodName := ⟨RX9, "placeOf", "(III)I"⟩
abbrev cX9_open : ByteArray := prog_11_method_13_code
def yX9_open : MethodName := ⟨RX9, "open", "(IIIII)V"⟩
def RX10 : String := "LateRows"
def TX10 : u_T := fun k => match k with
  | 0 => ("LateRows", "operators", "[LLateRows$Operator;", true)
  | 1 => ("LateRows", "operatorCount", "I", false)
  | 2 => ("LateRows", "sources", "[LLateRows$Source;", true)
  | 3 => ("LateRows", "sourceCount", "I", false)
  | 4 => ("LateRows", "rows", "LLateRows$RowLog;", true)
  | 5 => ("LateRows", "windows", "LLateRows$WindowList;", true)
  | 6 => ("LateRows", "join", "LLateRows$Join;", true)
  | 7 => ("LateRows", "results", "LLateRows$Ring;", true)
  | 8 => ("LateRows", "resultsInAll", "I", false)
  | 9 => ("LateRows", "asideRows", "LLateRows$Ring;", true)
  | 10 => ("LateRows", "asideBound", "I", false)
  | 11 => ("LateRows", "asideRule", "I", false)
  | 12 => ("LateRows", "droppedInAll", "I", false)
  | _ => ("LateRows", "onePass", "LLateRows$OnePass;", true)
def tyX10 : Nat → FieldType := fun k => match k with
  | 0 => .array (.object "LateRows$Operator")
  | 1 => .int
  | 2 => .array (.object "LateRows$Source")
  | 3 => .int
  | 4 => .object "LateRows$RowLog"
  | 5 => .object "LateRows$WindowList"
  | 6 => .object "LateRows$Join"
  | 7 => .object "LateRows$Ring"
  | 8 => .int
  | 9 => .object "LateRows$Ring"
  | 10 => .int
  | 11 => .int
  | 12 => .int
  | _ => .object "LateRows$OnePass"
theorem nmX10 : ∀ a, a < 14 → ∀ b, b < 14 → a ≠ b → (TX10 a).2.1 ≠ (TX10 b).2.1 := by decide +kernel
theorem tyX10_ok : ∀ k, k < 14 → parseFieldDescriptor (TX10 k).2.2.1 = some (tyX10 k) := by decide +kernel
abbrev cX10_init : ByteArray := prog_1_method_1_code
def yX10_init : MethodName := ⟨RX10, "<init>", "()V"⟩
abbrev cX10_operator : ByteArray := prog_1_method_2_code
def yX10_operator : MethodName := ⟨RX10, "operator", "(IIIII)I"⟩
abbrev cX10_source : ByteArray := prog_1_method_3_code
def yX10_source : MethodName := ⟨RX10, "source", "(I)I"⟩
abbrev cX10_promise : ByteArray := prog_1_method_4_code
def yX10_promise : MethodName := ⟨RX10, "promise", "(II)I"⟩
abbrev cX10_end : ByteArray := prog_1_method_5_code
def yX10_end : MethodName := ⟨RX10, "end", "(I)I"⟩
abbrev cX10_row : ByteArray := prog_1_method_6_code
def yX10_row : MethodName := ⟨RX10, "row", "(IIII)I"⟩
abbrev cX10_result : ByteArray := prog_1_method_7_code
def yX10_result : MethodName := ⟨RX10, "result", "(II)J"⟩
abbrev cX10_aside : ByteArray := prog_1_method_8_code
def yX10_aside : MethodName := ⟨RX10, "aside", "(II)I"⟩
abbrev cX10_take : ByteArray := prog_1_method_9_code
def yX10_take : MethodName := ⟨RX10, "take", "()I"⟩
abbrev cX10_bound : ByteArray := prog_1_method_10_code
def yX10_bound : MethodName := ⟨RX10, "bound", "(II)I"⟩
abbrev cX10_of : ByteArray := prog_1_method_11_code
def yX10_of : MethodName := ⟨RX10, "of", "(II)I"⟩
abbrev cX10_mark : ByteArray := prog_1_method_12_code
def yX10_mark : MethodName := ⟨RX10, "mark", "(I)I"⟩
abbrev cX10_window : ByteArray := prog_1_method_13_code
def yX10_window : MethodName := ⟨RX10, "window", "(IIII)J"⟩
abbrev cX10_pass : ByteArray := prog_1_method_14_code
def yX10_pass : MethodName := ⟨RX10, "pass", "(IZ)I"⟩
abbrev cX10_passed : ByteArray := prog_1_method_15_code
def yX10_passed : MethodName := ⟨RX10, "passed", "(II)J"⟩
abbrev cX10_count : ByteArray := prog_1_method_16_code
def yX10_count : MethodName := ⟨RX10, "count", "(I)I"⟩
abbrev cX10_isWithin : ByteArray := prog_1_method_17_code
def yX10_isWithin : MethodName := ⟨RX10, "isWithin", "(III)Z"⟩
abbrev cX10_operatorAt : ByteArray := prog_1_method_18_code
def yX10_operatorAt : MethodName := ⟨RX10, "operatorAt", "(I)LLateRows$Operator;"⟩
abbrev cX10_sourceAt : ByteArray := prog_1_method_19_code
def yX10_sourceAt : MethodName := ⟨RX10, "sourceAt", "(I)LLateRows$Source;"⟩
abbrev cX10_moveMark : ByteArray := prog_1_method_20_code
def yX10_moveMark : MethodName := ⟨RX10, "moveMark", "(LLateRows$Operator;)I"⟩
abbrev cX10_leastPromise : ByteArray := prog_1_method_21_code
def yX10_leastPromise : MethodName := ⟨RX10, "leastPromise", "(LLateRows$Operator;)I"⟩
abbrev cX10_tellAllDue : ByteArray := prog_1_method_22_code
def yX10_tellAllDue : MethodName := ⟨RX10, "tellAllDue", "(LLateRows$Operator;)V"⟩
abbrev cX10_letClosedGo : ByteArray := prog_1_method_23_code
def yX10_letClosedGo : MethodName := ⟨RX10, "letClosedGo", "(LLateRows$Operator;)V"⟩
abbrev cX10_tell : ByteArray := prog_1_method_24_code
def yX10_tell : MethodName := ⟨RX10, "tell", "(LLateRows$Window;)V"⟩
abbrev cX10_keepResult : ByteArray := prog_1_method_25_code
def yX10_keepResult : MethodName := ⟨RX10, "keepResult", "(ILLateRows$Window;)V"⟩
abbrev cX10_judge : ByteArray := prog_1_method_26_code
def yX10_judge : MethodName := ⟨RX10, "judge", "(LLateRows$Operator;I)I"⟩
abbrev cX10_judgeInGaps : ByteArray := prog_1_method_27_code
def yX10_judgeInGaps : MethodName := ⟨RX10, "judgeInGaps", "(LLateRows$Operator;)I"⟩
abbrev cX10_judgeInGrid : ByteArray := prog_1_method_28_code
def yX10_judgeInGrid : MethodName := ⟨RX10, "judgeInGrid", "(LLateRows$Operator;I)I"⟩
abbrev cX10_layAside : ByteArray := prog_1_method_29_code
def yX10_layAside : MethodName := ⟨RX10, "layAside", "(LLateRows$Source;IIII)I"⟩
abbrev cX10_keepAside : ByteArray := prog_1_method_30_code
def yX10_keepAside : MethodName := ⟨RX10, "keepAside", "(LLateRows$Source;IIII)V"⟩
abbrev cX10_countNewWindows : ByteArray := prog_1_method_31_code
def yX10_countNewWindows : MethodName := ⟨RX10, "countNewWindows", "(LLateRows$Operator;II)I"⟩
abbrev cX10_useInGrid : ByteArray := prog_1_method_32_code
def yX10_useInGrid : MethodName := ⟨RX10, "useInGrid", "(LLateRows$Operator;III)V"⟩
abbrev cX10_useInGaps : ByteArray := prog_1_method_33_code
def yX10_useInGaps : MethodName := ⟨RX10, "useInGaps", "(LLateRows$Operator;II)V"⟩
abbrev cX10_takeBackJoined : ByteArray := prog_1_method_34_code
def yX10_takeBackJoined : MethodName := ⟨RX10, "takeBackJoined", "()V"⟩
abbrev cX10_mergeJoined : ByteArray := prog_1_method_35_code
def yX10_mergeJoined : MethodName := ⟨RX10, "mergeJoined", "(LLateRows$Window;)V"⟩
abbrev cX10_comeInto : ByteArray := prog_1_method_36_code
def yX10_comeInto : MethodName := ⟨RX10, "comeInto", "(LLateRows$Operator;LLateRows$Window;I)V"⟩
def RX11 : String := "LateRowsModel"
def TX11 : u_T := fun k => match k with
  | 0 => ("LateRowsModel", "operators", "I", false)
  | 1 => ("LateRowsModel", "oKind", "[I", true)
  | 2 => ("LateRowsModel", "oSize", "[I", true)
  | 3 => ("LateRowsModel", "oStep", "[I", true)
  | 4 => ("LateRowsModel", "oLate", "[I", true)
  | 5 => ("LateRowsModel", "oRule", "[I", true)
  | 6 => ("LateRowsModel", "oMark", "[I", true)
  | 7 => ("LateRowsModel", "sources", "I", false)
  | 8 => ("LateRowsModel", "sOp", "[I", true)
  | 9 => ("LateRowsModel", "sPromise", "[I", true)
  | 10 => ("LateRowsModel", "sEnded", "[Z", true)
  | 11 => ("LateRowsModel", "sStopped", "[Z", true)
  | 12 => ("LateRowsModel", "sUsed", "[I", true)
  | 13 => ("LateRowsModel", "sAside", "[I", true)
  | 14 => ("LateRowsModel", "sBroken", "[I", true)
  | 15 => ("LateRowsModel", "sFirst", "[I", true)
  | 16 => ("LateRowsModel", "rows", "I", false)
  | 17 => ("LateRowsModel", "rSource", "[I", true)
  | 18 => ("LateRowsModel", "rKey", "[I", true)
  | 19 => ("LateRowsModel", "rTime", "[I", true)
  | 20 => ("LateRowsModel", "rV", "[I", true)
  | 21 => ("LateRowsModel", "rUsed", "[Z", true)
  | 22 => ("LateRowsModel", "windows", "I", false)
  | 23 => ("LateRowsModel", "wOp", "[I", true)
  | 24 => ("LateRowsModel", "wKey", "[I", true)
  | 25 => ("LateRowsModel", "wBegin", "[I", true)
  | 26 => ("LateRowsModel", "wEnd", "[I", true)
  | 27 => ("LateRowsModel", "wMany", "[I", true)
  | 28 => ("LateRowsModel", "wSum", "[J", true)
  | 29 => ("LateRowsModel", "wLeast", "[I", true)
  | 30 => ("LateRowsModel", "wMost", "[I", true)
  | 31 => ("LateRowsModel", "wTold", "[Z", true)
  | 32 => ("LateRowsModel", "wCame", "[Z", true)
  | 33 => ("LateRowsModel", "tMany", "[I", true)
  | 34 => ("LateRowsModel", "tSum", "[J", true)
  | 35 => ("LateRowsModel", "tLeast", "[I", true)
  | 36 => ("LateRowsModel", "tMost", "[I", true)
  | 37 => ("LateRowsModel", "results", "I", false)
  | 38 => ("LateRowsModel", "ever", "I", false)
  | 39 => ("LateRowsModel", "eRow", "[J", true)
  | 40 => ("LateRowsModel", "asides", "I", false)
  | 41 => ("LateRowsModel", "aRow", "[I", true)
  | 42 => ("LateRowsModel", "bound", "I", false)
  | 43 => ("LateRowsModel", "rule", "I", false)
  | 44 => ("LateRowsModel", "dropped", "I", false)
  | 45 => ("LateRowsModel", "firstBegin", "I", false)
  | 46 => ("LateRowsModel", "firstEnd", "I", false)
  | 47 => ("LateRowsModel", "joins", "I", false)
  | 48 => ("LateRowsModel", "joinsTold", "Z", false)
  | 49 => ("LateRowsModel", "passes", "I", false)
  | _ => ("LateRowsModel", "pRow", "[J", true)
def tyX11 : Nat → FieldType := fun k => match k with
  | 0 => .int
  | 1 => .array .int
  | 2 => .array .int
  | 3 => .array .int
  | 4 => .array .int
  | 5 => .array .int
  | 6 => .array .int
  | 7 => .int
  | 8 => .array .int
  | 9 => .array .int
  | 10 => .array .boolean
  | 11 => .array .boolean
  | 12 => .array .int
  | 13 => .array .int
  | 14 => .array .int
  | 15 => .array .int
  | 16 => .int
  | 17 => .array .int
  | 18 => .array .int
  | 19 => .array .int
  | 20 => .array .int
  | 21 => .array .boolean
  | 22 => .int
  | 23 => .array .int
  | 24 => .array .int
  | 25 => .array .int
  | 26 => .array .int
  | 27 => .array .int
  | 28 => .array .long
  | 29 => .array .int
  | 30 => .array .int
  | 31 => .array .boolean
  | 32 => .array .boolean
  | 33 => .array .int
  | 34 => .array .long
  | 35 => .array .int
  | 36 => .array .int
  | 37 => .int
  | 38 => .int
  | 39 => .array .long
  | 40 => .int
  | 41 => .array .int
  | 42 => .int
  | 43 => .int
  | 44 => .int
  | 45 => .int
  | 46 => .int
  | 47 => .int
  | 48 => .boolean
  | 49 => .int
  | _ => .array .long
theorem nmX11 : ∀ a, a < 51 → ∀ b, b < 51 → a ≠ b → (TX11 a).2.1 ≠ (TX11 b).2.1 := by decide +kernel
theorem tyX11_ok : ∀ k, k < 51 → parseFieldDescriptor (TX11 k).2.2.1 = some (tyX11 k) := by decide +kernel
abbrev cX11_in : ByteArray := prog_13_method_1_code
def yX11_in : MethodName := ⟨RX11, "in", "(III)Z"⟩
abbrev cX11_down : ByteArray := prog_13_method_2_code
def yX11_down : MethodName := ⟨RX11, "down", "(II)I"⟩
abbrev cX11_init : ByteArray := prog_13_method_3_code
def yX11_init : MethodName := ⟨RX11, "<init>", "()V"⟩
abbrev cX11_isOp : ByteArray := prog_13_method_4_code
def yX11_isOp : MethodName := ⟨RX11, "isOp", "(I)Z"⟩
abbrev cX11_isSource : ByteArray := prog_13_method_5_code
def yX11_isSource : MethodName := ⟨RX11, "isSource", "(I)Z"⟩
abbrev cX11_operator : ByteArray := prog_13_method_6_code
def yX11_operator : MethodName := ⟨RX11, "operator", "(IIIII)I"⟩
abbrev cX11_source : ByteArray := prog_13_method_7_code
def yX11_source : MethodName := ⟨RX11, "source", "(I)I"⟩
abbrev cX11_result : ByteArray := prog_13_method_8_code
def yX11_result : MethodName := ⟨RX11, "result", "(IIIJII)V"⟩
abbrev cX11_tell : ByteArray := prog_13_method_9_code
def yX11_tell : MethodName := ⟨RX11, "tell", "(I)V"⟩
abbrev cX11_takeBack : ByteArray := prog_13_method_10_code
def yX11_takeBack : MethodName := ⟨RX11, "takeBack", "(I)V"⟩
abbrev cX11_remove : ByteArray := prog_13_method_11_code
def yX11_remove : MethodName := ⟨RX11, "remove", "(I)V"⟩
abbrev cX11_isAhead : ByteArray := prog_13_method_12_code
def yX11_isAhead : MethodName := ⟨RX11, "isAhead", "(II)Z"⟩
abbrev cX11_isClosed : ByteArray := prog_13_method_13_code
def yX11_isClosed : MethodName := ⟨RX11, "isClosed", "(II)Z"⟩
abbrev cX11_due : ByteArray := prog_13_method_14_code
def yX11_due : MethodName := ⟨RX11, "due", "(IZ)I"⟩
abbrev cX11_moves : ByteArray := prog_13_method_15_code
def yX11_moves : MethodName := ⟨RX11, "moves", "(I)I"⟩
abbrev cX11_promise : ByteArray := prog_13_method_16_code
def yX11_promise : MethodName := ⟨RX11, "promise", "(II)I"⟩
abbrev cX11_end : ByteArray := prog_13_method_17_code
def yX11_end : MethodName := ⟨RX11, "end", "(I)I"⟩
abbrev cX11_found : ByteArray := prog_13_method_18_code
def yX11_found : MethodName := ⟨RX11, "found", "(III)I"⟩
abbrev cX11_made : ByteArray := prog_13_method_19_code
def yX11_made : MethodName := ⟨RX11, "made", "(IIII)I"⟩
abbrev cX11_into : ByteArray := prog_13_method_20_code
def yX11_into : MethodName := ⟨RX11, "into", "(II)V"⟩
abbrev cX11_follows : ByteArray := prog_13_method_21_code
def yX11_follows : MethodName := ⟨RX11, "follows", "(I)V"⟩
abbrev cX11_meets : ByteArray := prog_13_method_22_code
def yX11_meets : MethodName := ⟨RX11, "meets", "(IIIII)Z"⟩
abbrev cX11_joined : ByteArray := prog_13_method_23_code
def yX11_joined : MethodName := ⟨RX11, "joined", "(III)V"⟩
abbrev cX11_beginOf : ByteArray := prog_13_method_24_code
def yX11_beginOf : MethodName := ⟨RX11, "beginOf", "(III)I"⟩
abbrev cX11_putAside : ByteArray := prog_13_method_25_code
def yX11_putAside : MethodName := ⟨RX11, "putAside", "(IIIII)Z"⟩
abbrev cX11_came : ByteArray := prog_13_method_26_code
def yX11_came : MethodName := ⟨RX11, "came", "(IIIIZ)V"⟩
abbrev cX11_row : ByteArray := prog_13_method_27_code
def yX11_row : MethodName := ⟨RX11, "row", "(IIII)I"⟩
abbrev cX11_gap : ByteArray := prog_13_method_28_code
def yX11_gap : MethodName := ⟨RX11, "gap", "(IIII)V"⟩
abbrev cX11_result_ : ByteArray := prog_13_method_29_code
def yX11_result_ : MethodName := ⟨RX11, "result", "(II)J"⟩
abbrev cX11_aside : ByteArray := prog_13_method_30_code
def yX11_aside : MethodName := ⟨RX11, "aside", "(II)I"⟩
abbrev cX11_take : ByteArray := prog_13_method_31_code
def yX11_take : MethodName := ⟨RX11, "take", "()I"⟩
abbrev cX11_bound : ByteArray := prog_13_method_32_code
def yX11_bound : MethodName := ⟨RX11, "bound", "(II)I"⟩
abbrev cX11_of : ByteArray := prog_13_method_33_code
def yX11_of : MethodName := ⟨RX11, "of", "(II)I"⟩
abbrev cX11_mark : ByteArray := prog_13_method_34_code
def yX11_mark : MethodName := ⟨RX11, "mark", "(I)I"⟩
abbrev cX11_window : ByteArray := prog_13_method_35_code
def yX11_window : MethodName := ⟨RX11, "window", "(IIII)J"⟩
abbrev cX11_passInto : ByteArray := prog_13_method_36_code
def yX11_passInto : MethodName := ⟨RX11, "passInto", "(IIIJ)V"⟩
abbrev cX11_isTaken : ByteArray := prog_13_method_37_code
def yX11_isTaken : MethodName := ⟨RX11, "isTaken", "(IIZ)Z"⟩
abbrev cX11_edge : ByteArray := prog_13_method_38_code
def yX11_edge : MethodName := ⟨RX11, "edge", "(IIZZ)I"⟩
abbrev cX11_pass : ByteArray := prog_13_method_39_code
def yX11_pass : MethodName := ⟨RX11, "pass", "(IZ)I"⟩
abbrev cX11_passed : ByteArray := prog_13_method_40_code
def yX11_passed : MethodName := ⟨RX11, "passed", "(II)J"⟩
abbrev cX11_count : ByteArray := prog_13_method_41_code
def yX11_count : MethodName := ⟨RX11, "count", "(I)I"⟩
def RJ9 : String := "java/lang/Math"
def TJ9 : u_T := fun k => match k with
  | _ => ("", "", "", false)
def tyJ9 : Nat → FieldType := fun k => match k with
  | _ => .int
theorem nmJ9 : ∀ a, a < 0 → ∀ b, b < 0 → a ≠ b → (TJ9 a).2.1 ≠ (TJ9 b).2.1 := by decide +kernel
theorem tyJ9_ok : ∀ k, k < 0 → parseFieldDescriptor (TJ9 k).2.2.1 = some (tyJ9 k) := by decide +kernel
abbrev cJ9_floorDiv_7cf53 : ByteArray := prog_14_method_47_code
def yJ9_floorDiv_7cf53 : MethodName := ⟨RJ9, "floorDiv", "(II)I"⟩
abbrev cJ9_max_7cf53 : ByteArray := prog_14_method_65_code
def yJ9_max_7cf53 : MethodName := ⟨RJ9, "max", "(II)I"⟩
abbrev cJ9_max_f86c9 : ByteArray := prog_14_method_66_code
def yJ9_max_f86c9 : MethodName := ⟨RJ9, "max", "(JJ)J"⟩
abbrev cJ9_min_7cf53 : ByteArray := prog_14_method_69_code
def yJ9_min_7cf53 : MethodName := ⟨RJ9, "min", "(II)I"⟩
abbrev cJ9_min_f86c9 : ByteArray := prog_14_method_70_code
def yJ9_min_f86c9 : MethodName := ⟨RJ9, "min", "(JJ)J"⟩
def RL : String := "LateRowsLaw"
abbrev cL_law : ByteArray := code
def yL_law : MethodName := ⟨RL, "law", "([I)Z"⟩
/-- the classes whose objects the worlds hold -/
abbrev classes : List vw_C := [(RX0, TX0, 5), (RX1, TX1, 2), (RX2, TX2, 7), (RX3, TX3, 6), (RX4, TX4, 5), (RX5, TX5, 2), (RX6, TX6, 9), (RX7, TX7, 4), (RX8, TX8, 8), (RX9, TX9, 2), (RX10, TX10, 14), (RX11, TX11, 51)]
/-- the types of their fields -/
def rv_tys : List (Nat → FieldType) := [tyX0, tyX1, tyX2, tyX3, tyX4, tyX5, tyX6, tyX7, tyX8, tyX9, tyX10, tyX11]
/-- a new object's fields -/
def rv_dfs : List (List Value) := [[.int 0, .int 0, .int 0, .int 0, .int 0], [.null, .int 0], [.int 0, .int 0, .int 0, .int 0, .int 0, .int 0, .int 0], [.int 0, .int 0, .null, .int 0, .int 0, .int 0], [.null, .int 0, .int 0, .int 0, .int 0], [.null, .int 0], [.int 0, .null, .int 0, .int 0, .int 0, .int 0, .int 0, .int 0, .int 0], [.int 0, .long 0, .int 0, .int 0], [.int 0, .int 0, .int 0, .int 0, .int 0, .int 0, .null, .null], [.null, .int 0], [.null, .int 0, .null, .int 0, .null, .null, .null, .null, .int 0, .null, .int 0, .int 0, .int 0, .null], [.int 0, .null, .null, .null, .null, .null, .null, .int 0, .null, .null, .null, .null, .null, .null, .null, .null, .int 0, .null, .null, .null, .null, .null, .int 0, .null, .null, .null, .null, .null, .null, .null, .null, .null, .null, .null, .null, .null, .null, .int 0, .int 0, .null, .int 0, .null, .int 0, .int 0, .int 0, .int 0, .int 0, .int 0, .int 0, .int 0, .null]]
abbrev k_Join : Nat := 0
abbrev k_OnePass : Nat := 1
abbrev k_Operator : Nat := 2
abbrev k_Ring : Nat := 3
abbrev k_Row : Nat := 4
abbrev k_RowLog : Nat := 5
abbrev k_Source : Nat := 6
abbrev k_Tally : Nat := 7
abbrev k_Window : Nat := 8
abbrev k_WindowList : Nat := 9
abbrev k_Late : Nat := 10
abbrev k_Model : Nat := 11
end
section
/-- an instruction with what it links: pc, instruction, three numbers, the place of its word, a constant, a switch's places -/
abbrev rv_I : Type := Nat × Instr × Nat × Nat × Nat × Nat × Int32 × List (Int32 × Nat)
/-- a method: name, bytes, locals, answer, class, rank, words of the stack below it, the places of its words (code, initialized, instance or static, selects), listing -/
abbrev rv_M : Type := MethodName × ByteArray × Nat × Option FieldType × String × Nat × Nat × (Nat × Nat × Nat × Nat) × List rv_I
def m_Join_init : rv_M := (yX0_init, cX0_init, 1, none, RX0, 1, 20, (180, 56, 179, 0), [
  (0, .aload_n 0, 0, 0, 0, 0, 0, []),
  (1, .invokespecial 1, 0, 0, 2, 181, 0, []),
  (4, .aload_n 0, 0, 0, 0, 0, 0, []),
  (5, .iconst 0, 0, 0, 0, 0, 0, []),
  (6, .putfield 7, 0, 0, 0, 182, 0, []),
  (9, .aload_n 0, 0, 0, 0, 0, 0, []),
  (10, .iconst 0, 0, 0, 0, 0, 0, []),
  (11, .putfield 13, 0, 1, 0, 184, 0, []),
  (14, .aload_n 0, 0, 0, 0, 0, 0, []),
  (15, .iconst 0, 0, 0, 0, 0, 0, []),
  (16, .putfield 16, 0, 2, 0, 186, 0, []),
  (19, .aload_n 0, 0, 0, 0, 0, 0, []),
  (20, .iconst 0, 0, 0, 0, 0, 0, []),
  (21, .putfield 19, 0, 3, 0, 188, 0, []),
  (24, .aload_n 0, 0, 0, 0, 0, 0, []),
  (25, .iconst 0, 0, 0, 0, 0, 0, []),
  (26, .putfield 22, 0, 4, 0, 190, 0, []),
  (29, .return_, 0, 0, 0, 0, 0, [])])
def m_Join_start : rv_M := (yX0_start, cX0_start, 4, none, RX0, 0, 0, (497, 56, 495, 496), [
  (0, .aload_n 0, 0, 0, 0, 0, 0, []),
  (1, .iload_n 3, 0, 0, 0, 0, 0, []),
  (2, .putfield 7, 0, 0, 0, 182, 0, []),
  (5, .aload_n 0, 0, 0, 0, 0, 0, []),
  (6, .iload_n 1, 0, 0, 0, 0, 0, []),
  (7, .putfield 16, 0, 2, 0, 186, 0, []),
  (10, .aload_n 0, 0, 0, 0, 0, 0, []),
  (11, .iload_n 2, 0, 0, 0, 0, 0, []),
  (12, .putfield 19, 0, 3, 0, 188, 0, []),
  (15, .aload_n 0, 0, 0, 0, 0, 0, []),
  (16, .iconst 0, 0, 0, 0, 0, 0, []),
  (17, .putfield 13, 0, 1, 0, 184, 0, []),
  (20, .aload_n 0, 0, 0, 0, 0, 0, []),
  (21, .iconst 0, 0, 0, 0, 0, 0, []),
  (22, .putfield 22, 0, 4, 0, 190, 0, []),
  (25, .return_, 0, 0, 0, 0, 0, [])])
def m_Join_add : rv_M := (yX0_add, cX0_add, 2, none, RX0, 1, 21, (501, 56, 499, 500), [
  (0, .aload_n 0, 0, 0, 0, 0, 0, []),
  (1, .dup, 0, 0, 0, 0, 0, []),
  (2, .getfield 13, 0, 1, 0, 184, 0, []),
  (5, .iconst 1, 0, 0, 0, 0, 1, []),
  (6, .iadd, 0, 0, 0, 0, 0, []),
  (7, .putfield 13, 0, 1, 0, 184, 0, []),
  (10, .aload_n 0, 0, 0, 0, 0, 0, []),
  (11, .aload_n 0, 0, 0, 0, 0, 0, []),
  (12, .getfield 16, 0, 2, 0, 186, 0, []),
  (15, .aload_n 1, 0, 0, 0, 0, 0, []),
  (16, .getfield 26, 8, 2, 0, 134, 0, []),
  (19, .invokestatic 29, 131, 2, 0, 502, 0, []),
  (22, .putfield 16, 0, 2, 0, 186, 0, []),
  (25, .aload_n 0, 0, 0, 0, 0, 0, []),
  (26, .aload_n 0, 0, 0, 0, 0, 0, []),
  (27, .getfield 19, 0, 3, 0, 188, 0, []),
  (30, .aload_n 1, 0, 0, 0, 0, 0, []),
  (31, .getfield 35, 8, 3, 0, 138, 0, []),
  (34, .invokestatic 36, 129, 2, 0, 503, 0, []),
  (37, .putfield 19, 0, 3, 0, 188, 0, []),
  (40, .aload_n 0, 0, 0, 0, 0, 0, []),
  (41, .aload_n 0, 0, 0, 0, 0, 0, []),
  (42, .getfield 22, 0, 4, 0, 190, 0, []),
  (45, .ifCond .ne 10, 55, 0, 0, 0, 0, []),
  (48, .aload_n 1, 0, 0, 0, 0, 0, []),
  (49, .getfield 39, 8, 4, 0, 142, 0, []),
  (52, .ifCond .eq 7, 59, 0, 0, 0, 0, []),
  (55, .iconst 1, 0, 0, 0, 0, 1, []),
  (56, .goto 4, 60, 0, 0, 0, 0, []),
  (59, .iconst 0, 0, 0, 0, 0, 0, []),
  (60, .putfield 22, 0, 4, 0, 190, 0, []),
  (63, .return_, 0, 0, 0, 0, 0, [])])
def m_OnePass_init : rv_M := (yX1_init, cX1_init, 1, none, RX1, 1, 20, (237, 59, 236, 0), [
  (0, .aload_n 0, 0, 0, 0, 0, 0, []),
  (1, .invokespecial 3, 0, 0, 2, 238, 0, []),
  (4, .aload_n 0, 0, 0, 0, 0, 0, []),
  (5, .sipush 16800, 0, 0, 0, 0, 16800, []),
  (8, .newarray .long, 0, 0, 0, 232, 0, []),
  (10, .putfield 11, 1, 0, 0, 239, 0, []),
  (13, .aload_n 0, 0, 0, 0, 0, 0, []),
  (14, .iconst 0, 0, 0, 0, 0, 0, []),
  (15, .putfield 15, 1, 1, 0, 240, 0, []),
  (18, .return_, 0, 0, 0, 0, 0, [])])
def m_OnePass_clear : rv_M := (yX1_clear, cX1_clear, 1, none, RX1, 0, 0, (680, 59, 678, 679), [
  (0, .aload_n 0, 0, 0, 0, 0, 0, []),
  (1, .iconst 0, 0, 0, 0, 0, 0, []),
  (2, .putfield 15, 1, 1, 0, 240, 0, []),
  (5, .return_, 0, 0, 0, 0, 0, [])])
def m_OnePass_add : rv_M := (yX1_add, cX1_add, 3, none, RX1, 3, 73, (688, 59, 686, 687), [
  (0, .aload_n 1, 0, 0, 0, 0, 0, []),
  (1, .getfield 19, 2, 1, 0, 307, 0, []),
  (4, .iconst 2, 0, 0, 0, 0, 2, []),
  (5, .if_icmp .ne 12, 17, 0, 0, 0, 0, []),
  (8, .aload_n 0, 0, 0, 0, 0, 0, []),
  (9, .aload_n 1, 0, 0, 0, 0, 0, []),
  (10, .aload_n 2, 0, 0, 0, 0, 0, []),
  (11, .invokevirtual 24, 7, 2, 1, 689, 0, []),
  (14, .goto 9, 23, 0, 0, 0, 0, []),
  (17, .aload_n 0, 0, 0, 0, 0, 0, []),
  (18, .aload_n 1, 0, 0, 0, 0, 0, []),
  (19, .aload_n 2, 0, 0, 0, 0, 0, []),
  (20, .invokevirtual 28, 8, 2, 1, 712, 0, []),
  (23, .return_, 0, 0, 0, 0, 0, [])])
def m_OnePass_get : rv_M := (yX1_get, cX1_get, 3, some .long, RX1, 0, 0, (696, 59, 694, 695), [
  (0, .iload_n 1, 0, 0, 0, 0, 0, []),
  (1, .ifCond .lt 21, 22, 0, 0, 0, 0, []),
  (4, .iload_n 1, 0, 0, 0, 0, 0, []),
  (5, .aload_n 0, 0, 0, 0, 0, 0, []),
  (6, .getfield 15, 1, 1, 0, 240, 0, []),
  (9, .if_icmp .ge 13, 22, 0, 0, 0, 0, []),
  (12, .iload_n 2, 0, 0, 0, 0, 0, []),
  (13, .ifCond .lt 9, 22, 0, 0, 0, 0, []),
  (16, .iload_n 2, 0, 0, 0, 0, 0, []),
  (17, .bipush 7, 0, 0, 0, 0, 7, []),
  (19, .if_icmp .lt 7, 26, 0, 0, 0, 0, []),
  (22, .ldc2_w 31, 0, 0, 0, 697, 0, []),
  (25, .lreturn, 0, 0, 0, 0, 0, []),
  (26, .aload_n 0, 0, 0, 0, 0, 0, []),
  (27, .getfield 11, 1, 0, 0, 239, 0, []),
  (30, .iload_n 1, 0, 0, 0, 0, 0, []),
  (31, .bipush 7, 0, 0, 0, 0, 7, []),
  (33, .imul, 0, 0, 0, 0, 0, []),
  (34, .iload_n 2, 0, 0, 0, 0, 0, []),
  (35, .iadd, 0, 0, 0, 0, 0, []),
  (36, .laload, 0, 0, 0, 0, 0, []),
  (37, .lreturn, 0, 0, 0, 0, 0, [])])
def m_OnePass_addToGaps : rv_M := (yX1_addToGaps, cX1_addToGaps, 5, none, RX1, 2, 47, (692, 59, 691, 22), [
  (0, .aload_n 2, 0, 0, 0, 0, 0, []),
  (1, .getfield 33, 4, 2, 0, 550, 0, []),
  (4, .aload_n 1, 0, 0, 0, 0, 0, []),
  (5, .getfield 38, 2, 2, 0, 310, 0, []),
  (8, .iadd, 0, 0, 0, 0, 0, []),
  (9, .istore_n 3, 0, 0, 0, 0, 0, []),
  (10, .aload_n 0, 0, 0, 0, 0, 0, []),
  (11, .getfield 15, 1, 1, 0, 240, 0, []),
  (14, .iconst 1, 0, 0, 0, 0, 1, []),
  (15, .isub, 0, 0, 0, 0, 0, []),
  (16, .istore 4, 0, 0, 0, 0, 0, []),
  (18, .iload 4, 0, 0, 0, 0, 0, []),
  (20, .ifCond .lt 49, 69, 0, 0, 0, 0, []),
  (23, .aload_n 0, 0, 0, 0, 0, 0, []),
  (24, .iload 4, 0, 0, 0, 0, 0, []),
  (26, .iconst 0, 0, 0, 0, 0, 0, []),
  (27, .invokevirtual 39, 6, 2, 1, 693, 0, []),
  (30, .aload_n 2, 0, 0, 0, 0, 0, []),
  (31, .getfield 43, 4, 1, 0, 548, 0, []),
  (34, .i2l, 0, 0, 0, 0, 0, []),
  (35, .lcmp, 0, 0, 0, 0, 0, []),
  (36, .ifCond .ne 33, 69, 0, 0, 0, 0, []),
  (39, .aload_n 2, 0, 0, 0, 0, 0, []),
  (40, .getfield 33, 4, 2, 0, 550, 0, []),
  (43, .i2l, 0, 0, 0, 0, 0, []),
  (44, .aload_n 0, 0, 0, 0, 0, 0, []),
  (45, .iload 4, 0, 0, 0, 0, 0, []),
  (47, .iconst 2, 0, 0, 0, 0, 2, []),
  (48, .invokevirtual 39, 6, 2, 1, 693, 0, []),
  (51, .lcmp, 0, 0, 0, 0, 0, []),
  (52, .ifCond .ge 17, 69, 0, 0, 0, 0, []),
  (55, .aload_n 0, 0, 0, 0, 0, 0, []),
  (56, .iload 4, 0, 0, 0, 0, 0, []),
  (58, .iload_n 3, 0, 0, 0, 0, 0, []),
  (59, .aload_n 2, 0, 0, 0, 0, 0, []),
  (60, .getfield 46, 4, 3, 0, 552, 0, []),
  (63, .invokevirtual 49, 11, 3, 1, 698, 0, []),
  (66, .goto 13, 79, 0, 0, 0, 0, []),
  (69, .aload_n 0, 0, 0, 0, 0, 0, []),
  (70, .aload_n 2, 0, 0, 0, 0, 0, []),
  (71, .aload_n 2, 0, 0, 0, 0, 0, []),
  (72, .getfield 33, 4, 2, 0, 550, 0, []),
  (75, .iload_n 3, 0, 0, 0, 0, 0, []),
  (76, .invokevirtual 53, 10, 3, 1, 708, 0, []),
  (79, .return_, 0, 0, 0, 0, 0, [])])
def m_OnePass_addToGrid : rv_M := (yX1_addToGrid, cX1_addToGrid, 7, none, RX1, 2, 47, (715, 59, 714, 25), [
  (0, .aload_n 1, 0, 0, 0, 0, 0, []),
  (1, .aload_n 2, 0, 0, 0, 0, 0, []),
  (2, .getfield 33, 4, 2, 0, 550, 0, []),
  (5, .invokevirtual 57, 15, 1, 2, 716, 0, []),
  (8, .istore_n 3, 0, 0, 0, 0, 0, []),
  (9, .iconst 0, 0, 0, 0, 0, 0, []),
  (10, .istore 4, 0, 0, 0, 0, 0, []),
  (12, .iload 4, 0, 0, 0, 0, 0, []),
  (14, .bipush 8, 0, 0, 0, 0, 8, []),
  (16, .if_icmp .ge 71, 87, 0, 0, 0, 0, []),
  (19, .iload_n 3, 0, 0, 0, 0, 0, []),
  (20, .aload_n 2, 0, 0, 0, 0, 0, []),
  (21, .getfield 33, 4, 2, 0, 550, 0, []),
  (24, .if_icmp .gt 63, 87, 0, 0, 0, 0, []),
  (27, .iload_n 3, 0, 0, 0, 0, 0, []),
  (28, .aload_n 1, 0, 0, 0, 0, 0, []),
  (29, .getfield 38, 2, 2, 0, 310, 0, []),
  (32, .iadd, 0, 0, 0, 0, 0, []),
  (33, .istore 5, 0, 0, 0, 0, 0, []),
  (35, .aload_n 0, 0, 0, 0, 0, 0, []),
  (36, .aload_n 2, 0, 0, 0, 0, 0, []),
  (37, .getfield 43, 4, 1, 0, 548, 0, []),
  (40, .iload_n 3, 0, 0, 0, 0, 0, []),
  (41, .invokevirtual 61, 9, 2, 1, 717, 0, []),
  (44, .istore 6, 0, 0, 0, 0, 0, []),
  (46, .iload 6, 0, 0, 0, 0, 0, []),
  (48, .ifCond .lt 18, 66, 0, 0, 0, 0, []),
  (51, .aload_n 0, 0, 0, 0, 0, 0, []),
  (52, .iload 6, 0, 0, 0, 0, 0, []),
  (54, .iload 5, 0, 0, 0, 0, 0, []),
  (56, .aload_n 2, 0, 0, 0, 0, 0, []),
  (57, .getfield 46, 4, 3, 0, 552, 0, []),
  (60, .invokevirtual 49, 11, 3, 1, 698, 0, []),
  (63, .goto 11, 74, 0, 0, 0, 0, []),
  (66, .aload_n 0, 0, 0, 0, 0, 0, []),
  (67, .aload_n 2, 0, 0, 0, 0, 0, []),
  (68, .iload_n 3, 0, 0, 0, 0, 0, []),
  (69, .iload 5, 0, 0, 0, 0, 0, []),
  (71, .invokevirtual 53, 10, 3, 1, 708, 0, []),
  (74, .iload_n 3, 0, 0, 0, 0, 0, []),
  (75, .aload_n 1, 0, 0, 0, 0, 0, []),
  (76, .getfield 65, 2, 3, 0, 314, 0, []),
  (79, .iadd, 0, 0, 0, 0, 0, []),
  (80, .istore_n 3, 0, 0, 0, 0, 0, []),
  (81, .iinc 4 1, 0, 0, 0, 0, 1, []),
  (84, .goto (-72), 12, 0, 0, 0, 0, []),
  (87, .return_, 0, 0, 0, 0, 0, [])])
def m_OnePass_find : rv_M := (yX1_find, cX1_find, 4, some .int, RX1, 1, 22, (720, 59, 719, 26), [
  (0, .aload_n 0, 0, 0, 0, 0, 0, []),
  (1, .getfield 15, 1, 1, 0, 240, 0, []),
  (4, .iconst 1, 0, 0, 0, 0, 1, []),
  (5, .isub, 0, 0, 0, 0, 0, []),
  (6, .istore_n 3, 0, 0, 0, 0, 0, []),
  (7, .iload_n 3, 0, 0, 0, 0, 0, []),
  (8, .ifCond .lt 46, 54, 0, 0, 0, 0, []),
  (11, .iload_n 3, 0, 0, 0, 0, 0, []),
  (12, .aload_n 0, 0, 0, 0, 0, 0, []),
  (13, .getfield 15, 1, 1, 0, 240, 0, []),
  (16, .bipush 8, 0, 0, 0, 0, 8, []),
  (18, .isub, 0, 0, 0, 0, 0, []),
  (19, .if_icmp .lt 35, 54, 0, 0, 0, 0, []),
  (22, .aload_n 0, 0, 0, 0, 0, 0, []),
  (23, .iload_n 3, 0, 0, 0, 0, 0, []),
  (24, .iconst 0, 0, 0, 0, 0, 0, []),
  (25, .invokevirtual 39, 6, 2, 1, 693, 0, []),
  (28, .iload_n 1, 0, 0, 0, 0, 0, []),
  (29, .i2l, 0, 0, 0, 0, 0, []),
  (30, .lcmp, 0, 0, 0, 0, 0, []),
  (31, .ifCond .ne 17, 48, 0, 0, 0, 0, []),
  (34, .aload_n 0, 0, 0, 0, 0, 0, []),
  (35, .iload_n 3, 0, 0, 0, 0, 0, []),
  (36, .iconst 1, 0, 0, 0, 0, 1, []),
  (37, .invokevirtual 39, 6, 2, 1, 693, 0, []),
  (40, .iload_n 2, 0, 0, 0, 0, 0, []),
  (41, .i2l, 0, 0, 0, 0, 0, []),
  (42, .lcmp, 0, 0, 0, 0, 0, []),
  (43, .ifCond .ne 5, 48, 0, 0, 0, 0, []),
  (46, .iload_n 3, 0, 0, 0, 0, 0, []),
  (47, .ireturn, 0, 0, 0, 0, 0, []),
  (48, .iinc 3 (-1), 0, 0, 0, 0, (-1), []),
  (51, .goto (-44), 7, 0, 0, 0, 0, []),
  (54, .iconst (-1), 0, 0, 0, 0, (-1), []),
  (55, .ireturn, 0, 0, 0, 0, 0, [])])
def m_OnePass_open : rv_M := (yX1_open, cX1_open, 5, none, RX1, 0, 0, (711, 59, 710, 24), [
  (0, .aload_n 0, 0, 0, 0, 0, 0, []),
  (1, .getfield 15, 1, 1, 0, 240, 0, []),
  (4, .sipush 2400, 0, 0, 0, 0, 2400, []),
  (7, .if_icmp .lt 4, 11, 0, 0, 0, 0, []),
  (10, .return_, 0, 0, 0, 0, 0, []),
  (11, .aload_n 0, 0, 0, 0, 0, 0, []),
  (12, .getfield 15, 1, 1, 0, 240, 0, []),
  (15, .bipush 7, 0, 0, 0, 0, 7, []),
  (17, .imul, 0, 0, 0, 0, 0, []),
  (18, .istore 4, 0, 0, 0, 0, 0, []),
  (20, .aload_n 0, 0, 0, 0, 0, 0, []),
  (21, .getfield 11, 1, 0, 0, 239, 0, []),
  (24, .iload 4, 0, 0, 0, 0, 0, []),
  (26, .iconst 0, 0, 0, 0, 0, 0, []),
  (27, .iadd, 0, 0, 0, 0, 0, []),
  (28, .aload_n 1, 0, 0, 0, 0, 0, []),
  (29, .getfield 43, 4, 1, 0, 548, 0, []),
  (32, .i2l, 0, 0, 0, 0, 0, []),
  (33, .lastore, 0, 0, 0, 0, 0, []),
  (34, .aload_n 0, 0, 0, 0, 0, 0, []),
  (35, .getfield 11, 1, 0, 0, 239, 0, []),
  (38, .iload 4, 0, 0, 0, 0, 0, []),
  (40, .iconst 1, 0, 0, 0, 0, 1, []),
  (41, .iadd, 0, 0, 0, 0, 0, []),
  (42, .iload_n 2, 0, 0, 0, 0, 0, []),
  (43, .i2l, 0, 0, 0, 0, 0, []),
  (44, .lastore, 0, 0, 0, 0, 0, []),
  (45, .aload_n 0, 0, 0, 0, 0, 0, []),
  (46, .getfield 11, 1, 0, 0, 239, 0, []),
  (49, .iload 4, 0, 0, 0, 0, 0, []),
  (51, .iconst 2, 0, 0, 0, 0, 2, []),
  (52, .iadd, 0, 0, 0, 0, 0, []),
  (53, .iload_n 3, 0, 0, 0, 0, 0, []),
  (54, .i2l, 0, 0, 0, 0, 0, []),
  (55, .lastore, 0, 0, 0, 0, 0, []),
  (56, .aload_n 0, 0, 0, 0, 0, 0, []),
  (57, .getfield 11, 1, 0, 0, 239, 0, []),
  (60, .iload 4, 0, 0, 0, 0, 0, []),
  (62, .iconst 3, 0, 0, 0, 0, 3, []),
  (63, .iadd, 0, 0, 0, 0, 0, []),
  (64, .lconst 1, 0, 0, 0, 0, 0, []),
  (65, .lastore, 0, 0, 0, 0, 0, []),
  (66, .aload_n 0, 0, 0, 0, 0, 0, []),
  (67, .getfield 11, 1, 0, 0, 239, 0, []),
  (70, .iload 4, 0, 0, 0, 0, 0, []),
  (72, .iconst 4, 0, 0, 0, 0, 4, []),
  (73, .iadd, 0, 0, 0, 0, 0, []),
  (74, .aload_n 1, 0, 0, 0, 0, 0, []),
  (75, .getfield 46, 4, 3, 0, 552, 0, []),
  (78, .i2l, 0, 0, 0, 0, 0, []),
  (79, .lastore, 0, 0, 0, 0, 0, []),
  (80, .aload_n 0, 0, 0, 0, 0, 0, []),
  (81, .getfield 11, 1, 0, 0, 239, 0, []),
  (84, .iload 4, 0, 0, 0, 0, 0, []),
  (86, .iconst 5, 0, 0, 0, 0, 5, []),
  (87, .iadd, 0, 0, 0, 0, 0, []),
  (88, .aload_n 1, 0, 0, 0, 0, 0, []),
  (89, .getfield 46, 4, 3, 0, 552, 0, []),
  (92, .i2l, 0, 0, 0, 0, 0, []),
  (93, .lastore, 0, 0, 0, 0, 0, []),
  (94, .aload_n 0, 0, 0, 0, 0, 0, []),
  (95, .getfield 11, 1, 0, 0, 239, 0, []),
  (98, .iload 4, 0, 0, 0, 0, 0, []),
  (100, .bipush 6, 0, 0, 0, 0, 6, []),
  (102, .iadd, 0, 0, 0, 0, 0, []),
  (103, .aload_n 1, 0, 0, 0, 0, 0, []),
  (104, .getfield 46, 4, 3, 0, 552, 0, []),
  (107, .i2l, 0, 0, 0, 0, 0, []),
  (108, .lastore, 0, 0, 0, 0, 0, []),
  (109, .aload_n 0, 0, 0, 0, 0, 0, []),
  (110, .dup, 0, 0, 0, 0, 0, []),
  (111, .getfield 15, 1, 1, 0, 240, 0, []),
  (114, .iconst 1, 0, 0, 0, 0, 1, []),
  (115, .iadd, 0, 0, 0, 0, 0, []),
  (116, .putfield 15, 1, 1, 0, 240, 0, []),
  (119, .return_, 0, 0, 0, 0, 0, [])])
def m_OnePass_comeInto : rv_M := (yX1_comeInto, cX1_comeInto, 5, none, RX1, 1, 23, (701, 59, 700, 23), [
  (0, .iload_n 1, 0, 0, 0, 0, 0, []),
  (1, .ifCond .lt 11, 12, 0, 0, 0, 0, []),
  (4, .iload_n 1, 0, 0, 0, 0, 0, []),
  (5, .aload_n 0, 0, 0, 0, 0, 0, []),
  (6, .getfield 15, 1, 1, 0, 240, 0, []),
  (9, .if_icmp .lt 4, 13, 0, 0, 0, 0, []),
  (12, .return_, 0, 0, 0, 0, 0, []),
  (13, .iload_n 1, 0, 0, 0, 0, 0, []),
  (14, .bipush 7, 0, 0, 0, 0, 7, []),
  (16, .imul, 0, 0, 0, 0, 0, []),
  (17, .istore 4, 0, 0, 0, 0, 0, []),
  (19, .aload_n 0, 0, 0, 0, 0, 0, []),
  (20, .getfield 11, 1, 0, 0, 239, 0, []),
  (23, .iload 4, 0, 0, 0, 0, 0, []),
  (25, .iconst 2, 0, 0, 0, 0, 2, []),
  (26, .iadd, 0, 0, 0, 0, 0, []),
  (27, .iload_n 2, 0, 0, 0, 0, 0, []),
  (28, .i2l, 0, 0, 0, 0, 0, []),
  (29, .lastore, 0, 0, 0, 0, 0, []),
  (30, .aload_n 0, 0, 0, 0, 0, 0, []),
  (31, .getfield 11, 1, 0, 0, 239, 0, []),
  (34, .iload 4, 0, 0, 0, 0, 0, []),
  (36, .iconst 3, 0, 0, 0, 0, 3, []),
  (37, .iadd, 0, 0, 0, 0, 0, []),
  (38, .dup2, 0, 0, 0, 0, 0, []),
  (39, .laload, 0, 0, 0, 0, 0, []),
  (40, .lconst 1, 0, 0, 0, 0, 0, []),
  (41, .ladd, 0, 0, 0, 0, 0, []),
  (42, .lastore, 0, 0, 0, 0, 0, []),
  (43, .aload_n 0, 0, 0, 0, 0, 0, []),
  (44, .getfield 11, 1, 0, 0, 239, 0, []),
  (47, .iload 4, 0, 0, 0, 0, 0, []),
  (49, .iconst 4, 0, 0, 0, 0, 4, []),
  (50, .iadd, 0, 0, 0, 0, 0, []),
  (51, .dup2, 0, 0, 0, 0, 0, []),
  (52, .laload, 0, 0, 0, 0, 0, []),
  (53, .iload_n 3, 0, 0, 0, 0, 0, []),
  (54, .i2l, 0, 0, 0, 0, 0, []),
  (55, .ladd, 0, 0, 0, 0, 0, []),
  (56, .lastore, 0, 0, 0, 0, 0, []),
  (57, .aload_n 0, 0, 0, 0, 0, 0, []),
  (58, .getfield 11, 1, 0, 0, 239, 0, []),
  (61, .iload 4, 0, 0, 0, 0, 0, []),
  (63, .iconst 5, 0, 0, 0, 0, 5, []),
  (64, .iadd, 0, 0, 0, 0, 0, []),
  (65, .aload_n 0, 0, 0, 0, 0, 0, []),
  (66, .getfield 11, 1, 0, 0, 239, 0, []),
  (69, .iload 4, 0, 0, 0, 0, 0, []),
  (71, .iconst 5, 0, 0, 0, 0, 5, []),
  (72, .iadd, 0, 0, 0, 0, 0, []),
  (73, .laload, 0, 0, 0, 0, 0, []),
  (74, .iload_n 3, 0, 0, 0, 0, 0, []),
  (75, .i2l, 0, 0, 0, 0, 0, []),
  (76, .invokestatic 68, 132, 2, 0, 702, 0, []),
  (79, .lastore, 0, 0, 0, 0, 0, []),
  (80, .aload_n 0, 0, 0, 0, 0, 0, []),
  (81, .getfield 11, 1, 0, 0, 239, 0, []),
  (84, .iload 4, 0, 0, 0, 0, 0, []),
  (86, .bipush 6, 0, 0, 0, 0, 6, []),
  (88, .iadd, 0, 0, 0, 0, 0, []),
  (89, .aload_n 0, 0, 0, 0, 0, 0, []),
  (90, .getfield 11, 1, 0, 0, 239, 0, []),
  (93, .iload 4, 0, 0, 0, 0, 0, []),
  (95, .bipush 6, 0, 0, 0, 0, 6, []),
  (97, .iadd, 0, 0, 0, 0, 0, []),
  (98, .laload, 0, 0, 0, 0, 0, []),
  (99, .iload_n 3, 0, 0, 0, 0, 0, []),
  (100, .i2l, 0, 0, 0, 0, 0, []),
  (101, .invokestatic 74, 130, 2, 0, 705, 0, []),
  (104, .lastore, 0, 0, 0, 0, 0, []),
  (105, .return_, 0, 0, 0, 0, 0, [])])
def m_Operator_init : rv_M := (yX2_init, cX2_init, 7, none, RX2, 1, 20, (301, 61, 300, 0), [
  (0, .aload_n 0, 0, 0, 0, 0, 0, []),
  (1, .invokespecial 3, 0, 0, 2, 302, 0, []),
  (4, .aload_n 0, 0, 0, 0, 0, 0, []),
  (5, .iconst 0, 0, 0, 0, 0, 0, []),
  (6, .putfield 9, 2, 6, 0, 319, 0, []),
  (9, .aload_n 0, 0, 0, 0, 0, 0, []),
  (10, .iload_n 1, 0, 0, 0, 0, 0, []),
  (11, .putfield 15, 2, 0, 0, 303, 0, []),
  (14, .aload_n 0, 0, 0, 0, 0, 0, []),
  (15, .iload_n 2, 0, 0, 0, 0, 0, []),
  (16, .putfield 18, 2, 1, 0, 306, 0, []),
  (19, .aload_n 0, 0, 0, 0, 0, 0, []),
  (20, .iload_n 3, 0, 0, 0, 0, 0, []),
  (21, .putfield 21, 2, 2, 0, 309, 0, []),
  (24, .aload_n 0, 0, 0, 0, 0, 0, []),
  (25, .iload_n 2, 0, 0, 0, 0, 0, []),
  (26, .iconst 1, 0, 0, 0, 0, 1, []),
  (27, .if_icmp .ne 8, 35, 0, 0, 0, 0, []),
  (30, .iload 4, 0, 0, 0, 0, 0, []),
  (32, .goto 4, 36, 0, 0, 0, 0, []),
  (35, .iload_n 3, 0, 0, 0, 0, 0, []),
  (36, .putfield 24, 2, 3, 0, 313, 0, []),
  (39, .aload_n 0, 0, 0, 0, 0, 0, []),
  (40, .iload 5, 0, 0, 0, 0, 0, []),
  (42, .putfield 27, 2, 4, 0, 316, 0, []),
  (45, .aload_n 0, 0, 0, 0, 0, 0, []),
  (46, .iload 6, 0, 0, 0, 0, 0, []),
  (48, .putfield 30, 2, 5, 0, 317, 0, []),
  (51, .return_, 0, 0, 0, 0, 0, [])])
def m_Operator_hasReached : rv_M := (yX2_hasReached, cX2_hasReached, 2, some .boolean, RX2, 0, 0, (419, 61, 417, 418), [
  (0, .iload_n 1, 0, 0, 0, 0, 0, []),
  (1, .aload_n 0, 0, 0, 0, 0, 0, []),
  (2, .getfield 9, 2, 6, 0, 319, 0, []),
  (5, .if_icmp .gt 7, 12, 0, 0, 0, 0, []),
  (8, .iconst 1, 0, 0, 0, 0, 1, []),
  (9, .goto 4, 13, 0, 0, 0, 0, []),
  (12, .iconst 0, 0, 0, 0, 0, 0, []),
  (13, .ireturn, 0, 0, 0, 0, 0, [])])
def m_Operator_closes : rv_M := (yX2_closes, cX2_closes, 2, some .boolean, RX2, 0, 0, (463, 61, 461, 462), [
  (0, .iload_n 1, 0, 0, 0, 0, 0, []),
  (1, .aload_n 0, 0, 0, 0, 0, 0, []),
  (2, .getfield 27, 2, 4, 0, 316, 0, []),
  (5, .iadd, 0, 0, 0, 0, 0, []),
  (6, .aload_n 0, 0, 0, 0, 0, 0, []),
  (7, .getfield 9, 2, 6, 0, 319, 0, []),
  (10, .if_icmp .gt 7, 17, 0, 0, 0, 0, []),
  (13, .iconst 1, 0, 0, 0, 0, 1, []),
  (14, .goto 4, 18, 0, 0, 0, 0, []),
  (17, .iconst 0, 0, 0, 0, 0, 0, []),
  (18, .ireturn, 0, 0, 0, 0, 0, [])])
def m_Operator_firstBegin : rv_M := (yX2_firstBegin, cX2_firstBegin, 2, some .int, RX2, 1, 22, (520, 61, 518, 519), [
  (0, .aload_n 0, 0, 0, 0, 0, 0, []),
  (1, .getfield 24, 2, 3, 0, 313, 0, []),
  (4, .iconst 1, 0, 0, 0, 0, 1, []),
  (5, .if_icmp .ge 5, 10, 0, 0, 0, 0, []),
  (8, .iload_n 1, 0, 0, 0, 0, 0, []),
  (9, .ireturn, 0, 0, 0, 0, 0, []),
  (10, .iload_n 1, 0, 0, 0, 0, 0, []),
  (11, .aload_n 0, 0, 0, 0, 0, 0, []),
  (12, .getfield 21, 2, 2, 0, 309, 0, []),
  (15, .isub, 0, 0, 0, 0, 0, []),
  (16, .aload_n 0, 0, 0, 0, 0, 0, []),
  (17, .getfield 24, 2, 3, 0, 313, 0, []),
  (20, .invokestatic 33, 128, 2, 0, 521, 0, []),
  (23, .iconst 1, 0, 0, 0, 0, 1, []),
  (24, .iadd, 0, 0, 0, 0, 0, []),
  (25, .aload_n 0, 0, 0, 0, 0, 0, []),
  (26, .getfield 24, 2, 3, 0, 313, 0, []),
  (29, .imul, 0, 0, 0, 0, 0, []),
  (30, .ireturn, 0, 0, 0, 0, 0, [])])
def m_Ring_init : rv_M := (yX3_init, cX3_init, 3, none, RX3, 1, 21, (207, 57, 206, 0), [
  (0, .aload_n 0, 0, 0, 0, 0, 0, []),
  (1, .invokespecial 3, 0, 0, 2, 208, 0, []),
  (4, .aload_n 0, 0, 0, 0, 0, 0, []),
  (5, .iconst 0, 0, 0, 0, 0, 0, []),
  (6, .putfield 9, 3, 3, 0, 215, 0, []),
  (9, .aload_n 0, 0, 0, 0, 0, 0, []),
  (10, .iconst 0, 0, 0, 0, 0, 0, []),
  (11, .putfield 15, 3, 4, 0, 216, 0, []),
  (14, .aload_n 0, 0, 0, 0, 0, 0, []),
  (15, .iconst 0, 0, 0, 0, 0, 0, []),
  (16, .putfield 18, 3, 5, 0, 217, 0, []),
  (19, .aload_n 0, 0, 0, 0, 0, 0, []),
  (20, .iconst 1, 0, 0, 0, 0, 1, []),
  (21, .iload_n 1, 0, 0, 0, 0, 0, []),
  (22, .invokestatic 21, 129, 2, 0, 209, 0, []),
  (25, .putfield 27, 3, 0, 0, 212, 0, []),
  (28, .aload_n 0, 0, 0, 0, 0, 0, []),
  (29, .iconst 1, 0, 0, 0, 0, 1, []),
  (30, .iload_n 2, 0, 0, 0, 0, 0, []),
  (31, .invokestatic 21, 129, 2, 0, 209, 0, []),
  (34, .putfield 30, 3, 1, 0, 213, 0, []),
  (37, .aload_n 0, 0, 0, 0, 0, 0, []),
  (38, .aload_n 0, 0, 0, 0, 0, 0, []),
  (39, .getfield 27, 3, 0, 0, 212, 0, []),
  (42, .aload_n 0, 0, 0, 0, 0, 0, []),
  (43, .getfield 30, 3, 1, 0, 213, 0, []),
  (46, .imul, 0, 0, 0, 0, 0, []),
  (47, .newarray .long, 0, 0, 0, 232, 0, []),
  (49, .putfield 33, 3, 2, 0, 214, 0, []),
  (52, .return_, 0, 0, 0, 0, 0, [])])
def m_Ring_open : rv_M := (yX3_open, cX3_open, 1, none, RX3, 1, 20, (439, 57, 437, 438), [
  (0, .aload_n 0, 0, 0, 0, 0, 0, []),
  (1, .getfield 18, 3, 5, 0, 217, 0, []),
  (4, .aload_n 0, 0, 0, 0, 0, 0, []),
  (5, .getfield 27, 3, 0, 0, 212, 0, []),
  (8, .if_icmp .lt 7, 15, 0, 0, 0, 0, []),
  (11, .aload_n 0, 0, 0, 0, 0, 0, []),
  (12, .invokevirtual 37, 20, 0, 3, 440, 0, []),
  (15, .aload_n 0, 0, 0, 0, 0, 0, []),
  (16, .aload_n 0, 0, 0, 0, 0, 0, []),
  (17, .getfield 9, 3, 3, 0, 215, 0, []),
  (20, .aload_n 0, 0, 0, 0, 0, 0, []),
  (21, .getfield 18, 3, 5, 0, 217, 0, []),
  (24, .iadd, 0, 0, 0, 0, 0, []),
  (25, .aload_n 0, 0, 0, 0, 0, 0, []),
  (26, .getfield 27, 3, 0, 0, 212, 0, []),
  (29, .if_icmp .ge 15, 44, 0, 0, 0, 0, []),
  (32, .aload_n 0, 0, 0, 0, 0, 0, []),
  (33, .getfield 9, 3, 3, 0, 215, 0, []),
  (36, .aload_n 0, 0, 0, 0, 0, 0, []),
  (37, .getfield 18, 3, 5, 0, 217, 0, []),
  (40, .iadd, 0, 0, 0, 0, 0, []),
  (41, .goto 17, 58, 0, 0, 0, 0, []),
  (44, .aload_n 0, 0, 0, 0, 0, 0, []),
  (45, .getfield 9, 3, 3, 0, 215, 0, []),
  (48, .aload_n 0, 0, 0, 0, 0, 0, []),
  (49, .getfield 18, 3, 5, 0, 217, 0, []),
  (52, .iadd, 0, 0, 0, 0, 0, []),
  (53, .aload_n 0, 0, 0, 0, 0, 0, []),
  (54, .getfield 27, 3, 0, 0, 212, 0, []),
  (57, .isub, 0, 0, 0, 0, 0, []),
  (58, .putfield 15, 3, 4, 0, 216, 0, []),
  (61, .aload_n 0, 0, 0, 0, 0, 0, []),
  (62, .dup, 0, 0, 0, 0, 0, []),
  (63, .getfield 18, 3, 5, 0, 217, 0, []),
  (66, .iconst 1, 0, 0, 0, 0, 1, []),
  (67, .iadd, 0, 0, 0, 0, 0, []),
  (68, .putfield 18, 3, 5, 0, 217, 0, []),
  (71, .return_, 0, 0, 0, 0, 0, [])])
def m_Ring_set : rv_M := (yX3_set, cX3_set, 4, none, RX3, 0, 0, (447, 57, 445, 446), [
  (0, .iload_n 1, 0, 0, 0, 0, 0, []),
  (1, .ifCond .lt 28, 29, 0, 0, 0, 0, []),
  (4, .iload_n 1, 0, 0, 0, 0, 0, []),
  (5, .aload_n 0, 0, 0, 0, 0, 0, []),
  (6, .getfield 30, 3, 1, 0, 213, 0, []),
  (9, .if_icmp .ge 20, 29, 0, 0, 0, 0, []),
  (12, .aload_n 0, 0, 0, 0, 0, 0, []),
  (13, .getfield 33, 3, 2, 0, 214, 0, []),
  (16, .aload_n 0, 0, 0, 0, 0, 0, []),
  (17, .getfield 15, 3, 4, 0, 216, 0, []),
  (20, .aload_n 0, 0, 0, 0, 0, 0, []),
  (21, .getfield 30, 3, 1, 0, 213, 0, []),
  (24, .imul, 0, 0, 0, 0, 0, []),
  (25, .iload_n 1, 0, 0, 0, 0, 0, []),
  (26, .iadd, 0, 0, 0, 0, 0, []),
  (27, .lload_n 2, 0, 0, 0, 0, 0, []),
  (28, .lastore, 0, 0, 0, 0, 0, []),
  (29, .return_, 0, 0, 0, 0, 0, [])])
def m_Ring_get : rv_M := (yX3_get, cX3_get, 4, some .long, RX3, 0, 0, (636, 57, 634, 635), [
  (0, .iload_n 1, 0, 0, 0, 0, 0, []),
  (1, .ifCond .lt 23, 24, 0, 0, 0, 0, []),
  (4, .iload_n 1, 0, 0, 0, 0, 0, []),
  (5, .aload_n 0, 0, 0, 0, 0, 0, []),
  (6, .getfield 18, 3, 5, 0, 217, 0, []),
  (9, .if_icmp .ge 15, 24, 0, 0, 0, 0, []),
  (12, .iload_n 2, 0, 0, 0, 0, 0, []),
  (13, .ifCond .lt 11, 24, 0, 0, 0, 0, []),
  (16, .iload_n 2, 0, 0, 0, 0, 0, []),
  (17, .aload_n 0, 0, 0, 0, 0, 0, []),
  (18, .getfield 30, 3, 1, 0, 213, 0, []),
  (21, .if_icmp .lt 7, 28, 0, 0, 0, 0, []),
  (24, .ldc2_w 40, 0, 0, 0, 637, 0, []),
  (27, .lreturn, 0, 0, 0, 0, 0, []),
  (28, .aload_n 0, 0, 0, 0, 0, 0, []),
  (29, .getfield 9, 3, 3, 0, 215, 0, []),
  (32, .iload_n 1, 0, 0, 0, 0, 0, []),
  (33, .iadd, 0, 0, 0, 0, 0, []),
  (34, .aload_n 0, 0, 0, 0, 0, 0, []),
  (35, .getfield 27, 3, 0, 0, 212, 0, []),
  (38, .if_icmp .ge 12, 50, 0, 0, 0, 0, []),
  (41, .aload_n 0, 0, 0, 0, 0, 0, []),
  (42, .getfield 9, 3, 3, 0, 215, 0, []),
  (45, .iload_n 1, 0, 0, 0, 0, 0, []),
  (46, .iadd, 0, 0, 0, 0, 0, []),
  (47, .goto 14, 61, 0, 0, 0, 0, []),
  (50, .aload_n 0, 0, 0, 0, 0, 0, []),
  (51, .getfield 9, 3, 3, 0, 215, 0, []),
  (54, .iload_n 1, 0, 0, 0, 0, 0, []),
  (55, .iadd, 0, 0, 0, 0, 0, []),
  (56, .aload_n 0, 0, 0, 0, 0, 0, []),
  (57, .getfield 27, 3, 0, 0, 212, 0, []),
  (60, .isub, 0, 0, 0, 0, 0, []),
  (61, .istore_n 3, 0, 0, 0, 0, 0, []),
  (62, .aload_n 0, 0, 0, 0, 0, 0, []),
  (63, .getfield 33, 3, 2, 0, 214, 0, []),
  (66, .iload_n 3, 0, 0, 0, 0, 0, []),
  (67, .aload_n 0, 0, 0, 0, 0, 0, []),
  (68, .getfield 30, 3, 1, 0, 213, 0, []),
  (71, .imul, 0, 0, 0, 0, 0, []),
  (72, .iload_n 2, 0, 0, 0, 0, 0, []),
  (73, .iadd, 0, 0, 0, 0, 0, []),
  (74, .laload, 0, 0, 0, 0, 0, []),
  (75, .lreturn, 0, 0, 0, 0, 0, [])])
def m_Ring_dropEldest : rv_M := (yX3_dropEldest, cX3_dropEldest, 1, none, RX3, 0, 0, (443, 57, 441, 442), [
  (0, .aload_n 0, 0, 0, 0, 0, 0, []),
  (1, .getfield 18, 3, 5, 0, 217, 0, []),
  (4, .ifCond .le 40, 44, 0, 0, 0, 0, []),
  (7, .aload_n 0, 0, 0, 0, 0, 0, []),
  (8, .aload_n 0, 0, 0, 0, 0, 0, []),
  (9, .getfield 9, 3, 3, 0, 215, 0, []),
  (12, .iconst 1, 0, 0, 0, 0, 1, []),
  (13, .iadd, 0, 0, 0, 0, 0, []),
  (14, .aload_n 0, 0, 0, 0, 0, 0, []),
  (15, .getfield 27, 3, 0, 0, 212, 0, []),
  (18, .if_icmp .ge 12, 30, 0, 0, 0, 0, []),
  (21, .aload_n 0, 0, 0, 0, 0, 0, []),
  (22, .getfield 9, 3, 3, 0, 215, 0, []),
  (25, .iconst 1, 0, 0, 0, 0, 1, []),
  (26, .iadd, 0, 0, 0, 0, 0, []),
  (27, .goto 4, 31, 0, 0, 0, 0, []),
  (30, .iconst 0, 0, 0, 0, 0, 0, []),
  (31, .putfield 9, 3, 3, 0, 215, 0, []),
  (34, .aload_n 0, 0, 0, 0, 0, 0, []),
  (35, .dup, 0, 0, 0, 0, 0, []),
  (36, .getfield 18, 3, 5, 0, 217, 0, []),
  (39, .iconst 1, 0, 0, 0, 0, 1, []),
  (40, .isub, 0, 0, 0, 0, 0, []),
  (41, .putfield 18, 3, 5, 0, 217, 0, []),
  (44, .return_, 0, 0, 0, 0, 0, [])])
def m_Ring_clear : rv_M := (yX3_clear, cX3_clear, 1, none, RX3, 0, 0, (649, 57, 647, 648), [
  (0, .aload_n 0, 0, 0, 0, 0, 0, []),
  (1, .iconst 0, 0, 0, 0, 0, 0, []),
  (2, .putfield 18, 3, 5, 0, 217, 0, []),
  (5, .return_, 0, 0, 0, 0, 0, [])])
def m_Row_init : rv_M := (yX4_init, cX4_init, 6, none, RX4, 1, 20, (543, 63, 542, 0), [
  (0, .aload_n 0, 0, 0, 0, 0, 0, []),
  (1, .invokespecial 1, 0, 0, 2, 544, 0, []),
  (4, .aload_n 0, 0, 0, 0, 0, 0, []),
  (5, .aload_n 1, 0, 0, 0, 0, 0, []),
  (6, .putfield 7, 4, 0, 0, 545, 0, []),
  (9, .aload_n 0, 0, 0, 0, 0, 0, []),
  (10, .iload_n 2, 0, 0, 0, 0, 0, []),
  (11, .putfield 13, 4, 1, 0, 547, 0, []),
  (14, .aload_n 0, 0, 0, 0, 0, 0, []),
  (15, .iload_n 3, 0, 0, 0, 0, 0, []),
  (16, .putfield 17, 4, 2, 0, 549, 0, []),
  (19, .aload_n 0, 0, 0, 0, 0, 0, []),
  (20, .iload 4, 0, 0, 0, 0, 0, []),
  (22, .putfield 20, 4, 3, 0, 551, 0, []),
  (25, .aload_n 0, 0, 0, 0, 0, 0, []),
  (26, .iload 5, 0, 0, 0, 0, 0, []),
  (28, .putfield 23, 4, 4, 0, 553, 0, []),
  (31, .return_, 0, 0, 0, 0, 0, [])])
def m_Row_standsAfter : rv_M := (yX4_standsAfter, cX4_standsAfter, 3, some .boolean, RX4, 0, 0, (539, 63, 537, 538), [
  (0, .aload_n 0, 0, 0, 0, 0, 0, []),
  (1, .getfield 13, 4, 1, 0, 547, 0, []),
  (4, .iload_n 1, 0, 0, 0, 0, 0, []),
  (5, .if_icmp .eq 19, 24, 0, 0, 0, 0, []),
  (8, .aload_n 0, 0, 0, 0, 0, 0, []),
  (9, .getfield 13, 4, 1, 0, 547, 0, []),
  (12, .iload_n 1, 0, 0, 0, 0, 0, []),
  (13, .if_icmp .le 7, 20, 0, 0, 0, 0, []),
  (16, .iconst 1, 0, 0, 0, 0, 1, []),
  (17, .goto 20, 37, 0, 0, 0, 0, []),
  (20, .iconst 0, 0, 0, 0, 0, 0, []),
  (21, .goto 16, 37, 0, 0, 0, 0, []),
  (24, .aload_n 0, 0, 0, 0, 0, 0, []),
  (25, .getfield 17, 4, 2, 0, 549, 0, []),
  (28, .iload_n 2, 0, 0, 0, 0, 0, []),
  (29, .if_icmp .le 7, 36, 0, 0, 0, 0, []),
  (32, .iconst 1, 0, 0, 0, 0, 1, []),
  (33, .goto 4, 37, 0, 0, 0, 0, []),
  (36, .iconst 0, 0, 0, 0, 0, 0, []),
  (37, .ireturn, 0, 0, 0, 0, 0, [])])
def m_RowLog_init : rv_M := (yX5_init, cX5_init, 1, none, RX5, 1, 20, (80, 52, 79, 0), [
  (0, .aload_n 0, 0, 0, 0, 0, 0, []),
  (1, .invokespecial 3, 0, 0, 2, 81, 0, []),
  (4, .aload_n 0, 0, 0, 0, 0, 0, []),
  (5, .sipush 300, 0, 0, 0, 0, 300, []),
  (8, .anewarray 9, 4, 83, 0, 82, 0, []),
  (11, .putfield 11, 5, 0, 0, 84, 0, []),
  (14, .aload_n 0, 0, 0, 0, 0, 0, []),
  (15, .iconst 0, 0, 0, 0, 0, 0, []),
  (16, .putfield 17, 5, 1, 0, 85, 0, []),
  (19, .return_, 0, 0, 0, 0, 0, [])])
def m_RowLog_add : rv_M := (yX5_add, cX5_add, 7, none, RX5, 2, 45, (535, 52, 533, 534), [
  (0, .aload_n 0, 0, 0, 0, 0, 0, []),
  (1, .getfield 17, 5, 1, 0, 85, 0, []),
  (4, .aload_n 0, 0, 0, 0, 0, 0, []),
  (5, .getfield 11, 5, 0, 0, 84, 0, []),
  (8, .arraylength, 0, 0, 0, 0, 0, []),
  (9, .if_icmp .lt 4, 13, 0, 0, 0, 0, []),
  (12, .return_, 0, 0, 0, 0, 0, []),
  (13, .aload_n 0, 0, 0, 0, 0, 0, []),
  (14, .getfield 17, 5, 1, 0, 85, 0, []),
  (17, .istore 6, 0, 0, 0, 0, 0, []),
  (19, .iload 6, 0, 0, 0, 0, 0, []),
  (21, .ifCond .le 42, 63, 0, 0, 0, 0, []),
  (24, .aload_n 0, 0, 0, 0, 0, 0, []),
  (25, .getfield 11, 5, 0, 0, 84, 0, []),
  (28, .iload 6, 0, 0, 0, 0, 0, []),
  (30, .iconst 1, 0, 0, 0, 0, 1, []),
  (31, .isub, 0, 0, 0, 0, 0, []),
  (32, .aaload, 0, 0, 0, 0, 0, []),
  (33, .iload_n 2, 0, 0, 0, 0, 0, []),
  (34, .iload_n 3, 0, 0, 0, 0, 0, []),
  (35, .invokevirtual 21, 23, 2, 4, 536, 0, []),
  (38, .ifCond .eq 25, 63, 0, 0, 0, 0, []),
  (41, .aload_n 0, 0, 0, 0, 0, 0, []),
  (42, .getfield 11, 5, 0, 0, 84, 0, []),
  (45, .iload 6, 0, 0, 0, 0, 0, []),
  (47, .aload_n 0, 0, 0, 0, 0, 0, []),
  (48, .getfield 11, 5, 0, 0, 84, 0, []),
  (51, .iload 6, 0, 0, 0, 0, 0, []),
  (53, .iconst 1, 0, 0, 0, 0, 1, []),
  (54, .isub, 0, 0, 0, 0, 0, []),
  (55, .aaload, 0, 0, 0, 0, 0, []),
  (56, .aastore, 0, 0, 0, 0, 0, []),
  (57, .iinc 6 (-1), 0, 0, 0, 0, (-1), []),
  (60, .goto (-41), 19, 0, 0, 0, 0, []),
  (63, .aload_n 0, 0, 0, 0, 0, 0, []),
  (64, .getfield 11, 5, 0, 0, 84, 0, []),
  (67, .iload 6, 0, 0, 0, 0, 0, []),
  (69, .new 9, 4, 0, 0, 82, 0, []),
  (72, .dup, 0, 0, 0, 0, 0, []),
  (73, .aload_n 1, 0, 0, 0, 0, 0, []),
  (74, .iload_n 2, 0, 0, 0, 0, 0, []),
  (75, .iload_n 3, 0, 0, 0, 0, 0, []),
  (76, .iload 4, 0, 0, 0, 0, 0, []),
  (78, .iload 5, 0, 0, 0, 0, 0, []),
  (80, .invokespecial 25, 22, 5, 0, 541, 0, []),
  (83, .aastore, 0, 0, 0, 0, 0, []),
  (84, .aload_n 0, 0, 0, 0, 0, 0, []),
  (85, .dup, 0, 0, 0, 0, 0, []),
  (86, .getfield 17, 5, 1, 0, 85, 0, []),
  (89, .iconst 1, 0, 0, 0, 0, 1, []),
  (90, .iadd, 0, 0, 0, 0, 0, []),
  (91, .putfield 17, 5, 1, 0, 85, 0, []),
  (94, .return_, 0, 0, 0, 0, 0, [])])
def m_RowLog_inOrder : rv_M := (yX5_inOrder, cX5_inOrder, 2, some (.object "LateRows$Row"), RX5, 0, 0, (684, 52, 682, 683), [
  (0, .iload_n 1, 0, 0, 0, 0, 0, []),
  (1, .ifCond .lt 20, 21, 0, 0, 0, 0, []),
  (4, .iload_n 1, 0, 0, 0, 0, 0, []),
  (5, .aload_n 0, 0, 0, 0, 0, 0, []),
  (6, .getfield 17, 5, 1, 0, 85, 0, []),
  (9, .if_icmp .ge 12, 21, 0, 0, 0, 0, []),
  (12, .aload_n 0, 0, 0, 0, 0, 0, []),
  (13, .getfield 11, 5, 0, 0, 84, 0, []),
  (16, .iload_n 1, 0, 0, 0, 0, 0, []),
  (17, .aaload, 0, 0, 0, 0, 0, []),
  (18, .goto 4, 22, 0, 0, 0, 0, []),
  (21, .aconst_null, 0, 0, 0, 0, 0, []),
  (22, .areturn, 0, 0, 0, 0, 0, [])])
def m_Source_init : rv_M := (yX6_init, cX6_init, 3, none, RX6, 1, 20, (348, 62, 347, 0), [
  (0, .aload_n 0, 0, 0, 0, 0, 0, []),
  (1, .invokespecial 3, 0, 0, 2, 349, 0, []),
  (4, .aload_n 0, 0, 0, 0, 0, 0, []),
  (5, .iconst 0, 0, 0, 0, 0, 0, []),
  (6, .putfield 9, 6, 2, 0, 355, 0, []),
  (9, .aload_n 0, 0, 0, 0, 0, 0, []),
  (10, .iconst 0, 0, 0, 0, 0, 0, []),
  (11, .putfield 15, 6, 3, 0, 357, 0, []),
  (14, .aload_n 0, 0, 0, 0, 0, 0, []),
  (15, .iconst 0, 0, 0, 0, 0, 0, []),
  (16, .putfield 19, 6, 4, 0, 359, 0, []),
  (19, .aload_n 0, 0, 0, 0, 0, 0, []),
  (20, .iconst 0, 0, 0, 0, 0, 0, []),
  (21, .putfield 22, 6, 5, 0, 361, 0, []),
  (24, .aload_n 0, 0, 0, 0, 0, 0, []),
  (25, .iconst 0, 0, 0, 0, 0, 0, []),
  (26, .putfield 25, 6, 6, 0, 363, 0, []),
  (29, .aload_n 0, 0, 0, 0, 0, 0, []),
  (30, .iconst 0, 0, 0, 0, 0, 0, []),
  (31, .putfield 28, 6, 7, 0, 365, 0, []),
  (34, .aload_n 0, 0, 0, 0, 0, 0, []),
  (35, .ldc 31, 0, 0, 0, 350, (-99999999), []),
  (37, .putfield 32, 6, 8, 0, 367, 0, []),
  (40, .aload_n 0, 0, 0, 0, 0, 0, []),
  (41, .iload_n 1, 0, 0, 0, 0, 0, []),
  (42, .putfield 35, 6, 0, 0, 351, 0, []),
  (45, .aload_n 0, 0, 0, 0, 0, 0, []),
  (46, .aload_n 2, 0, 0, 0, 0, 0, []),
  (47, .putfield 38, 6, 1, 0, 353, 0, []),
  (50, .return_, 0, 0, 0, 0, 0, [])])
def m_Source_noteRow : rv_M := (yX6_noteRow, cX6_noteRow, 3, none, RX6, 0, 0, (531, 62, 529, 530), [
  (0, .iload_n 2, 0, 0, 0, 0, 0, []),
  (1, .ifCond .eq 16, 17, 0, 0, 0, 0, []),
  (4, .aload_n 0, 0, 0, 0, 0, 0, []),
  (5, .dup, 0, 0, 0, 0, 0, []),
  (6, .getfield 22, 6, 5, 0, 361, 0, []),
  (9, .iconst 1, 0, 0, 0, 0, 1, []),
  (10, .iadd, 0, 0, 0, 0, 0, []),
  (11, .putfield 22, 6, 5, 0, 361, 0, []),
  (14, .goto 13, 27, 0, 0, 0, 0, []),
  (17, .aload_n 0, 0, 0, 0, 0, 0, []),
  (18, .dup, 0, 0, 0, 0, 0, []),
  (19, .getfield 25, 6, 6, 0, 363, 0, []),
  (22, .iconst 1, 0, 0, 0, 0, 1, []),
  (23, .iadd, 0, 0, 0, 0, 0, []),
  (24, .putfield 25, 6, 6, 0, 363, 0, []),
  (27, .iload_n 1, 0, 0, 0, 0, 0, []),
  (28, .aload_n 0, 0, 0, 0, 0, 0, []),
  (29, .getfield 9, 6, 2, 0, 355, 0, []),
  (32, .if_icmp .ge 25, 57, 0, 0, 0, 0, []),
  (35, .aload_n 0, 0, 0, 0, 0, 0, []),
  (36, .getfield 28, 6, 7, 0, 365, 0, []),
  (39, .ifCond .ne 8, 47, 0, 0, 0, 0, []),
  (42, .aload_n 0, 0, 0, 0, 0, 0, []),
  (43, .iload_n 1, 0, 0, 0, 0, 0, []),
  (44, .putfield 32, 6, 8, 0, 367, 0, []),
  (47, .aload_n 0, 0, 0, 0, 0, 0, []),
  (48, .dup, 0, 0, 0, 0, 0, []),
  (49, .getfield 28, 6, 7, 0, 365, 0, []),
  (52, .iconst 1, 0, 0, 0, 0, 1, []),
  (53, .iadd, 0, 0, 0, 0, 0, []),
  (54, .putfield 28, 6, 7, 0, 365, 0, []),
  (57, .return_, 0, 0, 0, 0, 0, [])])
def m_Tally_init : rv_M := (yX7_init, cX7_init, 1, none, RX7, 1, 20, (109, 55, 108, 0), [
  (0, .aload_n 0, 0, 0, 0, 0, 0, []),
  (1, .invokespecial 1, 0, 0, 2, 110, 0, []),
  (4, .aload_n 0, 0, 0, 0, 0, 0, []),
  (5, .iconst 0, 0, 0, 0, 0, 0, []),
  (6, .putfield 7, 7, 0, 0, 111, 0, []),
  (9, .aload_n 0, 0, 0, 0, 0, 0, []),
  (10, .lconst 0, 0, 0, 0, 0, 0, []),
  (11, .putfield 13, 7, 1, 0, 113, 0, []),
  (14, .aload_n 0, 0, 0, 0, 0, 0, []),
  (15, .iconst 0, 0, 0, 0, 0, 0, []),
  (16, .putfield 17, 7, 2, 0, 115, 0, []),
  (19, .aload_n 0, 0, 0, 0, 0, 0, []),
  (20, .iconst 0, 0, 0, 0, 0, 0, []),
  (21, .putfield 20, 7, 3, 0, 117, 0, []),
  (24, .return_, 0, 0, 0, 0, 0, [])])
def m_Tally_clear : rv_M := (yX7_clear, cX7_clear, 1, none, RX7, 0, 0, (602, 55, 600, 601), [
  (0, .aload_n 0, 0, 0, 0, 0, 0, []),
  (1, .iconst 0, 0, 0, 0, 0, 0, []),
  (2, .putfield 7, 7, 0, 0, 111, 0, []),
  (5, .aload_n 0, 0, 0, 0, 0, 0, []),
  (6, .lconst 0, 0, 0, 0, 0, 0, []),
  (7, .putfield 13, 7, 1, 0, 113, 0, []),
  (10, .aload_n 0, 0, 0, 0, 0, 0, []),
  (11, .iconst 0, 0, 0, 0, 0, 0, []),
  (12, .putfield 17, 7, 2, 0, 115, 0, []),
  (15, .aload_n 0, 0, 0, 0, 0, 0, []),
  (16, .iconst 0, 0, 0, 0, 0, 0, []),
  (17, .putfield 20, 7, 3, 0, 117, 0, []),
  (20, .return_, 0, 0, 0, 0, 0, [])])
def m_Tally_copy : rv_M := (yX7_copy, cX7_copy, 2, none, RX7, 0, 0, (451, 55, 449, 450), [
  (0, .aload_n 0, 0, 0, 0, 0, 0, []),
  (1, .aload_n 1, 0, 0, 0, 0, 0, []),
  (2, .getfield 7, 7, 0, 0, 111, 0, []),
  (5, .putfield 7, 7, 0, 0, 111, 0, []),
  (8, .aload_n 0, 0, 0, 0, 0, 0, []),
  (9, .aload_n 1, 0, 0, 0, 0, 0, []),
  (10, .getfield 13, 7, 1, 0, 113, 0, []),
  (13, .putfield 13, 7, 1, 0, 113, 0, []),
  (16, .aload_n 0, 0, 0, 0, 0, 0, []),
  (17, .aload_n 1, 0, 0, 0, 0, 0, []),
  (18, .getfield 17, 7, 2, 0, 115, 0, []),
  (21, .putfield 17, 7, 2, 0, 115, 0, []),
  (24, .aload_n 0, 0, 0, 0, 0, 0, []),
  (25, .aload_n 1, 0, 0, 0, 0, 0, []),
  (26, .getfield 20, 7, 3, 0, 117, 0, []),
  (29, .putfield 20, 7, 3, 0, 117, 0, []),
  (32, .return_, 0, 0, 0, 0, 0, [])])
def m_Tally_add : rv_M := (yX7_add, cX7_add, 2, none, RX7, 1, 21, (610, 55, 608, 609), [
  (0, .aload_n 0, 0, 0, 0, 0, 0, []),
  (1, .aload_n 0, 0, 0, 0, 0, 0, []),
  (2, .getfield 7, 7, 0, 0, 111, 0, []),
  (5, .ifCond .ne 7, 12, 0, 0, 0, 0, []),
  (8, .iload_n 1, 0, 0, 0, 0, 0, []),
  (9, .goto 11, 20, 0, 0, 0, 0, []),
  (12, .aload_n 0, 0, 0, 0, 0, 0, []),
  (13, .getfield 17, 7, 2, 0, 115, 0, []),
  (16, .iload_n 1, 0, 0, 0, 0, 0, []),
  (17, .invokestatic 23, 131, 2, 0, 611, 0, []),
  (20, .putfield 17, 7, 2, 0, 115, 0, []),
  (23, .aload_n 0, 0, 0, 0, 0, 0, []),
  (24, .aload_n 0, 0, 0, 0, 0, 0, []),
  (25, .getfield 7, 7, 0, 0, 111, 0, []),
  (28, .ifCond .ne 7, 35, 0, 0, 0, 0, []),
  (31, .iload_n 1, 0, 0, 0, 0, 0, []),
  (32, .goto 11, 43, 0, 0, 0, 0, []),
  (35, .aload_n 0, 0, 0, 0, 0, 0, []),
  (36, .getfield 20, 7, 3, 0, 117, 0, []),
  (39, .iload_n 1, 0, 0, 0, 0, 0, []),
  (40, .invokestatic 29, 129, 2, 0, 612, 0, []),
  (43, .putfield 20, 7, 3, 0, 117, 0, []),
  (46, .aload_n 0, 0, 0, 0, 0, 0, []),
  (47, .dup, 0, 0, 0, 0, 0, []),
  (48, .getfield 13, 7, 1, 0, 113, 0, []),
  (51, .iload_n 1, 0, 0, 0, 0, 0, []),
  (52, .i2l, 0, 0, 0, 0, 0, []),
  (53, .ladd, 0, 0, 0, 0, 0, []),
  (54, .putfield 13, 7, 1, 0, 113, 0, []),
  (57, .aload_n 0, 0, 0, 0, 0, 0, []),
  (58, .dup, 0, 0, 0, 0, 0, []),
  (59, .getfield 7, 7, 0, 0, 111, 0, []),
  (62, .iconst 1, 0, 0, 0, 0, 1, []),
  (63, .iadd, 0, 0, 0, 0, 0, []),
  (64, .putfield 7, 7, 0, 0, 111, 0, []),
  (67, .return_, 0, 0, 0, 0, 0, [])])
def m_Tally_addAll : rv_M := (yX7_addAll, cX7_addAll, 2, none, RX7, 1, 21, (624, 55, 622, 623), [
  (0, .aload_n 0, 0, 0, 0, 0, 0, []),
  (1, .aload_n 0, 0, 0, 0, 0, 0, []),
  (2, .getfield 17, 7, 2, 0, 115, 0, []),
  (5, .aload_n 1, 0, 0, 0, 0, 0, []),
  (6, .getfield 17, 7, 2, 0, 115, 0, []),
  (9, .invokestatic 23, 131, 2, 0, 611, 0, []),
  (12, .putfield 17, 7, 2, 0, 115, 0, []),
  (15, .aload_n 0, 0, 0, 0, 0, 0, []),
  (16, .aload_n 0, 0, 0, 0, 0, 0, []),
  (17, .getfield 20, 7, 3, 0, 117, 0, []),
  (20, .aload_n 1, 0, 0, 0, 0, 0, []),
  (21, .getfield 20, 7, 3, 0, 117, 0, []),
  (24, .invokestatic 29, 129, 2, 0, 612, 0, []),
  (27, .putfield 20, 7, 3, 0, 117, 0, []),
  (30, .aload_n 0, 0, 0, 0, 0, 0, []),
  (31, .dup, 0, 0, 0, 0, 0, []),
  (32, .getfield 13, 7, 1, 0, 113, 0, []),
  (35, .aload_n 1, 0, 0, 0, 0, 0, []),
  (36, .getfield 13, 7, 1, 0, 113, 0, []),
  (39, .ladd, 0, 0, 0, 0, 0, []),
  (40, .putfield 13, 7, 1, 0, 113, 0, []),
  (43, .aload_n 0, 0, 0, 0, 0, 0, []),
  (44, .dup, 0, 0, 0, 0, 0, []),
  (45, .getfield 7, 7, 0, 0, 111, 0, []),
  (48, .aload_n 1, 0, 0, 0, 0, 0, []),
  (49, .getfield 7, 7, 0, 0, 111, 0, []),
  (52, .iadd, 0, 0, 0, 0, 0, []),
  (53, .putfield 7, 7, 0, 0, 111, 0, []),
  (56, .return_, 0, 0, 0, 0, 0, [])])
def m_Window_init : rv_M := (yX8_init, cX8_init, 1, none, RX8, 2, 40, (103, 54, 102, 0), [
  (0, .aload_n 0, 0, 0, 0, 0, 0, []),
  (1, .invokespecial 1, 0, 0, 2, 104, 0, []),
  (4, .aload_n 0, 0, 0, 0, 0, 0, []),
  (5, .iconst 0, 0, 0, 0, 0, 0, []),
  (6, .putfield 7, 8, 0, 0, 128, 0, []),
  (9, .aload_n 0, 0, 0, 0, 0, 0, []),
  (10, .iconst 0, 0, 0, 0, 0, 0, []),
  (11, .putfield 13, 8, 1, 0, 131, 0, []),
  (14, .aload_n 0, 0, 0, 0, 0, 0, []),
  (15, .iconst 0, 0, 0, 0, 0, 0, []),
  (16, .putfield 16, 8, 2, 0, 133, 0, []),
  (19, .aload_n 0, 0, 0, 0, 0, 0, []),
  (20, .iconst 0, 0, 0, 0, 0, 0, []),
  (21, .putfield 19, 8, 3, 0, 137, 0, []),
  (24, .aload_n 0, 0, 0, 0, 0, 0, []),
  (25, .iconst 0, 0, 0, 0, 0, 0, []),
  (26, .putfield 22, 8, 4, 0, 141, 0, []),
  (29, .aload_n 0, 0, 0, 0, 0, 0, []),
  (30, .iconst 0, 0, 0, 0, 0, 0, []),
  (31, .putfield 26, 8, 5, 0, 145, 0, []),
  (34, .aload_n 0, 0, 0, 0, 0, 0, []),
  (35, .new 29, 7, 0, 0, 105, 0, []),
  (38, .dup, 0, 0, 0, 0, 0, []),
  (39, .invokespecial 31, 29, 0, 1, 107, 0, []),
  (42, .putfield 32, 8, 6, 0, 147, 0, []),
  (45, .aload_n 0, 0, 0, 0, 0, 0, []),
  (46, .new 29, 7, 0, 0, 105, 0, []),
  (49, .dup, 0, 0, 0, 0, 0, []),
  (50, .invokespecial 31, 29, 0, 1, 107, 0, []),
  (53, .putfield 36, 8, 7, 0, 149, 0, []),
  (56, .return_, 0, 0, 0, 0, 0, [])])
def m_Window_start : rv_M := (yX8_start, cX8_start, 5, none, RX8, 1, 20, (598, 54, 596, 597), [
  (0, .aload_n 0, 0, 0, 0, 0, 0, []),
  (1, .iload_n 1, 0, 0, 0, 0, 0, []),
  (2, .putfield 7, 8, 0, 0, 128, 0, []),
  (5, .aload_n 0, 0, 0, 0, 0, 0, []),
  (6, .iload_n 2, 0, 0, 0, 0, 0, []),
  (7, .putfield 13, 8, 1, 0, 131, 0, []),
  (10, .aload_n 0, 0, 0, 0, 0, 0, []),
  (11, .iload_n 3, 0, 0, 0, 0, 0, []),
  (12, .putfield 16, 8, 2, 0, 133, 0, []),
  (15, .aload_n 0, 0, 0, 0, 0, 0, []),
  (16, .iload 4, 0, 0, 0, 0, 0, []),
  (18, .putfield 19, 8, 3, 0, 137, 0, []),
  (21, .aload_n 0, 0, 0, 0, 0, 0, []),
  (22, .iconst 0, 0, 0, 0, 0, 0, []),
  (23, .putfield 22, 8, 4, 0, 141, 0, []),
  (26, .aload_n 0, 0, 0, 0, 0, 0, []),
  (27, .iconst 0, 0, 0, 0, 0, 0, []),
  (28, .putfield 26, 8, 5, 0, 145, 0, []),
  (31, .aload_n 0, 0, 0, 0, 0, 0, []),
  (32, .getfield 32, 8, 6, 0, 147, 0, []),
  (35, .invokevirtual 39, 30, 0, 7, 599, 0, []),
  (38, .aload_n 0, 0, 0, 0, 0, 0, []),
  (39, .getfield 36, 8, 7, 0, 149, 0, []),
  (42, .invokevirtual 39, 30, 0, 7, 599, 0, []),
  (45, .return_, 0, 0, 0, 0, 0, [])])
def m_Window_belongsTo : rv_M := (yX8_belongsTo, cX8_belongsTo, 3, some .boolean, RX8, 0, 0, (493, 54, 491, 492), [
  (0, .aload_n 0, 0, 0, 0, 0, 0, []),
  (1, .getfield 7, 8, 0, 0, 128, 0, []),
  (4, .iload_n 1, 0, 0, 0, 0, 0, []),
  (5, .if_icmp .ne 15, 20, 0, 0, 0, 0, []),
  (8, .aload_n 0, 0, 0, 0, 0, 0, []),
  (9, .getfield 13, 8, 1, 0, 131, 0, []),
  (12, .iload_n 2, 0, 0, 0, 0, 0, []),
  (13, .if_icmp .ne 7, 20, 0, 0, 0, 0, []),
  (16, .iconst 1, 0, 0, 0, 0, 1, []),
  (17, .goto 4, 21, 0, 0, 0, 0, []),
  (20, .iconst 0, 0, 0, 0, 0, 0, []),
  (21, .ireturn, 0, 0, 0, 0, 0, [])])
def m_Window_standsBefore : rv_M := (yX8_standsBefore, cX8_standsBefore, 4, some .boolean, RX8, 0, 0, (489, 54, 487, 488), [
  (0, .aload_n 0, 0, 0, 0, 0, 0, []),
  (1, .getfield 7, 8, 0, 0, 128, 0, []),
  (4, .iload_n 1, 0, 0, 0, 0, 0, []),
  (5, .if_icmp .eq 17, 22, 0, 0, 0, 0, []),
  (8, .aload_n 0, 0, 0, 0, 0, 0, []),
  (9, .getfield 7, 8, 0, 0, 128, 0, []),
  (12, .iload_n 1, 0, 0, 0, 0, 0, []),
  (13, .if_icmp .ge 7, 20, 0, 0, 0, 0, []),
  (16, .iconst 1, 0, 0, 0, 0, 1, []),
  (17, .goto 4, 21, 0, 0, 0, 0, []),
  (20, .iconst 0, 0, 0, 0, 0, 0, []),
  (21, .ireturn, 0, 0, 0, 0, 0, []),
  (22, .aload_n 0, 0, 0, 0, 0, 0, []),
  (23, .getfield 13, 8, 1, 0, 131, 0, []),
  (26, .iload_n 2, 0, 0, 0, 0, 0, []),
  (27, .if_icmp .eq 19, 46, 0, 0, 0, 0, []),
  (30, .aload_n 0, 0, 0, 0, 0, 0, []),
  (31, .getfield 13, 8, 1, 0, 131, 0, []),
  (34, .iload_n 2, 0, 0, 0, 0, 0, []),
  (35, .if_icmp .ge 7, 42, 0, 0, 0, 0, []),
  (38, .iconst 1, 0, 0, 0, 0, 1, []),
  (39, .goto 20, 59, 0, 0, 0, 0, []),
  (42, .iconst 0, 0, 0, 0, 0, 0, []),
  (43, .goto 16, 59, 0, 0, 0, 0, []),
  (46, .aload_n 0, 0, 0, 0, 0, 0, []),
  (47, .getfield 16, 8, 2, 0, 133, 0, []),
  (50, .iload_n 3, 0, 0, 0, 0, 0, []),
  (51, .if_icmp .ge 7, 58, 0, 0, 0, 0, []),
  (54, .iconst 1, 0, 0, 0, 0, 1, []),
  (55, .goto 4, 59, 0, 0, 0, 0, []),
  (58, .iconst 0, 0, 0, 0, 0, 0, []),
  (59, .ireturn, 0, 0, 0, 0, 0, [])])
def m_WindowList_init : rv_M := (yX9_init, cX9_init, 2, none, RX9, 3, 60, (96, 53, 95, 0), [
  (0, .aload_n 0, 0, 0, 0, 0, 0, []),
  (1, .invokespecial 3, 0, 0, 2, 97, 0, []),
  (4, .aload_n 0, 0, 0, 0, 0, 0, []),
  (5, .bipush 120, 0, 0, 0, 0, 120, []),
  (7, .anewarray 9, 8, 99, 0, 98, 0, []),
  (10, .putfield 11, 9, 0, 0, 168, 0, []),
  (13, .aload_n 0, 0, 0, 0, 0, 0, []),
  (14, .iconst 0, 0, 0, 0, 0, 0, []),
  (15, .putfield 17, 9, 1, 0, 169, 0, []),
  (18, .iconst 0, 0, 0, 0, 0, 0, []),
  (19, .istore_n 1, 0, 0, 0, 0, 0, []),
  (20, .iload_n 1, 0, 0, 0, 0, 0, []),
  (21, .aload_n 0, 0, 0, 0, 0, 0, []),
  (22, .getfield 11, 9, 0, 0, 168, 0, []),
  (25, .arraylength, 0, 0, 0, 0, 0, []),
  (26, .if_icmp .ge 22, 48, 0, 0, 0, 0, []),
  (29, .aload_n 0, 0, 0, 0, 0, 0, []),
  (30, .getfield 11, 9, 0, 0, 168, 0, []),
  (33, .iload_n 1, 0, 0, 0, 0, 0, []),
  (34, .new 9, 8, 0, 0, 98, 0, []),
  (37, .dup, 0, 0, 0, 0, 0, []),
  (38, .invokespecial 21, 34, 0, 1, 101, 0, []),
  (41, .aastore, 0, 0, 0, 0, 0, []),
  (42, .iinc 1 1, 0, 0, 0, 0, 1, []),
  (45, .goto (-25), 20, 0, 0, 0, 0, []),
  (48, .return_, 0, 0, 0, 0, 0, [])])
def m_WindowList_at : rv_M := (yX9_at, cX9_at, 2, some (.object "LateRows$Window"), RX9, 0, 0, (427, 53, 425, 426), [
  (0, .iload_n 1, 0, 0, 0, 0, 0, []),
  (1, .ifCond .lt 20, 21, 0, 0, 0, 0, []),
  (4, .iload_n 1, 0, 0, 0, 0, 0, []),
  (5, .aload_n 0, 0, 0, 0, 0, 0, []),
  (6, .getfield 17, 9, 1, 0, 169, 0, []),
  (9, .if_icmp .ge 12, 21, 0, 0, 0, 0, []),
  (12, .aload_n 0, 0, 0, 0, 0, 0, []),
  (13, .getfield 11, 9, 0, 0, 168, 0, []),
  (16, .iload_n 1, 0, 0, 0, 0, 0, []),
  (17, .aaload, 0, 0, 0, 0, 0, []),
  (18, .goto 4, 22, 0, 0, 0, 0, []),
  (21, .aconst_null, 0, 0, 0, 0, 0, []),
  (22, .areturn, 0, 0, 0, 0, 0, [])])
def m_WindowList_find : rv_M := (yX9_find, cX9_find, 5, some (.object "LateRows$Window"), RX9, 2, 50, (670, 53, 668, 669), [
  (0, .iload_n 3, 0, 0, 0, 0, 0, []),
  (1, .ifCond .lt 11, 12, 0, 0, 0, 0, []),
  (4, .iload_n 3, 0, 0, 0, 0, 0, []),
  (5, .aload_n 0, 0, 0, 0, 0, 0, []),
  (6, .getfield 17, 9, 1, 0, 169, 0, []),
  (9, .if_icmp .lt 5, 14, 0, 0, 0, 0, []),
  (12, .aconst_null, 0, 0, 0, 0, 0, []),
  (13, .areturn, 0, 0, 0, 0, 0, []),
  (14, .aload_n 0, 0, 0, 0, 0, 0, []),
  (15, .aload_n 0, 0, 0, 0, 0, 0, []),
  (16, .iload_n 1, 0, 0, 0, 0, 0, []),
  (17, .iload_n 2, 0, 0, 0, 0, 0, []),
  (18, .ldc 22, 0, 0, 0, 671, (-1000000), []),
  (20, .invokevirtual 23, 49, 3, 9, 482, 0, []),
  (23, .iload_n 3, 0, 0, 0, 0, 0, []),
  (24, .iadd, 0, 0, 0, 0, 0, []),
  (25, .invokevirtual 27, 39, 1, 9, 468, 0, []),
  (28, .astore 4, 0, 0, 0, 0, 0, []),
  (30, .aload 4, 0, 0, 0, 0, 0, []),
  (32, .ifnull 18, 50, 0, 0, 0, 0, []),
  (35, .aload 4, 0, 0, 0, 0, 0, []),
  (37, .iload_n 1, 0, 0, 0, 0, 0, []),
  (38, .iload_n 2, 0, 0, 0, 0, 0, []),
  (39, .invokevirtual 31, 36, 2, 8, 490, 0, []),
  (42, .ifCond .eq 8, 50, 0, 0, 0, 0, []),
  (45, .aload 4, 0, 0, 0, 0, 0, []),
  (47, .goto 4, 51, 0, 0, 0, 0, []),
  (50, .aconst_null, 0, 0, 0, 0, 0, []),
  (51, .areturn, 0, 0, 0, 0, 0, [])])
def m_WindowList_has : rv_M := (yX9_has, cX9_has, 4, some .boolean, RX9, 2, 50, (578, 53, 576, 577), [
  (0, .aload_n 0, 0, 0, 0, 0, 0, []),
  (1, .aload_n 0, 0, 0, 0, 0, 0, []),
  (2, .iload_n 1, 0, 0, 0, 0, 0, []),
  (3, .iload_n 2, 0, 0, 0, 0, 0, []),
  (4, .iload_n 3, 0, 0, 0, 0, 0, []),
  (5, .invokevirtual 23, 49, 3, 9, 482, 0, []),
  (8, .iload_n 1, 0, 0, 0, 0, 0, []),
  (9, .iload_n 2, 0, 0, 0, 0, 0, []),
  (10, .iload_n 3, 0, 0, 0, 0, 0, []),
  (11, .invokevirtual 35, 48, 4, 9, 579, 0, []),
  (14, .ireturn, 0, 0, 0, 0, 0, [])])
def m_WindowList_findOrOpen : rv_M := (yX9_findOrOpen, cX9_findOrOpen, 6, some (.object "LateRows$Window"), RX9, 3, 71, (590, 53, 588, 589), [
  (0, .aload_n 0, 0, 0, 0, 0, 0, []),
  (1, .iload_n 1, 0, 0, 0, 0, 0, []),
  (2, .iload_n 2, 0, 0, 0, 0, 0, []),
  (3, .iload_n 3, 0, 0, 0, 0, 0, []),
  (4, .invokevirtual 23, 49, 3, 9, 482, 0, []),
  (7, .istore 5, 0, 0, 0, 0, 0, []),
  (9, .aload_n 0, 0, 0, 0, 0, 0, []),
  (10, .iload 5, 0, 0, 0, 0, 0, []),
  (12, .iload_n 1, 0, 0, 0, 0, 0, []),
  (13, .iload_n 2, 0, 0, 0, 0, 0, []),
  (14, .iload_n 3, 0, 0, 0, 0, 0, []),
  (15, .invokevirtual 35, 48, 4, 9, 579, 0, []),
  (18, .ifCond .ne 14, 32, 0, 0, 0, 0, []),
  (21, .aload_n 0, 0, 0, 0, 0, 0, []),
  (22, .iload 5, 0, 0, 0, 0, 0, []),
  (24, .iload_n 1, 0, 0, 0, 0, 0, []),
  (25, .iload_n 2, 0, 0, 0, 0, 0, []),
  (26, .iload_n 3, 0, 0, 0, 0, 0, []),
  (27, .iload 4, 0, 0, 0, 0, 0, []),
  (29, .invokevirtual 39, 50, 5, 9, 591, 0, []),
  (32, .aload_n 0, 0, 0, 0, 0, 0, []),
  (33, .iload 5, 0, 0, 0, 0, 0, []),
  (35, .invokevirtual 27, 39, 1, 9, 468, 0, []),
  (38, .areturn, 0, 0, 0, 0, 0, [])])
def m_WindowList_remove : rv_M := (yX9_remove, cX9_remove, 4, none, RX9, 1, 21, (467, 53, 465, 466), [
  (0, .aload_n 0, 0, 0, 0, 0, 0, []),
  (1, .iload_n 1, 0, 0, 0, 0, 0, []),
  (2, .invokevirtual 27, 39, 1, 9, 468, 0, []),
  (5, .astore_n 2, 0, 0, 0, 0, 0, []),
  (6, .aload_n 2, 0, 0, 0, 0, 0, []),
  (7, .ifnonnull 4, 11, 0, 0, 0, 0, []),
  (10, .return_, 0, 0, 0, 0, 0, []),
  (11, .aload_n 0, 0, 0, 0, 0, 0, []),
  (12, .dup, 0, 0, 0, 0, 0, []),
  (13, .getfield 17, 9, 1, 0, 169, 0, []),
  (16, .iconst 1, 0, 0, 0, 0, 1, []),
  (17, .isub, 0, 0, 0, 0, 0, []),
  (18, .putfield 17, 9, 1, 0, 169, 0, []),
  (21, .iload_n 1, 0, 0, 0, 0, 0, []),
  (22, .istore_n 3, 0, 0, 0, 0, 0, []),
  (23, .iload_n 3, 0, 0, 0, 0, 0, []),
  (24, .aload_n 0, 0, 0, 0, 0, 0, []),
  (25, .getfield 17, 9, 1, 0, 169, 0, []),
  (28, .if_icmp .ge 23, 51, 0, 0, 0, 0, []),
  (31, .aload_n 0, 0, 0, 0, 0, 0, []),
  (32, .getfield 11, 9, 0, 0, 168, 0, []),
  (35, .iload_n 3, 0, 0, 0, 0, 0, []),
  (36, .aload_n 0, 0, 0, 0, 0, 0, []),
  (37, .getfield 11, 9, 0, 0, 168, 0, []),
  (40, .iload_n 3, 0, 0, 0, 0, 0, []),
  (41, .iconst 1, 0, 0, 0, 0, 1, []),
  (42, .iadd, 0, 0, 0, 0, 0, []),
  (43, .aaload, 0, 0, 0, 0, 0, []),
  (44, .aastore, 0, 0, 0, 0, 0, []),
  (45, .iinc 3 1, 0, 0, 0, 0, 1, []),
  (48, .goto (-25), 23, 0, 0, 0, 0, []),
  (51, .aload_n 0, 0, 0, 0, 0, 0, []),
  (52, .getfield 11, 9, 0, 0, 168, 0, []),
  (55, .aload_n 0, 0, 0, 0, 0, 0, []),
  (56, .getfield 17, 9, 1, 0, 169, 0, []),
  (59, .aload_n 2, 0, 0, 0, 0, 0, []),
  (60, .aastore, 0, 0, 0, 0, 0, []),
  (61, .return_, 0, 0, 0, 0, 0, [])])
def m_WindowList_nextDue : rv_M := (yX9_nextDue, cX9_nextDue, 5, some .int, RX9, 1, 22, (415, 53, 413, 414), [
  (0, .iconst (-1), 0, 0, 0, 0, (-1), []),
  (1, .istore_n 2, 0, 0, 0, 0, 0, []),
  (2, .iconst 0, 0, 0, 0, 0, 0, []),
  (3, .istore_n 3, 0, 0, 0, 0, 0, []),
  (4, .iload_n 3, 0, 0, 0, 0, 0, []),
  (5, .aload_n 0, 0, 0, 0, 0, 0, []),
  (6, .getfield 17, 9, 1, 0, 169, 0, []),
  (9, .if_icmp .ge 61, 70, 0, 0, 0, 0, []),
  (12, .aload_n 0, 0, 0, 0, 0, 0, []),
  (13, .getfield 11, 9, 0, 0, 168, 0, []),
  (16, .iload_n 3, 0, 0, 0, 0, 0, []),
  (17, .aaload, 0, 0, 0, 0, 0, []),
  (18, .astore 4, 0, 0, 0, 0, 0, []),
  (20, .aload 4, 0, 0, 0, 0, 0, []),
  (22, .getfield 43, 8, 0, 0, 129, 0, []),
  (25, .aload_n 1, 0, 0, 0, 0, 0, []),
  (26, .getfield 46, 2, 0, 0, 304, 0, []),
  (29, .if_icmp .ne 35, 64, 0, 0, 0, 0, []),
  (32, .aload 4, 0, 0, 0, 0, 0, []),
  (34, .getfield 51, 8, 4, 0, 143, 0, []),
  (37, .ifCond .ne 27, 64, 0, 0, 0, 0, []),
  (40, .aload_n 1, 0, 0, 0, 0, 0, []),
  (41, .aload 4, 0, 0, 0, 0, 0, []),
  (43, .getfield 55, 8, 3, 0, 139, 0, []),
  (46, .invokevirtual 58, 13, 1, 2, 416, 0, []),
  (49, .ifCond .eq 15, 64, 0, 0, 0, 0, []),
  (52, .aload_n 0, 0, 0, 0, 0, 0, []),
  (53, .aload 4, 0, 0, 0, 0, 0, []),
  (55, .iload_n 2, 0, 0, 0, 0, 0, []),
  (56, .invokevirtual 62, 47, 2, 9, 420, 0, []),
  (59, .ifCond .eq 5, 64, 0, 0, 0, 0, []),
  (62, .iload_n 3, 0, 0, 0, 0, 0, []),
  (63, .istore_n 2, 0, 0, 0, 0, 0, []),
  (64, .iinc 3 1, 0, 0, 0, 0, 1, []),
  (67, .goto (-63), 4, 0, 0, 0, 0, []),
  (70, .iload_n 2, 0, 0, 0, 0, 0, []),
  (71, .ireturn, 0, 0, 0, 0, 0, [])])
def m_WindowList_nextClosed : rv_M := (yX9_nextClosed, cX9_nextClosed, 5, some .int, RX9, 1, 22, (459, 53, 457, 458), [
  (0, .iconst (-1), 0, 0, 0, 0, (-1), []),
  (1, .istore_n 2, 0, 0, 0, 0, 0, []),
  (2, .iconst 0, 0, 0, 0, 0, 0, []),
  (3, .istore_n 3, 0, 0, 0, 0, 0, []),
  (4, .iload_n 3, 0, 0, 0, 0, 0, []),
  (5, .aload_n 0, 0, 0, 0, 0, 0, []),
  (6, .getfield 17, 9, 1, 0, 169, 0, []),
  (9, .if_icmp .ge 53, 62, 0, 0, 0, 0, []),
  (12, .aload_n 0, 0, 0, 0, 0, 0, []),
  (13, .getfield 11, 9, 0, 0, 168, 0, []),
  (16, .iload_n 3, 0, 0, 0, 0, 0, []),
  (17, .aaload, 0, 0, 0, 0, 0, []),
  (18, .astore 4, 0, 0, 0, 0, 0, []),
  (20, .aload 4, 0, 0, 0, 0, 0, []),
  (22, .getfield 43, 8, 0, 0, 129, 0, []),
  (25, .aload_n 1, 0, 0, 0, 0, 0, []),
  (26, .getfield 46, 2, 0, 0, 304, 0, []),
  (29, .if_icmp .ne 27, 56, 0, 0, 0, 0, []),
  (32, .aload_n 1, 0, 0, 0, 0, 0, []),
  (33, .aload 4, 0, 0, 0, 0, 0, []),
  (35, .getfield 55, 8, 3, 0, 139, 0, []),
  (38, .invokevirtual 66, 14, 1, 2, 460, 0, []),
  (41, .ifCond .eq 15, 56, 0, 0, 0, 0, []),
  (44, .aload_n 0, 0, 0, 0, 0, 0, []),
  (45, .aload 4, 0, 0, 0, 0, 0, []),
  (47, .iload_n 2, 0, 0, 0, 0, 0, []),
  (48, .invokevirtual 62, 47, 2, 9, 420, 0, []),
  (51, .ifCond .eq 5, 56, 0, 0, 0, 0, []),
  (54, .iload_n 3, 0, 0, 0, 0, 0, []),
  (55, .istore_n 2, 0, 0, 0, 0, 0, []),
  (56, .iinc 3 1, 0, 0, 0, 0, 1, []),
  (59, .goto (-55), 4, 0, 0, 0, 0, []),
  (62, .iload_n 2, 0, 0, 0, 0, 0, []),
  (63, .ireturn, 0, 0, 0, 0, 0, [])])
def m_WindowList_gather : rv_M := (yX9_gather, cX9_gather, 10, none, RX9, 2, 50, (481, 53, 479, 480), [
  (0, .iload 4, 0, 0, 0, 0, 0, []),
  (2, .aload_n 2, 0, 0, 0, 0, 0, []),
  (3, .getfield 69, 2, 2, 0, 311, 0, []),
  (6, .iadd, 0, 0, 0, 0, 0, []),
  (7, .istore 5, 0, 0, 0, 0, 0, []),
  (9, .aload_n 0, 0, 0, 0, 0, 0, []),
  (10, .aload_n 2, 0, 0, 0, 0, 0, []),
  (11, .getfield 46, 2, 0, 0, 304, 0, []),
  (14, .iload_n 3, 0, 0, 0, 0, 0, []),
  (15, .iload 4, 0, 0, 0, 0, 0, []),
  (17, .invokevirtual 23, 49, 3, 9, 482, 0, []),
  (20, .istore 6, 0, 0, 0, 0, 0, []),
  (22, .aload_n 0, 0, 0, 0, 0, 0, []),
  (23, .iload 6, 0, 0, 0, 0, 0, []),
  (25, .iconst 1, 0, 0, 0, 0, 1, []),
  (26, .isub, 0, 0, 0, 0, 0, []),
  (27, .invokevirtual 27, 39, 1, 9, 468, 0, []),
  (30, .astore 7, 0, 0, 0, 0, 0, []),
  (32, .aload 7, 0, 0, 0, 0, 0, []),
  (34, .ifnull 29, 63, 0, 0, 0, 0, []),
  (37, .aload 7, 0, 0, 0, 0, 0, []),
  (39, .aload_n 2, 0, 0, 0, 0, 0, []),
  (40, .getfield 46, 2, 0, 0, 304, 0, []),
  (43, .iload_n 3, 0, 0, 0, 0, 0, []),
  (44, .invokevirtual 31, 36, 2, 8, 490, 0, []),
  (47, .ifCond .eq 16, 63, 0, 0, 0, 0, []),
  (50, .aload 7, 0, 0, 0, 0, 0, []),
  (52, .getfield 55, 8, 3, 0, 139, 0, []),
  (55, .iload 4, 0, 0, 0, 0, 0, []),
  (57, .if_icmp .le 6, 63, 0, 0, 0, 0, []),
  (60, .iinc 6 (-1), 0, 0, 0, 0, (-1), []),
  (63, .aload_n 1, 0, 0, 0, 0, 0, []),
  (64, .iload 4, 0, 0, 0, 0, 0, []),
  (66, .iload 5, 0, 0, 0, 0, 0, []),
  (68, .iload 6, 0, 0, 0, 0, 0, []),
  (70, .invokevirtual 70, 1, 3, 0, 494, 0, []),
  (73, .iload 6, 0, 0, 0, 0, 0, []),
  (75, .istore 8, 0, 0, 0, 0, 0, []),
  (77, .iload 8, 0, 0, 0, 0, 0, []),
  (79, .aload_n 0, 0, 0, 0, 0, 0, []),
  (80, .getfield 17, 9, 1, 0, 169, 0, []),
  (83, .if_icmp .ge 48, 131, 0, 0, 0, 0, []),
  (86, .aload_n 0, 0, 0, 0, 0, 0, []),
  (87, .getfield 11, 9, 0, 0, 168, 0, []),
  (90, .iload 8, 0, 0, 0, 0, 0, []),
  (92, .aaload, 0, 0, 0, 0, 0, []),
  (93, .astore 9, 0, 0, 0, 0, 0, []),
  (95, .aload 9, 0, 0, 0, 0, 0, []),
  (97, .aload_n 2, 0, 0, 0, 0, 0, []),
  (98, .getfield 46, 2, 0, 0, 304, 0, []),
  (101, .iload_n 3, 0, 0, 0, 0, 0, []),
  (102, .invokevirtual 31, 36, 2, 8, 490, 0, []),
  (105, .ifCond .eq 13, 118, 0, 0, 0, 0, []),
  (108, .aload 9, 0, 0, 0, 0, 0, []),
  (110, .getfield 76, 8, 2, 0, 135, 0, []),
  (113, .iload 5, 0, 0, 0, 0, 0, []),
  (115, .if_icmp .lt 4, 119, 0, 0, 0, 0, []),
  (118, .return_, 0, 0, 0, 0, 0, []),
  (119, .aload_n 1, 0, 0, 0, 0, 0, []),
  (120, .aload 9, 0, 0, 0, 0, 0, []),
  (122, .invokevirtual 79, 2, 1, 0, 498, 0, []),
  (125, .iinc 8 1, 0, 0, 0, 0, 1, []),
  (128, .goto (-51), 77, 0, 0, 0, 0, []),
  (131, .return_, 0, 0, 0, 0, 0, [])])
def m_WindowList_endsBefore : rv_M := (yX9_endsBefore, cX9_endsBefore, 3, some .boolean, RX9, 0, 0, (423, 53, 422, 5), [
  (0, .iload_n 2, 0, 0, 0, 0, 0, []),
  (1, .ifCond .lt 19, 20, 0, 0, 0, 0, []),
  (4, .aload_n 1, 0, 0, 0, 0, 0, []),
  (5, .getfield 55, 8, 3, 0, 139, 0, []),
  (8, .aload_n 0, 0, 0, 0, 0, 0, []),
  (9, .getfield 11, 9, 0, 0, 168, 0, []),
  (12, .iload_n 2, 0, 0, 0, 0, 0, []),
  (13, .aaload, 0, 0, 0, 0, 0, []),
  (14, .getfield 55, 8, 3, 0, 139, 0, []),
  (17, .if_icmp .ge 7, 24, 0, 0, 0, 0, []),
  (20, .iconst 1, 0, 0, 0, 0, 1, []),
  (21, .goto 4, 25, 0, 0, 0, 0, []),
  (24, .iconst 0, 0, 0, 0, 0, 0, []),
  (25, .ireturn, 0, 0, 0, 0, 0, [])])
def m_WindowList_holds : rv_M := (yX9_holds, cX9_holds, 6, some .boolean, RX9, 1, 22, (582, 53, 581, 15), [
  (0, .aload_n 0, 0, 0, 0, 0, 0, []),
  (1, .iload_n 1, 0, 0, 0, 0, 0, []),
  (2, .invokevirtual 27, 39, 1, 9, 468, 0, []),
  (5, .astore 5, 0, 0, 0, 0, 0, []),
  (7, .aload 5, 0, 0, 0, 0, 0, []),
  (9, .ifnull 27, 36, 0, 0, 0, 0, []),
  (12, .aload 5, 0, 0, 0, 0, 0, []),
  (14, .iload_n 2, 0, 0, 0, 0, 0, []),
  (15, .iload_n 3, 0, 0, 0, 0, 0, []),
  (16, .invokevirtual 31, 36, 2, 8, 490, 0, []),
  (19, .ifCond .eq 17, 36, 0, 0, 0, 0, []),
  (22, .aload 5, 0, 0, 0, 0, 0, []),
  (24, .getfield 76, 8, 2, 0, 135, 0, []),
  (27, .iload 4, 0, 0, 0, 0, 0, []),
  (29, .if_icmp .ne 7, 36, 0, 0, 0, 0, []),
  (32, .iconst 1, 0, 0, 0, 0, 1, []),
  (33, .goto 4, 37, 0, 0, 0, 0, []),
  (36, .iconst 0, 0, 0, 0, 0, 0, []),
  (37, .ireturn, 0, 0, 0, 0, 0, [])])
def m_WindowList_placeOf : rv_M := (yX9_placeOf, cX9_placeOf, 8, some .int, RX9, 1, 23, (485, 53, 484, 9), [
  (0, .iconst 0, 0, 0, 0, 0, 0, []),
  (1, .istore 4, 0, 0, 0, 0, 0, []),
  (3, .aload_n 0, 0, 0, 0, 0, 0, []),
  (4, .getfield 17, 9, 1, 0, 169, 0, []),
  (7, .istore 5, 0, 0, 0, 0, 0, []),
  (9, .iconst 0, 0, 0, 0, 0, 0, []),
  (10, .istore 6, 0, 0, 0, 0, 0, []),
  (12, .iload 6, 0, 0, 0, 0, 0, []),
  (14, .bipush 120, 0, 0, 0, 0, 120, []),
  (16, .if_icmp .ge 54, 70, 0, 0, 0, 0, []),
  (19, .iload 4, 0, 0, 0, 0, 0, []),
  (21, .iload 5, 0, 0, 0, 0, 0, []),
  (23, .if_icmp .ge 47, 70, 0, 0, 0, 0, []),
  (26, .iload 4, 0, 0, 0, 0, 0, []),
  (28, .iload 5, 0, 0, 0, 0, 0, []),
  (30, .iadd, 0, 0, 0, 0, 0, []),
  (31, .iconst 2, 0, 0, 0, 0, 2, []),
  (32, .idiv, 0, 0, 0, 0, 0, []),
  (33, .istore 7, 0, 0, 0, 0, 0, []),
  (35, .aload_n 0, 0, 0, 0, 0, 0, []),
  (36, .getfield 11, 9, 0, 0, 168, 0, []),
  (39, .iload 7, 0, 0, 0, 0, 0, []),
  (41, .aaload, 0, 0, 0, 0, 0, []),
  (42, .iload_n 1, 0, 0, 0, 0, 0, []),
  (43, .iload_n 2, 0, 0, 0, 0, 0, []),
  (44, .iload_n 3, 0, 0, 0, 0, 0, []),
  (45, .invokevirtual 83, 37, 3, 8, 486, 0, []),
  (48, .ifCond .eq 12, 60, 0, 0, 0, 0, []),
  (51, .iload 7, 0, 0, 0, 0, 0, []),
  (53, .iconst 1, 0, 0, 0, 0, 1, []),
  (54, .iadd, 0, 0, 0, 0, 0, []),
  (55, .istore 4, 0, 0, 0, 0, 0, []),
  (57, .goto 7, 64, 0, 0, 0, 0, []),
  (60, .iload 7, 0, 0, 0, 0, 0, []),
  (62, .istore 5, 0, 0, 0, 0, 0, []),
  (64, .iinc 6 1, 0, 0, 0, 0, 1, []),
  (67, .goto (-55), 12, 0, 0, 0, 0, []),
  (70, .iload 4, 0, 0, 0, 0, 0, []),
  (72, .ireturn, 0, 0, 0, 0, 0, [])])
def m_WindowList_open : rv_M := (yX9_open, cX9_open, 8, none, RX9, 2, 44, (594, 53, 593, 17), [
  (0, .aload_n 0, 0, 0, 0, 0, 0, []),
  (1, .getfield 17, 9, 1, 0, 169, 0, []),
  (4, .aload_n 0, 0, 0, 0, 0, 0, []),
  (5, .getfield 11, 9, 0, 0, 168, 0, []),
  (8, .arraylength, 0, 0, 0, 0, 0, []),
  (9, .if_icmp .lt 4, 13, 0, 0, 0, 0, []),
  (12, .return_, 0, 0, 0, 0, 0, []),
  (13, .aload_n 0, 0, 0, 0, 0, 0, []),
  (14, .getfield 11, 9, 0, 0, 168, 0, []),
  (17, .aload_n 0, 0, 0, 0, 0, 0, []),
  (18, .getfield 17, 9, 1, 0, 169, 0, []),
  (21, .aaload, 0, 0, 0, 0, 0, []),
  (22, .astore 6, 0, 0, 0, 0, 0, []),
  (24, .aload 6, 0, 0, 0, 0, 0, []),
  (26, .iload_n 2, 0, 0, 0, 0, 0, []),
  (27, .iload_n 3, 0, 0, 0, 0, 0, []),
  (28, .iload 4, 0, 0, 0, 0, 0, []),
  (30, .iload 5, 0, 0, 0, 0, 0, []),
  (32, .invokevirtual 87, 35, 4, 8, 595, 0, []),
  (35, .aload_n 0, 0, 0, 0, 0, 0, []),
  (36, .getfield 17, 9, 1, 0, 169, 0, []),
  (39, .istore 7, 0, 0, 0, 0, 0, []),
  (41, .iload 7, 0, 0, 0, 0, 0, []),
  (43, .iload_n 1, 0, 0, 0, 0, 0, []),
  (44, .if_icmp .le 25, 69, 0, 0, 0, 0, []),
  (47, .aload_n 0, 0, 0, 0, 0, 0, []),
  (48, .getfield 11, 9, 0, 0, 168, 0, []),
  (51, .iload 7, 0, 0, 0, 0, 0, []),
  (53, .aload_n 0, 0, 0, 0, 0, 0, []),
  (54, .getfield 11, 9, 0, 0, 168, 0, []),
  (57, .iload 7, 0, 0, 0, 0, 0, []),
  (59, .iconst 1, 0, 0, 0, 0, 1, []),
  (60, .isub, 0, 0, 0, 0, 0, []),
  (61, .aaload, 0, 0, 0, 0, 0, []),
  (62, .aastore, 0, 0, 0, 0, 0, []),
  (63, .iinc 7 (-1), 0, 0, 0, 0, (-1), []),
  (66, .goto (-25), 41, 0, 0, 0, 0, []),
  (69, .aload_n 0, 0, 0, 0, 0, 0, []),
  (70, .getfield 11, 9, 0, 0, 168, 0, []),
  (73, .iload_n 1, 0, 0, 0, 0, 0, []),
  (74, .aload 6, 0, 0, 0, 0, 0, []),
  (76, .aastore, 0, 0, 0, 0, 0, []),
  (77, .aload_n 0, 0, 0, 0, 0, 0, []),
  (78, .dup, 0, 0, 0, 0, 0, []),
  (79, .getfield 17, 9, 1, 0, 169, 0, []),
  (82, .iconst 1, 0, 0, 0, 0, 1, []),
  (83, .iadd, 0, 0, 0, 0, 0, []),
  (84, .putfield 17, 9, 1, 0, 169, 0, []),
  (87, .return_, 0, 0, 0, 0, 0, [])])
def m_Late_init : rv_M := (yX10_init, cX10_init, 1, none, RX10, 4, 81, (68, 51, 67, 0), [
  (0, .aload_n 0, 0, 0, 0, 0, 0, []),
  (1, .invokespecial 1, 0, 0, 2, 69, 0, []),
  (4, .aload_n 0, 0, 0, 0, 0, 0, []),
  (5, .iconst 5, 0, 0, 0, 0, 5, []),
  (6, .anewarray 9, 2, 73, 0, 72, 0, []),
  (9, .putfield 11, 10, 0, 0, 247, 0, []),
  (12, .aload_n 0, 0, 0, 0, 0, 0, []),
  (13, .iconst 0, 0, 0, 0, 0, 0, []),
  (14, .putfield 15, 10, 1, 0, 248, 0, []),
  (17, .aload_n 0, 0, 0, 0, 0, 0, []),
  (18, .bipush 10, 0, 0, 0, 0, 10, []),
  (20, .anewarray 19, 6, 75, 0, 74, 0, []),
  (23, .putfield 21, 10, 2, 0, 249, 0, []),
  (26, .aload_n 0, 0, 0, 0, 0, 0, []),
  (27, .iconst 0, 0, 0, 0, 0, 0, []),
  (28, .putfield 25, 10, 3, 0, 250, 0, []),
  (31, .aload_n 0, 0, 0, 0, 0, 0, []),
  (32, .new 28, 5, 0, 0, 76, 0, []),
  (35, .dup, 0, 0, 0, 0, 0, []),
  (36, .invokespecial 30, 24, 0, 1, 78, 0, []),
  (39, .putfield 31, 10, 4, 0, 251, 0, []),
  (42, .aload_n 0, 0, 0, 0, 0, 0, []),
  (43, .new 35, 9, 0, 0, 92, 0, []),
  (46, .dup, 0, 0, 0, 0, 0, []),
  (47, .invokespecial 37, 38, 0, 0, 94, 0, []),
  (50, .putfield 38, 10, 5, 0, 252, 0, []),
  (53, .aload_n 0, 0, 0, 0, 0, 0, []),
  (54, .new 42, 0, 0, 0, 176, 0, []),
  (57, .dup, 0, 0, 0, 0, 0, []),
  (58, .invokespecial 44, 0, 0, 1, 178, 0, []),
  (61, .putfield 45, 10, 6, 0, 253, 0, []),
  (64, .aload_n 0, 0, 0, 0, 0, 0, []),
  (65, .new 49, 3, 0, 0, 203, 0, []),
  (68, .dup, 0, 0, 0, 0, 0, []),
  (69, .sipush 400, 0, 0, 0, 0, 400, []),
  (72, .bipush 9, 0, 0, 0, 0, 9, []),
  (74, .invokespecial 51, 16, 2, 0, 205, 0, []),
  (77, .putfield 54, 10, 7, 0, 254, 0, []),
  (80, .aload_n 0, 0, 0, 0, 0, 0, []),
  (81, .iconst 0, 0, 0, 0, 0, 0, []),
  (82, .putfield 58, 10, 8, 0, 255, 0, []),
  (85, .aload_n 0, 0, 0, 0, 0, 0, []),
  (86, .new 49, 3, 0, 0, 203, 0, []),
  (89, .dup, 0, 0, 0, 0, 0, []),
  (90, .bipush 100, 0, 0, 0, 0, 100, []),
  (92, .iconst 5, 0, 0, 0, 0, 5, []),
  (93, .invokespecial 51, 16, 2, 0, 205, 0, []),
  (96, .putfield 61, 10, 9, 0, 256, 0, []),
  (99, .aload_n 0, 0, 0, 0, 0, 0, []),
  (100, .bipush 100, 0, 0, 0, 0, 100, []),
  (102, .putfield 64, 10, 10, 0, 257, 0, []),
  (105, .aload_n 0, 0, 0, 0, 0, 0, []),
  (106, .iconst 0, 0, 0, 0, 0, 0, []),
  (107, .putfield 67, 10, 11, 0, 258, 0, []),
  (110, .aload_n 0, 0, 0, 0, 0, 0, []),
  (111, .iconst 0, 0, 0, 0, 0, 0, []),
  (112, .putfield 70, 10, 12, 0, 259, 0, []),
  (115, .aload_n 0, 0, 0, 0, 0, 0, []),
  (116, .new 73, 1, 0, 0, 233, 0, []),
  (119, .dup, 0, 0, 0, 0, 0, []),
  (120, .invokespecial 75, 3, 0, 1, 235, 0, []),
  (123, .putfield 76, 10, 13, 0, 260, 0, []),
  (126, .return_, 0, 0, 0, 0, 0, [])])
def m_Late_operator : rv_M := (yX10_operator, cX10_operator, 6, some .int, RX10, 2, 46, (293, 51, 291, 292), [
  (0, .iload_n 1, 0, 0, 0, 0, 0, []),
  (1, .iconst 0, 0, 0, 0, 0, 0, []),
  (2, .iconst 2, 0, 0, 0, 0, 2, []),
  (3, .invokestatic 80, 67, 3, 0, 294, 0, []),
  (6, .ifCond .eq 13, 19, 0, 0, 0, 0, []),
  (9, .iload 5, 0, 0, 0, 0, 0, []),
  (11, .iconst 0, 0, 0, 0, 0, 0, []),
  (12, .iconst 2, 0, 0, 0, 0, 2, []),
  (13, .invokestatic 80, 67, 3, 0, 294, 0, []),
  (16, .ifCond .ne 5, 21, 0, 0, 0, 0, []),
  (19, .iconst (-1), 0, 0, 0, 0, (-1), []),
  (20, .ireturn, 0, 0, 0, 0, 0, []),
  (21, .iload_n 2, 0, 0, 0, 0, 0, []),
  (22, .iconst 1, 0, 0, 0, 0, 1, []),
  (23, .ldc 84, 0, 0, 0, 297, 1000000, []),
  (25, .invokestatic 80, 67, 3, 0, 294, 0, []),
  (28, .ifCond .eq 24, 52, 0, 0, 0, 0, []),
  (31, .iload_n 3, 0, 0, 0, 0, 0, []),
  (32, .iconst 1, 0, 0, 0, 0, 1, []),
  (33, .ldc 84, 0, 0, 0, 297, 1000000, []),
  (35, .invokestatic 80, 67, 3, 0, 294, 0, []),
  (38, .ifCond .eq 14, 52, 0, 0, 0, 0, []),
  (41, .iload 4, 0, 0, 0, 0, 0, []),
  (43, .iconst 0, 0, 0, 0, 0, 0, []),
  (44, .ldc 84, 0, 0, 0, 297, 1000000, []),
  (46, .invokestatic 80, 67, 3, 0, 294, 0, []),
  (49, .ifCond .ne 5, 54, 0, 0, 0, 0, []),
  (52, .iconst (-1), 0, 0, 0, 0, (-1), []),
  (53, .ireturn, 0, 0, 0, 0, 0, []),
  (54, .iload_n 1, 0, 0, 0, 0, 0, []),
  (55, .iconst 1, 0, 0, 0, 0, 1, []),
  (56, .if_icmp .ne 18, 74, 0, 0, 0, 0, []),
  (59, .iload_n 3, 0, 0, 0, 0, 0, []),
  (60, .iload_n 2, 0, 0, 0, 0, 0, []),
  (61, .if_icmp .gt 11, 72, 0, 0, 0, 0, []),
  (64, .iload_n 2, 0, 0, 0, 0, 0, []),
  (65, .bipush 8, 0, 0, 0, 0, 8, []),
  (67, .iload_n 3, 0, 0, 0, 0, 0, []),
  (68, .imul, 0, 0, 0, 0, 0, []),
  (69, .if_icmp .le 5, 74, 0, 0, 0, 0, []),
  (72, .iconst (-1), 0, 0, 0, 0, (-1), []),
  (73, .ireturn, 0, 0, 0, 0, 0, []),
  (74, .aload_n 0, 0, 0, 0, 0, 0, []),
  (75, .getfield 15, 10, 1, 0, 248, 0, []),
  (78, .iconst 5, 0, 0, 0, 0, 5, []),
  (79, .if_icmp .lt 6, 85, 0, 0, 0, 0, []),
  (82, .bipush (-3), 0, 0, 0, 0, (-3), []),
  (84, .ireturn, 0, 0, 0, 0, 0, []),
  (85, .aload_n 0, 0, 0, 0, 0, 0, []),
  (86, .getfield 11, 10, 0, 0, 247, 0, []),
  (89, .aload_n 0, 0, 0, 0, 0, 0, []),
  (90, .getfield 15, 10, 1, 0, 248, 0, []),
  (93, .new 9, 2, 0, 0, 72, 0, []),
  (96, .dup, 0, 0, 0, 0, 0, []),
  (97, .aload_n 0, 0, 0, 0, 0, 0, []),
  (98, .getfield 15, 10, 1, 0, 248, 0, []),
  (101, .iload_n 1, 0, 0, 0, 0, 0, []),
  (102, .iload_n 2, 0, 0, 0, 0, 0, []),
  (103, .iload_n 3, 0, 0, 0, 0, 0, []),
  (104, .iload 4, 0, 0, 0, 0, 0, []),
  (106, .iload 5, 0, 0, 0, 0, 0, []),
  (108, .invokespecial 85, 12, 6, 0, 299, 0, []),
  (111, .aastore, 0, 0, 0, 0, 0, []),
  (112, .aload_n 0, 0, 0, 0, 0, 0, []),
  (113, .dup, 0, 0, 0, 0, 0, []),
  (114, .getfield 15, 10, 1, 0, 248, 0, []),
  (117, .iconst 1, 0, 0, 0, 0, 1, []),
  (118, .iadd, 0, 0, 0, 0, 0, []),
  (119, .putfield 15, 10, 1, 0, 248, 0, []),
  (122, .aload_n 0, 0, 0, 0, 0, 0, []),
  (123, .getfield 15, 10, 1, 0, 248, 0, []),
  (126, .iconst 1, 0, 0, 0, 0, 1, []),
  (127, .isub, 0, 0, 0, 0, 0, []),
  (128, .ireturn, 0, 0, 0, 0, 0, [])])
def m_Late_source : rv_M := (yX10_source, cX10_source, 3, some .int, RX10, 2, 42, (339, 51, 337, 338), [
  (0, .aload_n 0, 0, 0, 0, 0, 0, []),
  (1, .iload_n 1, 0, 0, 0, 0, 0, []),
  (2, .invokevirtual 88, 68, 1, 10, 340, 0, []),
  (5, .astore_n 2, 0, 0, 0, 0, 0, []),
  (6, .aload_n 2, 0, 0, 0, 0, 0, []),
  (7, .ifnonnull 5, 12, 0, 0, 0, 0, []),
  (10, .iconst (-1), 0, 0, 0, 0, (-1), []),
  (11, .ireturn, 0, 0, 0, 0, 0, []),
  (12, .aload_n 2, 0, 0, 0, 0, 0, []),
  (13, .getfield 92, 2, 6, 0, 320, 0, []),
  (16, .ldc 95, 0, 0, 0, 344, 1000000000, []),
  (18, .if_icmp .ne 6, 24, 0, 0, 0, 0, []),
  (21, .bipush (-2), 0, 0, 0, 0, (-2), []),
  (23, .ireturn, 0, 0, 0, 0, 0, []),
  (24, .aload_n 0, 0, 0, 0, 0, 0, []),
  (25, .getfield 25, 10, 3, 0, 250, 0, []),
  (28, .bipush 10, 0, 0, 0, 0, 10, []),
  (30, .if_icmp .lt 6, 36, 0, 0, 0, 0, []),
  (33, .bipush (-3), 0, 0, 0, 0, (-3), []),
  (35, .ireturn, 0, 0, 0, 0, 0, []),
  (36, .aload_n 0, 0, 0, 0, 0, 0, []),
  (37, .getfield 21, 10, 2, 0, 249, 0, []),
  (40, .aload_n 0, 0, 0, 0, 0, 0, []),
  (41, .getfield 25, 10, 3, 0, 250, 0, []),
  (44, .new 19, 6, 0, 0, 74, 0, []),
  (47, .dup, 0, 0, 0, 0, 0, []),
  (48, .aload_n 0, 0, 0, 0, 0, 0, []),
  (49, .getfield 25, 10, 3, 0, 250, 0, []),
  (52, .aload_n 2, 0, 0, 0, 0, 0, []),
  (53, .invokespecial 96, 27, 2, 0, 346, 0, []),
  (56, .aastore, 0, 0, 0, 0, 0, []),
  (57, .aload_n 0, 0, 0, 0, 0, 0, []),
  (58, .dup, 0, 0, 0, 0, 0, []),
  (59, .getfield 25, 10, 3, 0, 250, 0, []),
  (62, .iconst 1, 0, 0, 0, 0, 1, []),
  (63, .iadd, 0, 0, 0, 0, 0, []),
  (64, .putfield 25, 10, 3, 0, 250, 0, []),
  (67, .aload_n 0, 0, 0, 0, 0, 0, []),
  (68, .getfield 25, 10, 3, 0, 250, 0, []),
  (71, .iconst 1, 0, 0, 0, 0, 1, []),
  (72, .isub, 0, 0, 0, 0, 0, []),
  (73, .ireturn, 0, 0, 0, 0, 0, [])])
def m_Late_promise : rv_M := (yX10_promise, cX10_promise, 4, some .int, RX10, 6, 130, (391, 51, 389, 390), [
  (0, .aload_n 0, 0, 0, 0, 0, 0, []),
  (1, .iload_n 1, 0, 0, 0, 0, 0, []),
  (2, .invokevirtual 99, 69, 1, 10, 392, 0, []),
  (5, .astore_n 3, 0, 0, 0, 0, 0, []),
  (6, .aload_n 3, 0, 0, 0, 0, 0, []),
  (7, .ifnull 13, 20, 0, 0, 0, 0, []),
  (10, .iload_n 2, 0, 0, 0, 0, 0, []),
  (11, .iconst 0, 0, 0, 0, 0, 0, []),
  (12, .ldc 103, 0, 0, 0, 396, 999999999, []),
  (14, .invokestatic 80, 67, 3, 0, 294, 0, []),
  (17, .ifCond .ne 5, 22, 0, 0, 0, 0, []),
  (20, .iconst (-1), 0, 0, 0, 0, (-1), []),
  (21, .ireturn, 0, 0, 0, 0, 0, []),
  (22, .aload_n 3, 0, 0, 0, 0, 0, []),
  (23, .getfield 104, 6, 2, 0, 356, 0, []),
  (26, .iload_n 2, 0, 0, 0, 0, 0, []),
  (27, .if_icmp .gt 10, 37, 0, 0, 0, 0, []),
  (30, .aload_n 3, 0, 0, 0, 0, 0, []),
  (31, .getfield 107, 6, 3, 0, 358, 0, []),
  (34, .ifCond .eq 6, 40, 0, 0, 0, 0, []),
  (37, .bipush (-2), 0, 0, 0, 0, (-2), []),
  (39, .ireturn, 0, 0, 0, 0, 0, []),
  (40, .aload_n 3, 0, 0, 0, 0, 0, []),
  (41, .iload_n 2, 0, 0, 0, 0, 0, []),
  (42, .putfield 104, 6, 2, 0, 356, 0, []),
  (45, .aload_n 0, 0, 0, 0, 0, 0, []),
  (46, .aload_n 3, 0, 0, 0, 0, 0, []),
  (47, .getfield 111, 6, 1, 0, 354, 0, []),
  (50, .invokevirtual 115, 70, 1, 10, 397, 0, []),
  (53, .ireturn, 0, 0, 0, 0, 0, [])])
def m_Late_end : rv_M := (yX10_end, cX10_end, 3, some .int, RX10, 6, 130, (472, 51, 470, 471), [
  (0, .aload_n 0, 0, 0, 0, 0, 0, []),
  (1, .iload_n 1, 0, 0, 0, 0, 0, []),
  (2, .invokevirtual 99, 69, 1, 10, 392, 0, []),
  (5, .astore_n 2, 0, 0, 0, 0, 0, []),
  (6, .aload_n 2, 0, 0, 0, 0, 0, []),
  (7, .ifnonnull 5, 12, 0, 0, 0, 0, []),
  (10, .iconst (-1), 0, 0, 0, 0, (-1), []),
  (11, .ireturn, 0, 0, 0, 0, 0, []),
  (12, .aload_n 2, 0, 0, 0, 0, 0, []),
  (13, .getfield 107, 6, 3, 0, 358, 0, []),
  (16, .ifCond .eq 6, 22, 0, 0, 0, 0, []),
  (19, .bipush (-2), 0, 0, 0, 0, (-2), []),
  (21, .ireturn, 0, 0, 0, 0, 0, []),
  (22, .aload_n 2, 0, 0, 0, 0, 0, []),
  (23, .iconst 1, 0, 0, 0, 0, 1, []),
  (24, .putfield 107, 6, 3, 0, 358, 0, []),
  (27, .aload_n 0, 0, 0, 0, 0, 0, []),
  (28, .aload_n 2, 0, 0, 0, 0, 0, []),
  (29, .getfield 111, 6, 1, 0, 354, 0, []),
  (32, .invokevirtual 115, 70, 1, 10, 397, 0, []),
  (35, .ireturn, 0, 0, 0, 0, 0, [])])
def m_Late_row : rv_M := (yX10_row, cX10_row, 7, some .int, RX10, 6, 133, (476, 51, 474, 475), [
  (0, .aload_n 0, 0, 0, 0, 0, 0, []),
  (1, .iload_n 1, 0, 0, 0, 0, 0, []),
  (2, .invokevirtual 99, 69, 1, 10, 392, 0, []),
  (5, .astore 5, 0, 0, 0, 0, 0, []),
  (7, .aload 5, 0, 0, 0, 0, 0, []),
  (9, .ifnull 23, 32, 0, 0, 0, 0, []),
  (12, .iload_n 2, 0, 0, 0, 0, 0, []),
  (13, .iconst 0, 0, 0, 0, 0, 0, []),
  (14, .bipush 9, 0, 0, 0, 0, 9, []),
  (16, .invokestatic 80, 67, 3, 0, 294, 0, []),
  (19, .ifCond .eq 13, 32, 0, 0, 0, 0, []),
  (22, .iload_n 3, 0, 0, 0, 0, 0, []),
  (23, .iconst 0, 0, 0, 0, 0, 0, []),
  (24, .ldc 119, 0, 0, 0, 477, 100000000, []),
  (26, .invokestatic 80, 67, 3, 0, 294, 0, []),
  (29, .ifCond .ne 5, 34, 0, 0, 0, 0, []),
  (32, .iconst (-1), 0, 0, 0, 0, (-1), []),
  (33, .ireturn, 0, 0, 0, 0, 0, []),
  (34, .aload 5, 0, 0, 0, 0, 0, []),
  (36, .getfield 107, 6, 3, 0, 358, 0, []),
  (39, .ifCond .ne 11, 50, 0, 0, 0, 0, []),
  (42, .aload 5, 0, 0, 0, 0, 0, []),
  (44, .getfield 120, 6, 4, 0, 360, 0, []),
  (47, .ifCond .eq 6, 53, 0, 0, 0, 0, []),
  (50, .bipush (-2), 0, 0, 0, 0, (-2), []),
  (52, .ireturn, 0, 0, 0, 0, 0, []),
  (53, .aload_n 0, 0, 0, 0, 0, 0, []),
  (54, .getfield 31, 10, 4, 0, 251, 0, []),
  (57, .getfield 123, 5, 1, 0, 86, 0, []),
  (60, .sipush 300, 0, 0, 0, 0, 300, []),
  (63, .if_icmp .lt 6, 69, 0, 0, 0, 0, []),
  (66, .bipush (-3), 0, 0, 0, 0, (-3), []),
  (68, .ireturn, 0, 0, 0, 0, 0, []),
  (69, .aload 5, 0, 0, 0, 0, 0, []),
  (71, .getfield 111, 6, 1, 0, 354, 0, []),
  (74, .getfield 126, 2, 1, 0, 308, 0, []),
  (77, .iconst 2, 0, 0, 0, 0, 2, []),
  (78, .if_icmp .ne 21, 99, 0, 0, 0, 0, []),
  (81, .aload_n 0, 0, 0, 0, 0, 0, []),
  (82, .getfield 38, 10, 5, 0, 252, 0, []),
  (85, .aload_n 0, 0, 0, 0, 0, 0, []),
  (86, .getfield 45, 10, 6, 0, 253, 0, []),
  (89, .aload 5, 0, 0, 0, 0, 0, []),
  (91, .getfield 111, 6, 1, 0, 354, 0, []),
  (94, .iload_n 2, 0, 0, 0, 0, 0, []),
  (95, .iload_n 3, 0, 0, 0, 0, 0, []),
  (96, .invokevirtual 129, 46, 4, 9, 478, 0, []),
  (99, .aload_n 0, 0, 0, 0, 0, 0, []),
  (100, .aload 5, 0, 0, 0, 0, 0, []),
  (102, .getfield 111, 6, 1, 0, 354, 0, []),
  (105, .iload_n 3, 0, 0, 0, 0, 0, []),
  (106, .invokevirtual 133, 76, 2, 10, 504, 0, []),
  (109, .istore 6, 0, 0, 0, 0, 0, []),
  (111, .iload 6, 0, 0, 0, 0, 0, []),
  (113, .ifCond .eq 16, 129, 0, 0, 0, 0, []),
  (116, .aload_n 0, 0, 0, 0, 0, 0, []),
  (117, .aload 5, 0, 0, 0, 0, 0, []),
  (119, .iload_n 2, 0, 0, 0, 0, 0, []),
  (120, .iload_n 3, 0, 0, 0, 0, 0, []),
  (121, .iload 4, 0, 0, 0, 0, 0, []),
  (123, .iload 6, 0, 0, 0, 0, 0, []),
  (125, .invokevirtual 137, 79, 5, 10, 524, 0, []),
  (128, .ireturn, 0, 0, 0, 0, 0, []),
  (129, .aload_n 0, 0, 0, 0, 0, 0, []),
  (130, .getfield 38, 10, 5, 0, 252, 0, []),
  (133, .getfield 141, 9, 1, 0, 170, 0, []),
  (136, .aload_n 0, 0, 0, 0, 0, 0, []),
  (137, .aload 5, 0, 0, 0, 0, 0, []),
  (139, .getfield 111, 6, 1, 0, 354, 0, []),
  (142, .iload_n 2, 0, 0, 0, 0, 0, []),
  (143, .iload_n 3, 0, 0, 0, 0, 0, []),
  (144, .invokevirtual 142, 81, 3, 10, 571, 0, []),
  (147, .iadd, 0, 0, 0, 0, 0, []),
  (148, .bipush 120, 0, 0, 0, 0, 120, []),
  (150, .if_icmp .le 6, 156, 0, 0, 0, 0, []),
  (153, .bipush (-3), 0, 0, 0, 0, (-3), []),
  (155, .ireturn, 0, 0, 0, 0, 0, []),
  (156, .aload 5, 0, 0, 0, 0, 0, []),
  (158, .iload_n 3, 0, 0, 0, 0, 0, []),
  (159, .iconst 1, 0, 0, 0, 0, 1, []),
  (160, .invokevirtual 146, 28, 2, 6, 528, 0, []),
  (163, .aload_n 0, 0, 0, 0, 0, 0, []),
  (164, .getfield 31, 10, 4, 0, 251, 0, []),
  (167, .aload 5, 0, 0, 0, 0, 0, []),
  (169, .iload_n 2, 0, 0, 0, 0, 0, []),
  (170, .iload_n 3, 0, 0, 0, 0, 0, []),
  (171, .iload 4, 0, 0, 0, 0, 0, []),
  (173, .iconst 1, 0, 0, 0, 0, 1, []),
  (174, .invokevirtual 150, 25, 5, 5, 532, 0, []),
  (177, .aload 5, 0, 0, 0, 0, 0, []),
  (179, .getfield 111, 6, 1, 0, 354, 0, []),
  (182, .getfield 126, 2, 1, 0, 308, 0, []),
  (185, .iconst 2, 0, 0, 0, 0, 2, []),
  (186, .if_icmp .ne 18, 204, 0, 0, 0, 0, []),
  (189, .aload_n 0, 0, 0, 0, 0, 0, []),
  (190, .aload 5, 0, 0, 0, 0, 0, []),
  (192, .getfield 111, 6, 1, 0, 354, 0, []),
  (195, .iload_n 2, 0, 0, 0, 0, 0, []),
  (196, .iload 4, 0, 0, 0, 0, 0, []),
  (198, .invokevirtual 154, 83, 3, 10, 583, 0, []),
  (201, .goto 16, 217, 0, 0, 0, 0, []),
  (204, .aload_n 0, 0, 0, 0, 0, 0, []),
  (205, .aload 5, 0, 0, 0, 0, 0, []),
  (207, .getfield 111, 6, 1, 0, 354, 0, []),
  (210, .iload_n 2, 0, 0, 0, 0, 0, []),
  (211, .iload_n 3, 0, 0, 0, 0, 0, []),
  (212, .iload 4, 0, 0, 0, 0, 0, []),
  (214, .invokevirtual 158, 82, 4, 10, 625, 0, []),
  (217, .iconst 1, 0, 0, 0, 0, 1, []),
  (218, .ireturn, 0, 0, 0, 0, 0, [])])
def m_Late_result : rv_M := (yX10_result, cX10_result, 3, some .long, RX10, 1, 23, (632, 51, 630, 631), [
  (0, .aload_n 0, 0, 0, 0, 0, 0, []),
  (1, .getfield 54, 10, 7, 0, 254, 0, []),
  (4, .iload_n 1, 0, 0, 0, 0, 0, []),
  (5, .iload_n 2, 0, 0, 0, 0, 0, []),
  (6, .invokevirtual 162, 19, 2, 3, 633, 0, []),
  (9, .lreturn, 0, 0, 0, 0, 0, [])])
def m_Late_aside : rv_M := (yX10_aside, cX10_aside, 3, some .int, RX10, 1, 23, (641, 51, 639, 640), [
  (0, .aload_n 0, 0, 0, 0, 0, 0, []),
  (1, .getfield 61, 10, 9, 0, 256, 0, []),
  (4, .iload_n 1, 0, 0, 0, 0, 0, []),
  (5, .iload_n 2, 0, 0, 0, 0, 0, []),
  (6, .invokevirtual 162, 19, 2, 3, 633, 0, []),
  (9, .l2i, 0, 0, 0, 0, 0, []),
  (10, .ireturn, 0, 0, 0, 0, 0, [])])
def m_Late_take : rv_M := (yX10_take, cX10_take, 3, some .int, RX10, 1, 20, (645, 51, 643, 644), [
  (0, .aload_n 0, 0, 0, 0, 0, 0, []),
  (1, .getfield 61, 10, 9, 0, 256, 0, []),
  (4, .getfield 166, 3, 5, 0, 218, 0, []),
  (7, .istore_n 1, 0, 0, 0, 0, 0, []),
  (8, .aload_n 0, 0, 0, 0, 0, 0, []),
  (9, .getfield 61, 10, 9, 0, 256, 0, []),
  (12, .invokevirtual 167, 21, 0, 3, 646, 0, []),
  (15, .iconst 0, 0, 0, 0, 0, 0, []),
  (16, .istore_n 2, 0, 0, 0, 0, 0, []),
  (17, .iload_n 2, 0, 0, 0, 0, 0, []),
  (18, .aload_n 0, 0, 0, 0, 0, 0, []),
  (19, .getfield 25, 10, 3, 0, 250, 0, []),
  (22, .if_icmp .ge 19, 41, 0, 0, 0, 0, []),
  (25, .aload_n 0, 0, 0, 0, 0, 0, []),
  (26, .getfield 21, 10, 2, 0, 249, 0, []),
  (29, .iload_n 2, 0, 0, 0, 0, 0, []),
  (30, .aaload, 0, 0, 0, 0, 0, []),
  (31, .iconst 0, 0, 0, 0, 0, 0, []),
  (32, .putfield 120, 6, 4, 0, 360, 0, []),
  (35, .iinc 2 1, 0, 0, 0, 0, 1, []),
  (38, .goto (-21), 17, 0, 0, 0, 0, []),
  (41, .iload_n 1, 0, 0, 0, 0, 0, []),
  (42, .ireturn, 0, 0, 0, 0, 0, [])])
def m_Late_bound : rv_M := (yX10_bound, cX10_bound, 3, some .int, RX10, 1, 22, (653, 51, 651, 652), [
  (0, .iload_n 1, 0, 0, 0, 0, 0, []),
  (1, .iconst 0, 0, 0, 0, 0, 0, []),
  (2, .bipush 100, 0, 0, 0, 0, 100, []),
  (4, .invokestatic 80, 67, 3, 0, 294, 0, []),
  (7, .ifCond .eq 12, 19, 0, 0, 0, 0, []),
  (10, .iload_n 2, 0, 0, 0, 0, 0, []),
  (11, .iconst 0, 0, 0, 0, 0, 0, []),
  (12, .iconst 1, 0, 0, 0, 0, 1, []),
  (13, .invokestatic 80, 67, 3, 0, 294, 0, []),
  (16, .ifCond .ne 5, 21, 0, 0, 0, 0, []),
  (19, .iconst (-1), 0, 0, 0, 0, (-1), []),
  (20, .ireturn, 0, 0, 0, 0, 0, []),
  (21, .aload_n 0, 0, 0, 0, 0, 0, []),
  (22, .getfield 61, 10, 9, 0, 256, 0, []),
  (25, .getfield 166, 3, 5, 0, 218, 0, []),
  (28, .iload_n 1, 0, 0, 0, 0, 0, []),
  (29, .if_icmp .le 6, 35, 0, 0, 0, 0, []),
  (32, .bipush (-2), 0, 0, 0, 0, (-2), []),
  (34, .ireturn, 0, 0, 0, 0, 0, []),
  (35, .aload_n 0, 0, 0, 0, 0, 0, []),
  (36, .iload_n 1, 0, 0, 0, 0, 0, []),
  (37, .putfield 64, 10, 10, 0, 257, 0, []),
  (40, .aload_n 0, 0, 0, 0, 0, 0, []),
  (41, .iload_n 2, 0, 0, 0, 0, 0, []),
  (42, .putfield 67, 10, 11, 0, 258, 0, []),
  (45, .aload_n 0, 0, 0, 0, 0, 0, []),
  (46, .getfield 61, 10, 9, 0, 256, 0, []),
  (49, .getfield 166, 3, 5, 0, 218, 0, []),
  (52, .ireturn, 0, 0, 0, 0, 0, [])])
def m_Late_of : rv_M := (yX10_of, cX10_of, 4, some .int, RX10, 1, 21, (657, 51, 655, 656), [
  (0, .aload_n 0, 0, 0, 0, 0, 0, []),
  (1, .iload_n 1, 0, 0, 0, 0, 0, []),
  (2, .invokevirtual 99, 69, 1, 10, 392, 0, []),
  (5, .astore_n 3, 0, 0, 0, 0, 0, []),
  (6, .aload_n 3, 0, 0, 0, 0, 0, []),
  (7, .ifnonnull 6, 13, 0, 0, 0, 0, []),
  (10, .ldc 170, 0, 0, 0, 658, (-99999999), []),
  (12, .ireturn, 0, 0, 0, 0, 0, []),
  (13, .iload_n 2, 0, 0, 0, 0, 0, []),
  (14, .tableswitch 105 0 7 #[46, 54, 59, 72, 85, 90, 95, 100], 119, 46, 0, 0, 0, [(0, 60), (1, 68), (2, 73), (3, 86), (4, 99), (5, 104), (6, 109), (7, 114)]),
  (60, .aload_n 3, 0, 0, 0, 0, 0, []),
  (61, .getfield 111, 6, 1, 0, 354, 0, []),
  (64, .getfield 171, 2, 0, 0, 305, 0, []),
  (67, .ireturn, 0, 0, 0, 0, 0, []),
  (68, .aload_n 3, 0, 0, 0, 0, 0, []),
  (69, .getfield 104, 6, 2, 0, 356, 0, []),
  (72, .ireturn, 0, 0, 0, 0, 0, []),
  (73, .aload_n 3, 0, 0, 0, 0, 0, []),
  (74, .getfield 107, 6, 3, 0, 358, 0, []),
  (77, .ifCond .eq 7, 84, 0, 0, 0, 0, []),
  (80, .iconst 1, 0, 0, 0, 0, 1, []),
  (81, .goto 4, 85, 0, 0, 0, 0, []),
  (84, .iconst 0, 0, 0, 0, 0, 0, []),
  (85, .ireturn, 0, 0, 0, 0, 0, []),
  (86, .aload_n 3, 0, 0, 0, 0, 0, []),
  (87, .getfield 120, 6, 4, 0, 360, 0, []),
  (90, .ifCond .eq 7, 97, 0, 0, 0, 0, []),
  (93, .iconst 1, 0, 0, 0, 0, 1, []),
  (94, .goto 4, 98, 0, 0, 0, 0, []),
  (97, .iconst 0, 0, 0, 0, 0, 0, []),
  (98, .ireturn, 0, 0, 0, 0, 0, []),
  (99, .aload_n 3, 0, 0, 0, 0, 0, []),
  (100, .getfield 174, 6, 5, 0, 362, 0, []),
  (103, .ireturn, 0, 0, 0, 0, 0, []),
  (104, .aload_n 3, 0, 0, 0, 0, 0, []),
  (105, .getfield 177, 6, 6, 0, 364, 0, []),
  (108, .ireturn, 0, 0, 0, 0, 0, []),
  (109, .aload_n 3, 0, 0, 0, 0, 0, []),
  (110, .getfield 180, 6, 7, 0, 366, 0, []),
  (113, .ireturn, 0, 0, 0, 0, 0, []),
  (114, .aload_n 3, 0, 0, 0, 0, 0, []),
  (115, .getfield 183, 6, 8, 0, 368, 0, []),
  (118, .ireturn, 0, 0, 0, 0, 0, []),
  (119, .ldc 170, 0, 0, 0, 658, (-99999999), []),
  (121, .ireturn, 0, 0, 0, 0, 0, [])])
def m_Late_mark : rv_M := (yX10_mark, cX10_mark, 3, some .int, RX10, 1, 21, (662, 51, 660, 661), [
  (0, .aload_n 0, 0, 0, 0, 0, 0, []),
  (1, .iload_n 1, 0, 0, 0, 0, 0, []),
  (2, .invokevirtual 88, 68, 1, 10, 340, 0, []),
  (5, .astore_n 2, 0, 0, 0, 0, 0, []),
  (6, .aload_n 2, 0, 0, 0, 0, 0, []),
  (7, .ifnonnull 7, 14, 0, 0, 0, 0, []),
  (10, .iconst (-1), 0, 0, 0, 0, (-1), []),
  (11, .goto 7, 18, 0, 0, 0, 0, []),
  (14, .aload_n 2, 0, 0, 0, 0, 0, []),
  (15, .getfield 92, 2, 6, 0, 320, 0, []),
  (18, .ireturn, 0, 0, 0, 0, 0, [])])
def m_Late_window : rv_M := (yX10_window, cX10_window, 6, some .long, RX10, 3, 74, (666, 51, 664, 665), [
  (0, .aload_n 0, 0, 0, 0, 0, 0, []),
  (1, .getfield 38, 10, 5, 0, 252, 0, []),
  (4, .iload_n 1, 0, 0, 0, 0, 0, []),
  (5, .iload_n 2, 0, 0, 0, 0, 0, []),
  (6, .iload_n 3, 0, 0, 0, 0, 0, []),
  (7, .invokevirtual 186, 40, 3, 9, 667, 0, []),
  (10, .astore 5, 0, 0, 0, 0, 0, []),
  (12, .aload 5, 0, 0, 0, 0, 0, []),
  (14, .ifnonnull 7, 21, 0, 0, 0, 0, []),
  (17, .ldc2_w 190, 0, 0, 0, 672, 0, []),
  (20, .lreturn, 0, 0, 0, 0, 0, []),
  (21, .iload 4, 0, 0, 0, 0, 0, []),
  (23, .tableswitch 108 0 6 #[41, 48, 55, 69, 79, 88, 98], 131, 41, 0, 0, 0, [(0, 64), (1, 71), (2, 78), (3, 92), (4, 102), (5, 111), (6, 121)]),
  (64, .aload 5, 0, 0, 0, 0, 0, []),
  (66, .getfield 192, 8, 2, 0, 136, 0, []),
  (69, .i2l, 0, 0, 0, 0, 0, []),
  (70, .lreturn, 0, 0, 0, 0, 0, []),
  (71, .aload 5, 0, 0, 0, 0, 0, []),
  (73, .getfield 197, 8, 3, 0, 140, 0, []),
  (76, .i2l, 0, 0, 0, 0, 0, []),
  (77, .lreturn, 0, 0, 0, 0, 0, []),
  (78, .aload 5, 0, 0, 0, 0, 0, []),
  (80, .getfield 200, 8, 4, 0, 144, 0, []),
  (83, .ifCond .eq 7, 90, 0, 0, 0, 0, []),
  (86, .lconst 1, 0, 0, 0, 0, 0, []),
  (87, .goto 4, 91, 0, 0, 0, 0, []),
  (90, .lconst 0, 0, 0, 0, 0, 0, []),
  (91, .lreturn, 0, 0, 0, 0, 0, []),
  (92, .aload 5, 0, 0, 0, 0, 0, []),
  (94, .getfield 203, 8, 6, 0, 148, 0, []),
  (97, .getfield 207, 7, 0, 0, 112, 0, []),
  (100, .i2l, 0, 0, 0, 0, 0, []),
  (101, .lreturn, 0, 0, 0, 0, 0, []),
  (102, .aload 5, 0, 0, 0, 0, 0, []),
  (104, .getfield 203, 8, 6, 0, 148, 0, []),
  (107, .getfield 212, 7, 1, 0, 114, 0, []),
  (110, .lreturn, 0, 0, 0, 0, 0, []),
  (111, .aload 5, 0, 0, 0, 0, 0, []),
  (113, .getfield 203, 8, 6, 0, 148, 0, []),
  (116, .getfield 216, 7, 2, 0, 116, 0, []),
  (119, .i2l, 0, 0, 0, 0, 0, []),
  (120, .lreturn, 0, 0, 0, 0, 0, []),
  (121, .aload 5, 0, 0, 0, 0, 0, []),
  (123, .getfield 203, 8, 6, 0, 148, 0, []),
  (126, .getfield 219, 7, 3, 0, 118, 0, []),
  (129, .i2l, 0, 0, 0, 0, 0, []),
  (130, .lreturn, 0, 0, 0, 0, 0, []),
  (131, .ldc2_w 190, 0, 0, 0, 672, 0, []),
  (134, .lreturn, 0, 0, 0, 0, 0, [])])
def m_Late_pass : rv_M := (yX10_pass, cX10_pass, 6, some .int, RX10, 4, 95, (676, 51, 674, 675), [
  (0, .aload_n 0, 0, 0, 0, 0, 0, []),
  (1, .iload_n 1, 0, 0, 0, 0, 0, []),
  (2, .invokevirtual 88, 68, 1, 10, 340, 0, []),
  (5, .astore_n 3, 0, 0, 0, 0, 0, []),
  (6, .aload_n 3, 0, 0, 0, 0, 0, []),
  (7, .ifnonnull 5, 12, 0, 0, 0, 0, []),
  (10, .iconst (-1), 0, 0, 0, 0, (-1), []),
  (11, .ireturn, 0, 0, 0, 0, 0, []),
  (12, .aload_n 0, 0, 0, 0, 0, 0, []),
  (13, .getfield 76, 10, 13, 0, 260, 0, []),
  (16, .invokevirtual 222, 4, 0, 1, 677, 0, []),
  (19, .iconst 0, 0, 0, 0, 0, 0, []),
  (20, .istore 4, 0, 0, 0, 0, 0, []),
  (22, .iload 4, 0, 0, 0, 0, 0, []),
  (24, .aload_n 0, 0, 0, 0, 0, 0, []),
  (25, .getfield 31, 10, 4, 0, 251, 0, []),
  (28, .getfield 123, 5, 1, 0, 86, 0, []),
  (31, .if_icmp .ge 59, 90, 0, 0, 0, 0, []),
  (34, .aload_n 0, 0, 0, 0, 0, 0, []),
  (35, .getfield 31, 10, 4, 0, 251, 0, []),
  (38, .iload 4, 0, 0, 0, 0, 0, []),
  (40, .invokevirtual 223, 26, 1, 5, 681, 0, []),
  (43, .astore 5, 0, 0, 0, 0, 0, []),
  (45, .aload 5, 0, 0, 0, 0, 0, []),
  (47, .ifnull 37, 84, 0, 0, 0, 0, []),
  (50, .aload 5, 0, 0, 0, 0, 0, []),
  (52, .getfield 227, 4, 0, 0, 546, 0, []),
  (55, .getfield 111, 6, 1, 0, 354, 0, []),
  (58, .aload_n 3, 0, 0, 0, 0, 0, []),
  (59, .if_acmp .ne 25, 84, 0, 0, 0, 0, []),
  (62, .iload_n 2, 0, 0, 0, 0, 0, []),
  (63, .ifCond .ne 11, 74, 0, 0, 0, 0, []),
  (66, .aload 5, 0, 0, 0, 0, 0, []),
  (68, .getfield 233, 4, 4, 0, 554, 0, []),
  (71, .ifCond .eq 13, 84, 0, 0, 0, 0, []),
  (74, .aload_n 0, 0, 0, 0, 0, 0, []),
  (75, .getfield 76, 10, 13, 0, 260, 0, []),
  (78, .aload_n 3, 0, 0, 0, 0, 0, []),
  (79, .aload 5, 0, 0, 0, 0, 0, []),
  (81, .invokevirtual 236, 5, 2, 1, 685, 0, []),
  (84, .iinc 4 1, 0, 0, 0, 0, 1, []),
  (87, .goto (-65), 22, 0, 0, 0, 0, []),
  (90, .aload_n 0, 0, 0, 0, 0, 0, []),
  (91, .getfield 76, 10, 13, 0, 260, 0, []),
  (94, .getfield 239, 1, 1, 0, 241, 0, []),
  (97, .ireturn, 0, 0, 0, 0, 0, [])])
def m_Late_passed : rv_M := (yX10_passed, cX10_passed, 3, some .long, RX10, 1, 22, (724, 51, 722, 723), [
  (0, .aload_n 0, 0, 0, 0, 0, 0, []),
  (1, .getfield 76, 10, 13, 0, 260, 0, []),
  (4, .iload_n 1, 0, 0, 0, 0, 0, []),
  (5, .iload_n 2, 0, 0, 0, 0, 0, []),
  (6, .invokevirtual 240, 6, 2, 1, 725, 0, []),
  (9, .lreturn, 0, 0, 0, 0, 0, [])])
def m_Late_count : rv_M := (yX10_count, cX10_count, 2, some .int, RX10, 0, 0, (729, 51, 727, 728), [
  (0, .iload_n 1, 0, 0, 0, 0, 0, []),
  (1, .tableswitch 111 0 8 #[51, 56, 61, 69, 77, 85, 90, 98, 103], 112, 51, 0, 0, 0, [(0, 52), (1, 57), (2, 62), (3, 70), (4, 78), (5, 86), (6, 91), (7, 99), (8, 104)]),
  (52, .aload_n 0, 0, 0, 0, 0, 0, []),
  (53, .getfield 15, 10, 1, 0, 248, 0, []),
  (56, .ireturn, 0, 0, 0, 0, 0, []),
  (57, .aload_n 0, 0, 0, 0, 0, 0, []),
  (58, .getfield 25, 10, 3, 0, 250, 0, []),
  (61, .ireturn, 0, 0, 0, 0, 0, []),
  (62, .aload_n 0, 0, 0, 0, 0, 0, []),
  (63, .getfield 31, 10, 4, 0, 251, 0, []),
  (66, .getfield 123, 5, 1, 0, 86, 0, []),
  (69, .ireturn, 0, 0, 0, 0, 0, []),
  (70, .aload_n 0, 0, 0, 0, 0, 0, []),
  (71, .getfield 38, 10, 5, 0, 252, 0, []),
  (74, .getfield 141, 9, 1, 0, 170, 0, []),
  (77, .ireturn, 0, 0, 0, 0, 0, []),
  (78, .aload_n 0, 0, 0, 0, 0, 0, []),
  (79, .getfield 54, 10, 7, 0, 254, 0, []),
  (82, .getfield 166, 3, 5, 0, 218, 0, []),
  (85, .ireturn, 0, 0, 0, 0, 0, []),
  (86, .aload_n 0, 0, 0, 0, 0, 0, []),
  (87, .getfield 58, 10, 8, 0, 255, 0, []),
  (90, .ireturn, 0, 0, 0, 0, 0, []),
  (91, .aload_n 0, 0, 0, 0, 0, 0, []),
  (92, .getfield 61, 10, 9, 0, 256, 0, []),
  (95, .getfield 166, 3, 5, 0, 218, 0, []),
  (98, .ireturn, 0, 0, 0, 0, 0, []),
  (99, .aload_n 0, 0, 0, 0, 0, 0, []),
  (100, .getfield 70, 10, 12, 0, 259, 0, []),
  (103, .ireturn, 0, 0, 0, 0, 0, []),
  (104, .aload_n 0, 0, 0, 0, 0, 0, []),
  (105, .getfield 76, 10, 13, 0, 260, 0, []),
  (108, .getfield 239, 1, 1, 0, 241, 0, []),
  (111, .ireturn, 0, 0, 0, 0, 0, []),
  (112, .iconst (-1), 0, 0, 0, 0, (-1), []),
  (113, .ireturn, 0, 0, 0, 0, 0, [])])
def m_Late_isWithin : rv_M := (yX10_isWithin, cX10_isWithin, 3, some .boolean, RX10, 0, 0, (296, 51, 295, 0), [
  (0, .iload_n 0, 0, 0, 0, 0, 0, []),
  (1, .iload_n 1, 0, 0, 0, 0, 0, []),
  (2, .if_icmp .lt 12, 14, 0, 0, 0, 0, []),
  (5, .iload_n 0, 0, 0, 0, 0, 0, []),
  (6, .iload_n 2, 0, 0, 0, 0, 0, []),
  (7, .if_icmp .gt 7, 14, 0, 0, 0, 0, []),
  (10, .iconst 1, 0, 0, 0, 0, 1, []),
  (11, .goto 4, 15, 0, 0, 0, 0, []),
  (14, .iconst 0, 0, 0, 0, 0, 0, []),
  (15, .ireturn, 0, 0, 0, 0, 0, [])])
def m_Late_operatorAt : rv_M := (yX10_operatorAt, cX10_operatorAt, 2, some (.object "LateRows$Operator"), RX10, 0, 0, (343, 51, 342, 0), [
  (0, .iload_n 1, 0, 0, 0, 0, 0, []),
  (1, .ifCond .lt 20, 21, 0, 0, 0, 0, []),
  (4, .iload_n 1, 0, 0, 0, 0, 0, []),
  (5, .aload_n 0, 0, 0, 0, 0, 0, []),
  (6, .getfield 15, 10, 1, 0, 248, 0, []),
  (9, .if_icmp .ge 12, 21, 0, 0, 0, 0, []),
  (12, .aload_n 0, 0, 0, 0, 0, 0, []),
  (13, .getfield 11, 10, 0, 0, 247, 0, []),
  (16, .iload_n 1, 0, 0, 0, 0, 0, []),
  (17, .aaload, 0, 0, 0, 0, 0, []),
  (18, .goto 4, 22, 0, 0, 0, 0, []),
  (21, .aconst_null, 0, 0, 0, 0, 0, []),
  (22, .areturn, 0, 0, 0, 0, 0, [])])
def m_Late_sourceAt : rv_M := (yX10_sourceAt, cX10_sourceAt, 2, some (.object "LateRows$Source"), RX10, 0, 0, (395, 51, 394, 1), [
  (0, .iload_n 1, 0, 0, 0, 0, 0, []),
  (1, .ifCond .lt 20, 21, 0, 0, 0, 0, []),
  (4, .iload_n 1, 0, 0, 0, 0, 0, []),
  (5, .aload_n 0, 0, 0, 0, 0, 0, []),
  (6, .getfield 25, 10, 3, 0, 250, 0, []),
  (9, .if_icmp .ge 12, 21, 0, 0, 0, 0, []),
  (12, .aload_n 0, 0, 0, 0, 0, 0, []),
  (13, .getfield 21, 10, 2, 0, 249, 0, []),
  (16, .iload_n 1, 0, 0, 0, 0, 0, []),
  (17, .aaload, 0, 0, 0, 0, 0, []),
  (18, .goto 4, 22, 0, 0, 0, 0, []),
  (21, .aconst_null, 0, 0, 0, 0, 0, []),
  (22, .areturn, 0, 0, 0, 0, 0, [])])
def m_Late_moveMark : rv_M := (yX10_moveMark, cX10_moveMark, 4, some .int, RX10, 5, 107, (400, 51, 399, 2), [
  (0, .aload_n 0, 0, 0, 0, 0, 0, []),
  (1, .getfield 58, 10, 8, 0, 255, 0, []),
  (4, .istore_n 2, 0, 0, 0, 0, 0, []),
  (5, .aload_n 0, 0, 0, 0, 0, 0, []),
  (6, .aload_n 1, 0, 0, 0, 0, 0, []),
  (7, .invokevirtual 241, 71, 1, 10, 401, 0, []),
  (10, .istore_n 3, 0, 0, 0, 0, 0, []),
  (11, .iload_n 3, 0, 0, 0, 0, 0, []),
  (12, .aload_n 1, 0, 0, 0, 0, 0, []),
  (13, .getfield 92, 2, 6, 0, 320, 0, []),
  (16, .if_icmp .le 18, 34, 0, 0, 0, 0, []),
  (19, .aload_n 1, 0, 0, 0, 0, 0, []),
  (20, .iload_n 3, 0, 0, 0, 0, 0, []),
  (21, .putfield 92, 2, 6, 0, 320, 0, []),
  (24, .aload_n 0, 0, 0, 0, 0, 0, []),
  (25, .aload_n 1, 0, 0, 0, 0, 0, []),
  (26, .invokevirtual 244, 72, 1, 10, 408, 0, []),
  (29, .aload_n 0, 0, 0, 0, 0, 0, []),
  (30, .aload_n 1, 0, 0, 0, 0, 0, []),
  (31, .invokevirtual 248, 73, 1, 10, 452, 0, []),
  (34, .aload_n 0, 0, 0, 0, 0, 0, []),
  (35, .getfield 58, 10, 8, 0, 255, 0, []),
  (38, .iload_n 2, 0, 0, 0, 0, 0, []),
  (39, .isub, 0, 0, 0, 0, 0, []),
  (40, .ireturn, 0, 0, 0, 0, 0, [])])
def m_Late_leastPromise : rv_M := (yX10_leastPromise, cX10_leastPromise, 4, some .int, RX10, 1, 21, (404, 51, 403, 3), [
  (0, .ldc 95, 0, 0, 0, 344, 1000000000, []),
  (2, .istore_n 2, 0, 0, 0, 0, 0, []),
  (3, .iconst 0, 0, 0, 0, 0, 0, []),
  (4, .istore_n 3, 0, 0, 0, 0, 0, []),
  (5, .iload_n 3, 0, 0, 0, 0, 0, []),
  (6, .aload_n 0, 0, 0, 0, 0, 0, []),
  (7, .getfield 25, 10, 3, 0, 250, 0, []),
  (10, .if_icmp .ge 48, 58, 0, 0, 0, 0, []),
  (13, .aload_n 0, 0, 0, 0, 0, 0, []),
  (14, .getfield 21, 10, 2, 0, 249, 0, []),
  (17, .iload_n 3, 0, 0, 0, 0, 0, []),
  (18, .aaload, 0, 0, 0, 0, 0, []),
  (19, .getfield 111, 6, 1, 0, 354, 0, []),
  (22, .aload_n 1, 0, 0, 0, 0, 0, []),
  (23, .if_acmp .ne 29, 52, 0, 0, 0, 0, []),
  (26, .aload_n 0, 0, 0, 0, 0, 0, []),
  (27, .getfield 21, 10, 2, 0, 249, 0, []),
  (30, .iload_n 3, 0, 0, 0, 0, 0, []),
  (31, .aaload, 0, 0, 0, 0, 0, []),
  (32, .getfield 107, 6, 3, 0, 358, 0, []),
  (35, .ifCond .ne 17, 52, 0, 0, 0, 0, []),
  (38, .iload_n 2, 0, 0, 0, 0, 0, []),
  (39, .aload_n 0, 0, 0, 0, 0, 0, []),
  (40, .getfield 21, 10, 2, 0, 249, 0, []),
  (43, .iload_n 3, 0, 0, 0, 0, 0, []),
  (44, .aaload, 0, 0, 0, 0, 0, []),
  (45, .getfield 104, 6, 2, 0, 356, 0, []),
  (48, .invokestatic 251, 131, 2, 0, 405, 0, []),
  (51, .istore_n 2, 0, 0, 0, 0, 0, []),
  (52, .iinc 3 1, 0, 0, 0, 0, 1, []),
  (55, .goto (-50), 5, 0, 0, 0, 0, []),
  (58, .iload_n 2, 0, 0, 0, 0, 0, []),
  (59, .ireturn, 0, 0, 0, 0, 0, [])])
def m_Late_tellAllDue : rv_M := (yX10_tellAllDue, cX10_tellAllDue, 4, none, RX10, 4, 83, (411, 51, 410, 4), [
  (0, .iconst 0, 0, 0, 0, 0, 0, []),
  (1, .istore_n 2, 0, 0, 0, 0, 0, []),
  (2, .iload_n 2, 0, 0, 0, 0, 0, []),
  (3, .bipush 120, 0, 0, 0, 0, 120, []),
  (5, .if_icmp .ge 35, 40, 0, 0, 0, 0, []),
  (8, .aload_n 0, 0, 0, 0, 0, 0, []),
  (9, .getfield 38, 10, 5, 0, 252, 0, []),
  (12, .aload_n 0, 0, 0, 0, 0, 0, []),
  (13, .getfield 38, 10, 5, 0, 252, 0, []),
  (16, .aload_n 1, 0, 0, 0, 0, 0, []),
  (17, .invokevirtual 257, 44, 1, 9, 412, 0, []),
  (20, .invokevirtual 260, 39, 1, 9, 424, 0, []),
  (23, .astore_n 3, 0, 0, 0, 0, 0, []),
  (24, .aload_n 3, 0, 0, 0, 0, 0, []),
  (25, .ifnonnull 4, 29, 0, 0, 0, 0, []),
  (28, .return_, 0, 0, 0, 0, 0, []),
  (29, .aload_n 0, 0, 0, 0, 0, 0, []),
  (30, .aload_n 3, 0, 0, 0, 0, 0, []),
  (31, .invokevirtual 264, 74, 1, 10, 428, 0, []),
  (34, .iinc 2 1, 0, 0, 0, 0, 1, []),
  (37, .goto (-35), 2, 0, 0, 0, 0, []),
  (40, .return_, 0, 0, 0, 0, 0, [])])
def m_Late_letClosedGo : rv_M := (yX10_letClosedGo, cX10_letClosedGo, 5, none, RX10, 4, 83, (455, 51, 454, 8), [
  (0, .iconst 0, 0, 0, 0, 0, 0, []),
  (1, .istore_n 2, 0, 0, 0, 0, 0, []),
  (2, .iload_n 2, 0, 0, 0, 0, 0, []),
  (3, .bipush 120, 0, 0, 0, 0, 120, []),
  (5, .if_icmp .ge 56, 61, 0, 0, 0, 0, []),
  (8, .aload_n 0, 0, 0, 0, 0, 0, []),
  (9, .getfield 38, 10, 5, 0, 252, 0, []),
  (12, .aload_n 1, 0, 0, 0, 0, 0, []),
  (13, .invokevirtual 268, 45, 1, 9, 456, 0, []),
  (16, .istore_n 3, 0, 0, 0, 0, 0, []),
  (17, .aload_n 0, 0, 0, 0, 0, 0, []),
  (18, .getfield 38, 10, 5, 0, 252, 0, []),
  (21, .iload_n 3, 0, 0, 0, 0, 0, []),
  (22, .invokevirtual 260, 39, 1, 9, 424, 0, []),
  (25, .astore 4, 0, 0, 0, 0, 0, []),
  (27, .aload 4, 0, 0, 0, 0, 0, []),
  (29, .ifnonnull 4, 33, 0, 0, 0, 0, []),
  (32, .return_, 0, 0, 0, 0, 0, []),
  (33, .aload 4, 0, 0, 0, 0, 0, []),
  (35, .getfield 271, 8, 5, 0, 146, 0, []),
  (38, .ifCond .eq 9, 47, 0, 0, 0, 0, []),
  (41, .aload_n 0, 0, 0, 0, 0, 0, []),
  (42, .aload 4, 0, 0, 0, 0, 0, []),
  (44, .invokevirtual 264, 74, 1, 10, 428, 0, []),
  (47, .aload_n 0, 0, 0, 0, 0, 0, []),
  (48, .getfield 38, 10, 5, 0, 252, 0, []),
  (51, .iload_n 3, 0, 0, 0, 0, 0, []),
  (52, .invokevirtual 274, 43, 1, 9, 464, 0, []),
  (55, .iinc 2 1, 0, 0, 0, 0, 1, []),
  (58, .goto (-56), 2, 0, 0, 0, 0, []),
  (61, .return_, 0, 0, 0, 0, 0, [])])
def m_Late_tell : rv_M := (yX10_tell, cX10_tell, 2, none, RX10, 3, 62, (431, 51, 430, 6), [
  (0, .aload_n 1, 0, 0, 0, 0, 0, []),
  (1, .getfield 200, 8, 4, 0, 144, 0, []),
  (4, .ifCond .eq 9, 13, 0, 0, 0, 0, []),
  (7, .aload_n 0, 0, 0, 0, 0, 0, []),
  (8, .iconst (-1), 0, 0, 0, 0, (-1), []),
  (9, .aload_n 1, 0, 0, 0, 0, 0, []),
  (10, .invokevirtual 278, 75, 2, 10, 432, 0, []),
  (13, .aload_n 1, 0, 0, 0, 0, 0, []),
  (14, .getfield 282, 8, 7, 0, 150, 0, []),
  (17, .aload_n 1, 0, 0, 0, 0, 0, []),
  (18, .getfield 203, 8, 6, 0, 148, 0, []),
  (21, .invokevirtual 285, 31, 1, 7, 448, 0, []),
  (24, .aload_n 1, 0, 0, 0, 0, 0, []),
  (25, .iconst 1, 0, 0, 0, 0, 1, []),
  (26, .putfield 200, 8, 4, 0, 144, 0, []),
  (29, .aload_n 1, 0, 0, 0, 0, 0, []),
  (30, .iconst 0, 0, 0, 0, 0, 0, []),
  (31, .putfield 271, 8, 5, 0, 146, 0, []),
  (34, .aload_n 0, 0, 0, 0, 0, 0, []),
  (35, .iconst 1, 0, 0, 0, 0, 1, []),
  (36, .aload_n 1, 0, 0, 0, 0, 0, []),
  (37, .invokevirtual 278, 75, 2, 10, 432, 0, []),
  (40, .return_, 0, 0, 0, 0, 0, [])])
def m_Late_keepResult : rv_M := (yX10_keepResult, cX10_keepResult, 3, none, RX10, 2, 40, (435, 51, 434, 7), [
  (0, .aload_n 0, 0, 0, 0, 0, 0, []),
  (1, .getfield 54, 10, 7, 0, 254, 0, []),
  (4, .invokevirtual 289, 17, 0, 3, 436, 0, []),
  (7, .aload_n 0, 0, 0, 0, 0, 0, []),
  (8, .getfield 54, 10, 7, 0, 254, 0, []),
  (11, .iconst 0, 0, 0, 0, 0, 0, []),
  (12, .iload_n 1, 0, 0, 0, 0, 0, []),
  (13, .i2l, 0, 0, 0, 0, 0, []),
  (14, .invokevirtual 292, 18, 2, 3, 444, 0, []),
  (17, .aload_n 0, 0, 0, 0, 0, 0, []),
  (18, .getfield 54, 10, 7, 0, 254, 0, []),
  (21, .iconst 1, 0, 0, 0, 0, 1, []),
  (22, .aload_n 2, 0, 0, 0, 0, 0, []),
  (23, .getfield 296, 8, 0, 0, 130, 0, []),
  (26, .i2l, 0, 0, 0, 0, 0, []),
  (27, .invokevirtual 292, 18, 2, 3, 444, 0, []),
  (30, .aload_n 0, 0, 0, 0, 0, 0, []),
  (31, .getfield 54, 10, 7, 0, 254, 0, []),
  (34, .iconst 2, 0, 0, 0, 0, 2, []),
  (35, .aload_n 2, 0, 0, 0, 0, 0, []),
  (36, .getfield 299, 8, 1, 0, 132, 0, []),
  (39, .i2l, 0, 0, 0, 0, 0, []),
  (40, .invokevirtual 292, 18, 2, 3, 444, 0, []),
  (43, .aload_n 0, 0, 0, 0, 0, 0, []),
  (44, .getfield 54, 10, 7, 0, 254, 0, []),
  (47, .iconst 3, 0, 0, 0, 0, 3, []),
  (48, .aload_n 2, 0, 0, 0, 0, 0, []),
  (49, .getfield 192, 8, 2, 0, 136, 0, []),
  (52, .i2l, 0, 0, 0, 0, 0, []),
  (53, .invokevirtual 292, 18, 2, 3, 444, 0, []),
  (56, .aload_n 0, 0, 0, 0, 0, 0, []),
  (57, .getfield 54, 10, 7, 0, 254, 0, []),
  (60, .iconst 4, 0, 0, 0, 0, 4, []),
  (61, .aload_n 2, 0, 0, 0, 0, 0, []),
  (62, .getfield 197, 8, 3, 0, 140, 0, []),
  (65, .i2l, 0, 0, 0, 0, 0, []),
  (66, .invokevirtual 292, 18, 2, 3, 444, 0, []),
  (69, .aload_n 0, 0, 0, 0, 0, 0, []),
  (70, .getfield 54, 10, 7, 0, 254, 0, []),
  (73, .iconst 5, 0, 0, 0, 0, 5, []),
  (74, .aload_n 2, 0, 0, 0, 0, 0, []),
  (75, .getfield 282, 8, 7, 0, 150, 0, []),
  (78, .getfield 207, 7, 0, 0, 112, 0, []),
  (81, .i2l, 0, 0, 0, 0, 0, []),
  (82, .invokevirtual 292, 18, 2, 3, 444, 0, []),
  (85, .aload_n 0, 0, 0, 0, 0, 0, []),
  (86, .getfield 54, 10, 7, 0, 254, 0, []),
  (89, .bipush 6, 0, 0, 0, 0, 6, []),
  (91, .aload_n 2, 0, 0, 0, 0, 0, []),
  (92, .getfield 282, 8, 7, 0, 150, 0, []),
  (95, .getfield 212, 7, 1, 0, 114, 0, []),
  (98, .invokevirtual 292, 18, 2, 3, 444, 0, []),
  (101, .aload_n 0, 0, 0, 0, 0, 0, []),
  (102, .getfield 54, 10, 7, 0, 254, 0, []),
  (105, .bipush 7, 0, 0, 0, 0, 7, []),
  (107, .aload_n 2, 0, 0, 0, 0, 0, []),
  (108, .getfield 282, 8, 7, 0, 150, 0, []),
  (111, .getfield 216, 7, 2, 0, 116, 0, []),
  (114, .i2l, 0, 0, 0, 0, 0, []),
  (115, .invokevirtual 292, 18, 2, 3, 444, 0, []),
  (118, .aload_n 0, 0, 0, 0, 0, 0, []),
  (119, .getfield 54, 10, 7, 0, 254, 0, []),
  (122, .bipush 8, 0, 0, 0, 0, 8, []),
  (124, .aload_n 2, 0, 0, 0, 0, 0, []),
  (125, .getfield 282, 8, 7, 0, 150, 0, []),
  (128, .getfield 219, 7, 3, 0, 118, 0, []),
  (131, .i2l, 0, 0, 0, 0, 0, []),
  (132, .invokevirtual 292, 18, 2, 3, 444, 0, []),
  (135, .aload_n 0, 0, 0, 0, 0, 0, []),
  (136, .dup, 0, 0, 0, 0, 0, []),
  (137, .getfield 58, 10, 8, 0, 255, 0, []),
  (140, .iconst 1, 0, 0, 0, 0, 1, []),
  (141, .iadd, 0, 0, 0, 0, 0, []),
  (142, .putfield 58, 10, 8, 0, 255, 0, []),
  (145, .return_, 0, 0, 0, 0, 0, [])])
def m_Late_judge : rv_M := (yX10_judge, cX10_judge, 3, some .int, RX10, 3, 69, (507, 51, 506, 10), [
  (0, .aload_n 1, 0, 0, 0, 0, 0, []),
  (1, .getfield 126, 2, 1, 0, 308, 0, []),
  (4, .iconst 2, 0, 0, 0, 0, 2, []),
  (5, .if_icmp .ne 11, 16, 0, 0, 0, 0, []),
  (8, .aload_n 0, 0, 0, 0, 0, 0, []),
  (9, .aload_n 1, 0, 0, 0, 0, 0, []),
  (10, .invokevirtual 302, 77, 1, 10, 508, 0, []),
  (13, .goto 8, 21, 0, 0, 0, 0, []),
  (16, .aload_n 1, 0, 0, 0, 0, 0, []),
  (17, .iload_n 2, 0, 0, 0, 0, 0, []),
  (18, .invokestatic 305, 78, 2, 0, 514, 0, []),
  (21, .ireturn, 0, 0, 0, 0, 0, [])])
def m_Late_judgeInGaps : rv_M := (yX10_judgeInGaps, cX10_judgeInGaps, 3, some .int, RX10, 1, 21, (511, 51, 510, 11), [
  (0, .aload_n 1, 0, 0, 0, 0, 0, []),
  (1, .aload_n 0, 0, 0, 0, 0, 0, []),
  (2, .getfield 45, 10, 6, 0, 253, 0, []),
  (5, .getfield 308, 0, 3, 0, 189, 0, []),
  (8, .invokevirtual 309, 14, 1, 2, 512, 0, []),
  (11, .ifCond .eq 5, 16, 0, 0, 0, 0, []),
  (14, .iconst 1, 0, 0, 0, 0, 1, []),
  (15, .ireturn, 0, 0, 0, 0, 0, []),
  (16, .aload_n 1, 0, 0, 0, 0, 0, []),
  (17, .aload_n 0, 0, 0, 0, 0, 0, []),
  (18, .getfield 45, 10, 6, 0, 253, 0, []),
  (21, .getfield 308, 0, 3, 0, 189, 0, []),
  (24, .invokevirtual 313, 13, 1, 2, 513, 0, []),
  (27, .ifCond .ne 13, 40, 0, 0, 0, 0, []),
  (30, .aload_n 0, 0, 0, 0, 0, 0, []),
  (31, .getfield 45, 10, 6, 0, 253, 0, []),
  (34, .getfield 316, 0, 4, 0, 191, 0, []),
  (37, .ifCond .eq 7, 44, 0, 0, 0, 0, []),
  (40, .iconst 1, 0, 0, 0, 0, 1, []),
  (41, .goto 4, 45, 0, 0, 0, 0, []),
  (44, .iconst 0, 0, 0, 0, 0, 0, []),
  (45, .istore_n 2, 0, 0, 0, 0, 0, []),
  (46, .iload_n 2, 0, 0, 0, 0, 0, []),
  (47, .ifCond .eq 15, 62, 0, 0, 0, 0, []),
  (50, .aload_n 1, 0, 0, 0, 0, 0, []),
  (51, .getfield 317, 2, 5, 0, 318, 0, []),
  (54, .iconst 2, 0, 0, 0, 0, 2, []),
  (55, .if_icmp .ne 7, 62, 0, 0, 0, 0, []),
  (58, .iconst 2, 0, 0, 0, 0, 2, []),
  (59, .goto 4, 63, 0, 0, 0, 0, []),
  (62, .iconst 0, 0, 0, 0, 0, 0, []),
  (63, .ireturn, 0, 0, 0, 0, 0, [])])
def m_Late_judgeInGrid : rv_M := (yX10_judgeInGrid, cX10_judgeInGrid, 7, some .int, RX10, 2, 43, (516, 51, 515, 0), [
  (0, .iconst 1, 0, 0, 0, 0, 1, []),
  (1, .istore_n 2, 0, 0, 0, 0, 0, []),
  (2, .iconst 0, 0, 0, 0, 0, 0, []),
  (3, .istore_n 3, 0, 0, 0, 0, 0, []),
  (4, .aload_n 0, 0, 0, 0, 0, 0, []),
  (5, .iload_n 1, 0, 0, 0, 0, 0, []),
  (6, .invokevirtual 320, 15, 1, 2, 517, 0, []),
  (9, .istore 4, 0, 0, 0, 0, 0, []),
  (11, .iconst 0, 0, 0, 0, 0, 0, []),
  (12, .istore 5, 0, 0, 0, 0, 0, []),
  (14, .iload 5, 0, 0, 0, 0, 0, []),
  (16, .bipush 8, 0, 0, 0, 0, 8, []),
  (18, .if_icmp .ge 63, 81, 0, 0, 0, 0, []),
  (21, .iload 4, 0, 0, 0, 0, 0, []),
  (23, .iload_n 1, 0, 0, 0, 0, 0, []),
  (24, .if_icmp .gt 57, 81, 0, 0, 0, 0, []),
  (27, .iload 4, 0, 0, 0, 0, 0, []),
  (29, .aload_n 0, 0, 0, 0, 0, 0, []),
  (30, .getfield 324, 2, 2, 0, 312, 0, []),
  (33, .iadd, 0, 0, 0, 0, 0, []),
  (34, .istore 6, 0, 0, 0, 0, 0, []),
  (36, .aload_n 0, 0, 0, 0, 0, 0, []),
  (37, .iload 6, 0, 0, 0, 0, 0, []),
  (39, .invokevirtual 309, 14, 1, 2, 512, 0, []),
  (42, .ifCond .ne 24, 66, 0, 0, 0, 0, []),
  (45, .iconst 0, 0, 0, 0, 0, 0, []),
  (46, .istore_n 2, 0, 0, 0, 0, 0, []),
  (47, .iload_n 3, 0, 0, 0, 0, 0, []),
  (48, .ifCond .ne 12, 60, 0, 0, 0, 0, []),
  (51, .aload_n 0, 0, 0, 0, 0, 0, []),
  (52, .iload 6, 0, 0, 0, 0, 0, []),
  (54, .invokevirtual 313, 13, 1, 2, 513, 0, []),
  (57, .ifCond .eq 7, 64, 0, 0, 0, 0, []),
  (60, .iconst 1, 0, 0, 0, 0, 1, []),
  (61, .goto 4, 65, 0, 0, 0, 0, []),
  (64, .iconst 0, 0, 0, 0, 0, 0, []),
  (65, .istore_n 3, 0, 0, 0, 0, 0, []),
  (66, .iload 4, 0, 0, 0, 0, 0, []),
  (68, .aload_n 0, 0, 0, 0, 0, 0, []),
  (69, .getfield 325, 2, 3, 0, 315, 0, []),
  (72, .iadd, 0, 0, 0, 0, 0, []),
  (73, .istore 4, 0, 0, 0, 0, 0, []),
  (75, .iinc 5 1, 0, 0, 0, 0, 1, []),
  (78, .goto (-64), 14, 0, 0, 0, 0, []),
  (81, .iload_n 2, 0, 0, 0, 0, 0, []),
  (82, .ifCond .eq 5, 87, 0, 0, 0, 0, []),
  (85, .iconst 1, 0, 0, 0, 0, 1, []),
  (86, .ireturn, 0, 0, 0, 0, 0, []),
  (87, .iload_n 3, 0, 0, 0, 0, 0, []),
  (88, .ifCond .eq 15, 103, 0, 0, 0, 0, []),
  (91, .aload_n 0, 0, 0, 0, 0, 0, []),
  (92, .getfield 317, 2, 5, 0, 318, 0, []),
  (95, .iconst 2, 0, 0, 0, 0, 2, []),
  (96, .if_icmp .ne 7, 103, 0, 0, 0, 0, []),
  (99, .iconst 2, 0, 0, 0, 0, 2, []),
  (100, .goto 4, 104, 0, 0, 0, 0, []),
  (103, .iconst 0, 0, 0, 0, 0, 0, []),
  (104, .ireturn, 0, 0, 0, 0, 0, [])])
def m_Late_layAside : rv_M := (yX10_layAside, cX10_layAside, 7, some .int, RX10, 3, 71, (527, 51, 526, 12), [
  (0, .aload_n 0, 0, 0, 0, 0, 0, []),
  (1, .getfield 61, 10, 9, 0, 256, 0, []),
  (4, .getfield 166, 3, 5, 0, 218, 0, []),
  (7, .aload_n 0, 0, 0, 0, 0, 0, []),
  (8, .getfield 64, 10, 10, 0, 257, 0, []),
  (11, .if_icmp .lt 7, 18, 0, 0, 0, 0, []),
  (14, .iconst 1, 0, 0, 0, 0, 1, []),
  (15, .goto 4, 19, 0, 0, 0, 0, []),
  (18, .iconst 0, 0, 0, 0, 0, 0, []),
  (19, .istore 6, 0, 0, 0, 0, 0, []),
  (21, .iload 6, 0, 0, 0, 0, 0, []),
  (23, .ifCond .eq 19, 42, 0, 0, 0, 0, []),
  (26, .aload_n 0, 0, 0, 0, 0, 0, []),
  (27, .getfield 67, 10, 11, 0, 258, 0, []),
  (30, .iconst 1, 0, 0, 0, 0, 1, []),
  (31, .if_icmp .ne 11, 42, 0, 0, 0, 0, []),
  (34, .aload_n 1, 0, 0, 0, 0, 0, []),
  (35, .iconst 1, 0, 0, 0, 0, 1, []),
  (36, .putfield 120, 6, 4, 0, 360, 0, []),
  (39, .bipush (-2), 0, 0, 0, 0, (-2), []),
  (41, .ireturn, 0, 0, 0, 0, 0, []),
  (42, .aload_n 1, 0, 0, 0, 0, 0, []),
  (43, .iload_n 3, 0, 0, 0, 0, 0, []),
  (44, .iconst 0, 0, 0, 0, 0, 0, []),
  (45, .invokevirtual 146, 28, 2, 6, 528, 0, []),
  (48, .aload_n 0, 0, 0, 0, 0, 0, []),
  (49, .getfield 31, 10, 4, 0, 251, 0, []),
  (52, .aload_n 1, 0, 0, 0, 0, 0, []),
  (53, .iload_n 2, 0, 0, 0, 0, 0, []),
  (54, .iload_n 3, 0, 0, 0, 0, 0, []),
  (55, .iload 4, 0, 0, 0, 0, 0, []),
  (57, .iconst 0, 0, 0, 0, 0, 0, []),
  (58, .invokevirtual 150, 25, 5, 5, 532, 0, []),
  (61, .iload 6, 0, 0, 0, 0, 0, []),
  (63, .ifCond .eq 20, 83, 0, 0, 0, 0, []),
  (66, .aload_n 0, 0, 0, 0, 0, 0, []),
  (67, .dup, 0, 0, 0, 0, 0, []),
  (68, .getfield 70, 10, 12, 0, 259, 0, []),
  (71, .iconst 1, 0, 0, 0, 0, 1, []),
  (72, .iadd, 0, 0, 0, 0, 0, []),
  (73, .putfield 70, 10, 12, 0, 259, 0, []),
  (76, .aload_n 0, 0, 0, 0, 0, 0, []),
  (77, .getfield 61, 10, 9, 0, 256, 0, []),
  (80, .invokevirtual 328, 20, 0, 3, 566, 0, []),
  (83, .aload_n 0, 0, 0, 0, 0, 0, []),
  (84, .getfield 64, 10, 10, 0, 257, 0, []),
  (87, .ifCond .le 14, 101, 0, 0, 0, 0, []),
  (90, .aload_n 0, 0, 0, 0, 0, 0, []),
  (91, .aload_n 1, 0, 0, 0, 0, 0, []),
  (92, .iload_n 2, 0, 0, 0, 0, 0, []),
  (93, .iload_n 3, 0, 0, 0, 0, 0, []),
  (94, .iload 4, 0, 0, 0, 0, 0, []),
  (96, .iload 5, 0, 0, 0, 0, 0, []),
  (98, .invokevirtual 331, 80, 5, 10, 567, 0, []),
  (101, .iconst 0, 0, 0, 0, 0, 0, []),
  (102, .ireturn, 0, 0, 0, 0, 0, [])])
def m_Late_keepAside : rv_M := (yX10_keepAside, cX10_keepAside, 6, none, RX10, 2, 40, (570, 51, 569, 13), [
  (0, .aload_n 0, 0, 0, 0, 0, 0, []),
  (1, .getfield 61, 10, 9, 0, 256, 0, []),
  (4, .invokevirtual 289, 17, 0, 3, 436, 0, []),
  (7, .aload_n 0, 0, 0, 0, 0, 0, []),
  (8, .getfield 61, 10, 9, 0, 256, 0, []),
  (11, .iconst 0, 0, 0, 0, 0, 0, []),
  (12, .aload_n 1, 0, 0, 0, 0, 0, []),
  (13, .getfield 335, 6, 0, 0, 352, 0, []),
  (16, .i2l, 0, 0, 0, 0, 0, []),
  (17, .invokevirtual 292, 18, 2, 3, 444, 0, []),
  (20, .aload_n 0, 0, 0, 0, 0, 0, []),
  (21, .getfield 61, 10, 9, 0, 256, 0, []),
  (24, .iconst 1, 0, 0, 0, 0, 1, []),
  (25, .iload_n 2, 0, 0, 0, 0, 0, []),
  (26, .i2l, 0, 0, 0, 0, 0, []),
  (27, .invokevirtual 292, 18, 2, 3, 444, 0, []),
  (30, .aload_n 0, 0, 0, 0, 0, 0, []),
  (31, .getfield 61, 10, 9, 0, 256, 0, []),
  (34, .iconst 2, 0, 0, 0, 0, 2, []),
  (35, .iload_n 3, 0, 0, 0, 0, 0, []),
  (36, .i2l, 0, 0, 0, 0, 0, []),
  (37, .invokevirtual 292, 18, 2, 3, 444, 0, []),
  (40, .aload_n 0, 0, 0, 0, 0, 0, []),
  (41, .getfield 61, 10, 9, 0, 256, 0, []),
  (44, .iconst 3, 0, 0, 0, 0, 3, []),
  (45, .iload 4, 0, 0, 0, 0, 0, []),
  (47, .i2l, 0, 0, 0, 0, 0, []),
  (48, .invokevirtual 292, 18, 2, 3, 444, 0, []),
  (51, .aload_n 0, 0, 0, 0, 0, 0, []),
  (52, .getfield 61, 10, 9, 0, 256, 0, []),
  (55, .iconst 4, 0, 0, 0, 0, 4, []),
  (56, .iload 5, 0, 0, 0, 0, 0, []),
  (58, .i2l, 0, 0, 0, 0, 0, []),
  (59, .invokevirtual 292, 18, 2, 3, 444, 0, []),
  (62, .return_, 0, 0, 0, 0, 0, [])])
def m_Late_countNewWindows : rv_M := (yX10_countNewWindows, cX10_countNewWindows, 7, some .int, RX10, 3, 73, (574, 51, 573, 14), [
  (0, .aload_n 1, 0, 0, 0, 0, 0, []),
  (1, .getfield 126, 2, 1, 0, 308, 0, []),
  (4, .iconst 2, 0, 0, 0, 0, 2, []),
  (5, .if_icmp .ne 13, 18, 0, 0, 0, 0, []),
  (8, .iconst 1, 0, 0, 0, 0, 1, []),
  (9, .aload_n 0, 0, 0, 0, 0, 0, []),
  (10, .getfield 45, 10, 6, 0, 253, 0, []),
  (13, .getfield 336, 0, 1, 0, 185, 0, []),
  (16, .isub, 0, 0, 0, 0, 0, []),
  (17, .ireturn, 0, 0, 0, 0, 0, []),
  (18, .iconst 0, 0, 0, 0, 0, 0, []),
  (19, .istore 4, 0, 0, 0, 0, 0, []),
  (21, .aload_n 1, 0, 0, 0, 0, 0, []),
  (22, .iload_n 3, 0, 0, 0, 0, 0, []),
  (23, .invokevirtual 320, 15, 1, 2, 517, 0, []),
  (26, .istore 5, 0, 0, 0, 0, 0, []),
  (28, .iconst 0, 0, 0, 0, 0, 0, []),
  (29, .istore 6, 0, 0, 0, 0, 0, []),
  (31, .iload 6, 0, 0, 0, 0, 0, []),
  (33, .bipush 8, 0, 0, 0, 0, 8, []),
  (35, .if_icmp .ge 58, 93, 0, 0, 0, 0, []),
  (38, .iload 5, 0, 0, 0, 0, 0, []),
  (40, .iload_n 3, 0, 0, 0, 0, 0, []),
  (41, .if_icmp .gt 52, 93, 0, 0, 0, 0, []),
  (44, .aload_n 1, 0, 0, 0, 0, 0, []),
  (45, .iload 5, 0, 0, 0, 0, 0, []),
  (47, .aload_n 1, 0, 0, 0, 0, 0, []),
  (48, .getfield 324, 2, 2, 0, 312, 0, []),
  (51, .iadd, 0, 0, 0, 0, 0, []),
  (52, .invokevirtual 309, 14, 1, 2, 512, 0, []),
  (55, .ifCond .ne 23, 78, 0, 0, 0, 0, []),
  (58, .aload_n 0, 0, 0, 0, 0, 0, []),
  (59, .getfield 38, 10, 5, 0, 252, 0, []),
  (62, .aload_n 1, 0, 0, 0, 0, 0, []),
  (63, .getfield 171, 2, 0, 0, 305, 0, []),
  (66, .iload_n 2, 0, 0, 0, 0, 0, []),
  (67, .iload 5, 0, 0, 0, 0, 0, []),
  (69, .invokevirtual 337, 41, 3, 9, 575, 0, []),
  (72, .ifCond .ne 6, 78, 0, 0, 0, 0, []),
  (75, .iinc 4 1, 0, 0, 0, 0, 1, []),
  (78, .iload 5, 0, 0, 0, 0, 0, []),
  (80, .aload_n 1, 0, 0, 0, 0, 0, []),
  (81, .getfield 325, 2, 3, 0, 315, 0, []),
  (84, .iadd, 0, 0, 0, 0, 0, []),
  (85, .istore 5, 0, 0, 0, 0, 0, []),
  (87, .iinc 6 1, 0, 0, 0, 0, 1, []),
  (90, .goto (-59), 31, 0, 0, 0, 0, []),
  (93, .iload 4, 0, 0, 0, 0, 0, []),
  (95, .ireturn, 0, 0, 0, 0, 0, [])])
def m_Late_useInGrid : rv_M := (yX10_useInGrid, cX10_useInGrid, 8, none, RX10, 5, 106, (628, 51, 627, 21), [
  (0, .aload_n 1, 0, 0, 0, 0, 0, []),
  (1, .iload_n 3, 0, 0, 0, 0, 0, []),
  (2, .invokevirtual 320, 15, 1, 2, 517, 0, []),
  (5, .istore 5, 0, 0, 0, 0, 0, []),
  (7, .iconst 0, 0, 0, 0, 0, 0, []),
  (8, .istore 6, 0, 0, 0, 0, 0, []),
  (10, .iload 6, 0, 0, 0, 0, 0, []),
  (12, .bipush 8, 0, 0, 0, 0, 8, []),
  (14, .if_icmp .ge 65, 79, 0, 0, 0, 0, []),
  (17, .iload 5, 0, 0, 0, 0, 0, []),
  (19, .iload_n 3, 0, 0, 0, 0, 0, []),
  (20, .if_icmp .gt 59, 79, 0, 0, 0, 0, []),
  (23, .iload 5, 0, 0, 0, 0, 0, []),
  (25, .aload_n 1, 0, 0, 0, 0, 0, []),
  (26, .getfield 324, 2, 2, 0, 312, 0, []),
  (29, .iadd, 0, 0, 0, 0, 0, []),
  (30, .istore 7, 0, 0, 0, 0, 0, []),
  (32, .aload_n 1, 0, 0, 0, 0, 0, []),
  (33, .iload 7, 0, 0, 0, 0, 0, []),
  (35, .invokevirtual 309, 14, 1, 2, 512, 0, []),
  (38, .ifCond .ne 26, 64, 0, 0, 0, 0, []),
  (41, .aload_n 0, 0, 0, 0, 0, 0, []),
  (42, .aload_n 1, 0, 0, 0, 0, 0, []),
  (43, .aload_n 0, 0, 0, 0, 0, 0, []),
  (44, .getfield 38, 10, 5, 0, 252, 0, []),
  (47, .aload_n 1, 0, 0, 0, 0, 0, []),
  (48, .getfield 171, 2, 0, 0, 305, 0, []),
  (51, .iload_n 2, 0, 0, 0, 0, 0, []),
  (52, .iload 5, 0, 0, 0, 0, 0, []),
  (54, .iload 7, 0, 0, 0, 0, 0, []),
  (56, .invokevirtual 339, 42, 4, 9, 587, 0, []),
  (59, .iload 4, 0, 0, 0, 0, 0, []),
  (61, .invokevirtual 343, 86, 3, 10, 603, 0, []),
  (64, .iload 5, 0, 0, 0, 0, 0, []),
  (66, .aload_n 1, 0, 0, 0, 0, 0, []),
  (67, .getfield 325, 2, 3, 0, 315, 0, []),
  (70, .iadd, 0, 0, 0, 0, 0, []),
  (71, .istore 5, 0, 0, 0, 0, 0, []),
  (73, .iinc 6 1, 0, 0, 0, 0, 1, []),
  (76, .goto (-66), 10, 0, 0, 0, 0, []),
  (79, .return_, 0, 0, 0, 0, 0, [])])
def m_Late_useInGaps : rv_M := (yX10_useInGaps, cX10_useInGaps, 5, none, RX10, 5, 106, (586, 51, 585, 16), [
  (0, .aload_n 0, 0, 0, 0, 0, 0, []),
  (1, .getfield 38, 10, 5, 0, 252, 0, []),
  (4, .aload_n 0, 0, 0, 0, 0, 0, []),
  (5, .getfield 45, 10, 6, 0, 253, 0, []),
  (8, .getfield 347, 0, 0, 0, 183, 0, []),
  (11, .invokevirtual 260, 39, 1, 9, 424, 0, []),
  (14, .astore 4, 0, 0, 0, 0, 0, []),
  (16, .aload_n 0, 0, 0, 0, 0, 0, []),
  (17, .getfield 45, 10, 6, 0, 253, 0, []),
  (20, .getfield 336, 0, 1, 0, 185, 0, []),
  (23, .ifCond .eq 8, 31, 0, 0, 0, 0, []),
  (26, .aload 4, 0, 0, 0, 0, 0, []),
  (28, .ifnonnull 36, 64, 0, 0, 0, 0, []),
  (31, .aload_n 0, 0, 0, 0, 0, 0, []),
  (32, .aload_n 1, 0, 0, 0, 0, 0, []),
  (33, .aload_n 0, 0, 0, 0, 0, 0, []),
  (34, .getfield 38, 10, 5, 0, 252, 0, []),
  (37, .aload_n 1, 0, 0, 0, 0, 0, []),
  (38, .getfield 171, 2, 0, 0, 305, 0, []),
  (41, .iload_n 2, 0, 0, 0, 0, 0, []),
  (42, .aload_n 0, 0, 0, 0, 0, 0, []),
  (43, .getfield 45, 10, 6, 0, 253, 0, []),
  (46, .getfield 350, 0, 2, 0, 187, 0, []),
  (49, .aload_n 0, 0, 0, 0, 0, 0, []),
  (50, .getfield 45, 10, 6, 0, 253, 0, []),
  (53, .getfield 308, 0, 3, 0, 189, 0, []),
  (56, .invokevirtual 339, 42, 4, 9, 587, 0, []),
  (59, .iload_n 3, 0, 0, 0, 0, 0, []),
  (60, .invokevirtual 343, 86, 3, 10, 603, 0, []),
  (63, .return_, 0, 0, 0, 0, 0, []),
  (64, .aload 4, 0, 0, 0, 0, 0, []),
  (66, .getfield 192, 8, 2, 0, 136, 0, []),
  (69, .aload_n 0, 0, 0, 0, 0, 0, []),
  (70, .getfield 45, 10, 6, 0, 253, 0, []),
  (73, .getfield 350, 0, 2, 0, 187, 0, []),
  (76, .if_icmp .ne 18, 94, 0, 0, 0, 0, []),
  (79, .aload 4, 0, 0, 0, 0, 0, []),
  (81, .getfield 197, 8, 3, 0, 140, 0, []),
  (84, .aload_n 0, 0, 0, 0, 0, 0, []),
  (85, .getfield 45, 10, 6, 0, 253, 0, []),
  (88, .getfield 308, 0, 3, 0, 189, 0, []),
  (91, .if_icmp .eq 13, 104, 0, 0, 0, 0, []),
  (94, .aload_n 0, 0, 0, 0, 0, 0, []),
  (95, .invokevirtual 351, 84, 0, 10, 613, 0, []),
  (98, .aload_n 0, 0, 0, 0, 0, 0, []),
  (99, .aload 4, 0, 0, 0, 0, 0, []),
  (101, .invokevirtual 354, 85, 1, 10, 617, 0, []),
  (104, .aload_n 0, 0, 0, 0, 0, 0, []),
  (105, .aload_n 1, 0, 0, 0, 0, 0, []),
  (106, .aload 4, 0, 0, 0, 0, 0, []),
  (108, .iload_n 3, 0, 0, 0, 0, 0, []),
  (109, .invokevirtual 343, 86, 3, 10, 603, 0, []),
  (112, .return_, 0, 0, 0, 0, 0, [])])
def m_Late_takeBackJoined : rv_M := (yX10_takeBackJoined, cX10_takeBackJoined, 3, none, RX10, 3, 62, (616, 51, 615, 19), [
  (0, .iconst 0, 0, 0, 0, 0, 0, []),
  (1, .istore_n 1, 0, 0, 0, 0, 0, []),
  (2, .iload_n 1, 0, 0, 0, 0, 0, []),
  (3, .aload_n 0, 0, 0, 0, 0, 0, []),
  (4, .getfield 45, 10, 6, 0, 253, 0, []),
  (7, .getfield 336, 0, 1, 0, 185, 0, []),
  (10, .if_icmp .ge 43, 53, 0, 0, 0, 0, []),
  (13, .aload_n 0, 0, 0, 0, 0, 0, []),
  (14, .getfield 38, 10, 5, 0, 252, 0, []),
  (17, .aload_n 0, 0, 0, 0, 0, 0, []),
  (18, .getfield 45, 10, 6, 0, 253, 0, []),
  (21, .getfield 347, 0, 0, 0, 183, 0, []),
  (24, .iload_n 1, 0, 0, 0, 0, 0, []),
  (25, .iadd, 0, 0, 0, 0, 0, []),
  (26, .invokevirtual 260, 39, 1, 9, 424, 0, []),
  (29, .astore_n 2, 0, 0, 0, 0, 0, []),
  (30, .aload_n 2, 0, 0, 0, 0, 0, []),
  (31, .ifnull 16, 47, 0, 0, 0, 0, []),
  (34, .aload_n 2, 0, 0, 0, 0, 0, []),
  (35, .getfield 200, 8, 4, 0, 144, 0, []),
  (38, .ifCond .eq 9, 47, 0, 0, 0, 0, []),
  (41, .aload_n 0, 0, 0, 0, 0, 0, []),
  (42, .iconst (-1), 0, 0, 0, 0, (-1), []),
  (43, .aload_n 2, 0, 0, 0, 0, 0, []),
  (44, .invokevirtual 278, 75, 2, 10, 432, 0, []),
  (47, .iinc 1 1, 0, 0, 0, 0, 1, []),
  (50, .goto (-48), 2, 0, 0, 0, 0, []),
  (53, .return_, 0, 0, 0, 0, 0, [])])
def m_Late_mergeJoined : rv_M := (yX10_mergeJoined, cX10_mergeJoined, 4, none, RX10, 2, 44, (620, 51, 619, 20), [
  (0, .aload_n 0, 0, 0, 0, 0, 0, []),
  (1, .getfield 45, 10, 6, 0, 253, 0, []),
  (4, .getfield 336, 0, 1, 0, 185, 0, []),
  (7, .iconst 1, 0, 0, 0, 0, 1, []),
  (8, .isub, 0, 0, 0, 0, 0, []),
  (9, .istore_n 2, 0, 0, 0, 0, 0, []),
  (10, .iload_n 2, 0, 0, 0, 0, 0, []),
  (11, .ifCond .le 57, 68, 0, 0, 0, 0, []),
  (14, .aload_n 0, 0, 0, 0, 0, 0, []),
  (15, .getfield 38, 10, 5, 0, 252, 0, []),
  (18, .aload_n 0, 0, 0, 0, 0, 0, []),
  (19, .getfield 45, 10, 6, 0, 253, 0, []),
  (22, .getfield 347, 0, 0, 0, 183, 0, []),
  (25, .iload_n 2, 0, 0, 0, 0, 0, []),
  (26, .iadd, 0, 0, 0, 0, 0, []),
  (27, .invokevirtual 260, 39, 1, 9, 424, 0, []),
  (30, .astore_n 3, 0, 0, 0, 0, 0, []),
  (31, .aload_n 3, 0, 0, 0, 0, 0, []),
  (32, .ifnull 30, 62, 0, 0, 0, 0, []),
  (35, .aload_n 1, 0, 0, 0, 0, 0, []),
  (36, .getfield 203, 8, 6, 0, 148, 0, []),
  (39, .aload_n 3, 0, 0, 0, 0, 0, []),
  (40, .getfield 203, 8, 6, 0, 148, 0, []),
  (43, .invokevirtual 357, 33, 1, 7, 621, 0, []),
  (46, .aload_n 0, 0, 0, 0, 0, 0, []),
  (47, .getfield 38, 10, 5, 0, 252, 0, []),
  (50, .aload_n 0, 0, 0, 0, 0, 0, []),
  (51, .getfield 45, 10, 6, 0, 253, 0, []),
  (54, .getfield 347, 0, 0, 0, 183, 0, []),
  (57, .iload_n 2, 0, 0, 0, 0, 0, []),
  (58, .iadd, 0, 0, 0, 0, 0, []),
  (59, .invokevirtual 274, 43, 1, 9, 464, 0, []),
  (62, .iinc 2 (-1), 0, 0, 0, 0, (-1), []),
  (65, .goto (-55), 10, 0, 0, 0, 0, []),
  (68, .aload_n 1, 0, 0, 0, 0, 0, []),
  (69, .aload_n 0, 0, 0, 0, 0, 0, []),
  (70, .getfield 45, 10, 6, 0, 253, 0, []),
  (73, .getfield 350, 0, 2, 0, 187, 0, []),
  (76, .putfield 192, 8, 2, 0, 136, 0, []),
  (79, .aload_n 1, 0, 0, 0, 0, 0, []),
  (80, .aload_n 0, 0, 0, 0, 0, 0, []),
  (81, .getfield 45, 10, 6, 0, 253, 0, []),
  (84, .getfield 308, 0, 3, 0, 189, 0, []),
  (87, .putfield 197, 8, 3, 0, 140, 0, []),
  (90, .aload_n 1, 0, 0, 0, 0, 0, []),
  (91, .iconst 0, 0, 0, 0, 0, 0, []),
  (92, .putfield 200, 8, 4, 0, 144, 0, []),
  (95, .aload_n 1, 0, 0, 0, 0, 0, []),
  (96, .iconst 0, 0, 0, 0, 0, 0, []),
  (97, .putfield 271, 8, 5, 0, 146, 0, []),
  (100, .return_, 0, 0, 0, 0, 0, [])])
def m_Late_comeInto : rv_M := (yX10_comeInto, cX10_comeInto, 4, none, RX10, 4, 83, (606, 51, 605, 18), [
  (0, .aload_n 2, 0, 0, 0, 0, 0, []),
  (1, .ifnonnull 4, 5, 0, 0, 0, 0, []),
  (4, .return_, 0, 0, 0, 0, 0, []),
  (5, .aload_n 2, 0, 0, 0, 0, 0, []),
  (6, .getfield 203, 8, 6, 0, 148, 0, []),
  (9, .iload_n 3, 0, 0, 0, 0, 0, []),
  (10, .invokevirtual 360, 32, 1, 7, 607, 0, []),
  (13, .aload_n 2, 0, 0, 0, 0, 0, []),
  (14, .getfield 200, 8, 4, 0, 144, 0, []),
  (17, .ifCond .eq 19, 36, 0, 0, 0, 0, []),
  (20, .aload_n 1, 0, 0, 0, 0, 0, []),
  (21, .getfield 317, 2, 5, 0, 318, 0, []),
  (24, .iconst 1, 0, 0, 0, 0, 1, []),
  (25, .if_icmp .ne 11, 36, 0, 0, 0, 0, []),
  (28, .aload_n 2, 0, 0, 0, 0, 0, []),
  (29, .iconst 1, 0, 0, 0, 0, 1, []),
  (30, .putfield 271, 8, 5, 0, 146, 0, []),
  (33, .goto 19, 52, 0, 0, 0, 0, []),
  (36, .aload_n 1, 0, 0, 0, 0, 0, []),
  (37, .aload_n 2, 0, 0, 0, 0, 0, []),
  (38, .getfield 197, 8, 3, 0, 140, 0, []),
  (41, .invokevirtual 313, 13, 1, 2, 513, 0, []),
  (44, .ifCond .eq 8, 52, 0, 0, 0, 0, []),
  (47, .aload_n 0, 0, 0, 0, 0, 0, []),
  (48, .aload_n 2, 0, 0, 0, 0, 0, []),
  (49, .invokevirtual 264, 74, 1, 10, 428, 0, []),
  (52, .return_, 0, 0, 0, 0, 0, [])])
def m_Model_in : rv_M := (yX11_in, cX11_in, 3, some .boolean, RX11, 0, 0, (899, 60, 898, 0), [
  (0, .iload_n 0, 0, 0, 0, 0, 0, []),
  (1, .iload_n 1, 0, 0, 0, 0, 0, []),
  (2, .if_icmp .lt 12, 14, 0, 0, 0, 0, []),
  (5, .iload_n 0, 0, 0, 0, 0, 0, []),
  (6, .iload_n 2, 0, 0, 0, 0, 0, []),
  (7, .if_icmp .gt 7, 14, 0, 0, 0, 0, []),
  (10, .iconst 1, 0, 0, 0, 0, 1, []),
  (11, .goto 4, 15, 0, 0, 0, 0, []),
  (14, .iconst 0, 0, 0, 0, 0, 0, []),
  (15, .ireturn, 0, 0, 0, 0, 0, [])])
def m_Model_down : rv_M := (yX11_down, cX11_down, 3, some .int, RX11, 0, 0, (974, 60, 973, 0), [
  (0, .iload_n 0, 0, 0, 0, 0, 0, []),
  (1, .iload_n 1, 0, 0, 0, 0, 0, []),
  (2, .idiv, 0, 0, 0, 0, 0, []),
  (3, .istore_n 2, 0, 0, 0, 0, 0, []),
  (4, .iload_n 2, 0, 0, 0, 0, 0, []),
  (5, .iload_n 1, 0, 0, 0, 0, 0, []),
  (6, .imul, 0, 0, 0, 0, 0, []),
  (7, .iload_n 0, 0, 0, 0, 0, 0, []),
  (8, .if_icmp .le 9, 17, 0, 0, 0, 0, []),
  (11, .iload_n 2, 0, 0, 0, 0, 0, []),
  (12, .iconst 1, 0, 0, 0, 0, 1, []),
  (13, .isub, 0, 0, 0, 0, 0, []),
  (14, .goto 4, 18, 0, 0, 0, 0, []),
  (17, .iload_n 2, 0, 0, 0, 0, 0, []),
  (18, .ireturn, 0, 0, 0, 0, 0, [])])
def m_Model_init : rv_M := (yX11_init, cX11_init, 2, none, RX11, 1, 20, (734, 60, 733, 0), [
  (0, .aload_n 0, 0, 0, 0, 0, 0, []),
  (1, .invokespecial 1, 0, 0, 2, 735, 0, []),
  (4, .aload_n 0, 0, 0, 0, 0, 0, []),
  (5, .iconst 5, 0, 0, 0, 0, 5, []),
  (6, .newarray .int, 0, 0, 0, 891, 0, []),
  (8, .putfield 7, 11, 1, 0, 738, 0, []),
  (11, .aload_n 0, 0, 0, 0, 0, 0, []),
  (12, .iconst 5, 0, 0, 0, 0, 5, []),
  (13, .newarray .int, 0, 0, 0, 891, 0, []),
  (15, .putfield 13, 11, 2, 0, 739, 0, []),
  (18, .aload_n 0, 0, 0, 0, 0, 0, []),
  (19, .iconst 5, 0, 0, 0, 0, 5, []),
  (20, .newarray .int, 0, 0, 0, 891, 0, []),
  (22, .putfield 16, 11, 3, 0, 740, 0, []),
  (25, .aload_n 0, 0, 0, 0, 0, 0, []),
  (26, .iconst 5, 0, 0, 0, 0, 5, []),
  (27, .newarray .int, 0, 0, 0, 891, 0, []),
  (29, .putfield 19, 11, 4, 0, 741, 0, []),
  (32, .aload_n 0, 0, 0, 0, 0, 0, []),
  (33, .iconst 5, 0, 0, 0, 0, 5, []),
  (34, .newarray .int, 0, 0, 0, 891, 0, []),
  (36, .putfield 22, 11, 5, 0, 742, 0, []),
  (39, .aload_n 0, 0, 0, 0, 0, 0, []),
  (40, .iconst 5, 0, 0, 0, 0, 5, []),
  (41, .newarray .int, 0, 0, 0, 891, 0, []),
  (43, .putfield 25, 11, 6, 0, 743, 0, []),
  (46, .aload_n 0, 0, 0, 0, 0, 0, []),
  (47, .bipush 10, 0, 0, 0, 0, 10, []),
  (49, .newarray .int, 0, 0, 0, 891, 0, []),
  (51, .putfield 28, 11, 8, 0, 745, 0, []),
  (54, .aload_n 0, 0, 0, 0, 0, 0, []),
  (55, .bipush 10, 0, 0, 0, 0, 10, []),
  (57, .newarray .int, 0, 0, 0, 891, 0, []),
  (59, .putfield 31, 11, 9, 0, 746, 0, []),
  (62, .aload_n 0, 0, 0, 0, 0, 0, []),
  (63, .bipush 10, 0, 0, 0, 0, 10, []),
  (65, .newarray .boolean, 0, 0, 0, 892, 0, []),
  (67, .putfield 34, 11, 10, 0, 747, 0, []),
  (70, .aload_n 0, 0, 0, 0, 0, 0, []),
  (71, .bipush 10, 0, 0, 0, 0, 10, []),
  (73, .newarray .boolean, 0, 0, 0, 892, 0, []),
  (75, .putfield 38, 11, 11, 0, 748, 0, []),
  (78, .aload_n 0, 0, 0, 0, 0, 0, []),
  (79, .bipush 10, 0, 0, 0, 0, 10, []),
  (81, .newarray .int, 0, 0, 0, 891, 0, []),
  (83, .putfield 41, 11, 12, 0, 749, 0, []),
  (86, .aload_n 0, 0, 0, 0, 0, 0, []),
  (87, .bipush 10, 0, 0, 0, 0, 10, []),
  (89, .newarray .int, 0, 0, 0, 891, 0, []),
  (91, .putfield 44, 11, 13, 0, 750, 0, []),
  (94, .aload_n 0, 0, 0, 0, 0, 0, []),
  (95, .bipush 10, 0, 0, 0, 0, 10, []),
  (97, .newarray .int, 0, 0, 0, 891, 0, []),
  (99, .putfield 47, 11, 14, 0, 751, 0, []),
  (102, .aload_n 0, 0, 0, 0, 0, 0, []),
  (103, .bipush 10, 0, 0, 0, 0, 10, []),
  (105, .newarray .int, 0, 0, 0, 891, 0, []),
  (107, .putfield 50, 11, 15, 0, 752, 0, []),
  (110, .aload_n 0, 0, 0, 0, 0, 0, []),
  (111, .sipush 300, 0, 0, 0, 0, 300, []),
  (114, .newarray .int, 0, 0, 0, 891, 0, []),
  (116, .putfield 53, 11, 17, 0, 754, 0, []),
  (119, .aload_n 0, 0, 0, 0, 0, 0, []),
  (120, .sipush 300, 0, 0, 0, 0, 300, []),
  (123, .newarray .int, 0, 0, 0, 891, 0, []),
  (125, .putfield 56, 11, 18, 0, 755, 0, []),
  (128, .aload_n 0, 0, 0, 0, 0, 0, []),
  (129, .sipush 300, 0, 0, 0, 0, 300, []),
  (132, .newarray .int, 0, 0, 0, 891, 0, []),
  (134, .putfield 59, 11, 19, 0, 756, 0, []),
  (137, .aload_n 0, 0, 0, 0, 0, 0, []),
  (138, .sipush 300, 0, 0, 0, 0, 300, []),
  (141, .newarray .int, 0, 0, 0, 891, 0, []),
  (143, .putfield 62, 11, 20, 0, 757, 0, []),
  (146, .aload_n 0, 0, 0, 0, 0, 0, []),
  (147, .sipush 300, 0, 0, 0, 0, 300, []),
  (150, .newarray .boolean, 0, 0, 0, 892, 0, []),
  (152, .putfield 65, 11, 21, 0, 758, 0, []),
  (155, .aload_n 0, 0, 0, 0, 0, 0, []),
  (156, .bipush 120, 0, 0, 0, 0, 120, []),
  (158, .newarray .int, 0, 0, 0, 891, 0, []),
  (160, .putfield 68, 11, 23, 0, 760, 0, []),
  (163, .aload_n 0, 0, 0, 0, 0, 0, []),
  (164, .bipush 120, 0, 0, 0, 0, 120, []),
  (166, .newarray .int, 0, 0, 0, 891, 0, []),
  (168, .putfield 71, 11, 24, 0, 761, 0, []),
  (171, .aload_n 0, 0, 0, 0, 0, 0, []),
  (172, .bipush 120, 0, 0, 0, 0, 120, []),
  (174, .newarray .int, 0, 0, 0, 891, 0, []),
  (176, .putfield 74, 11, 25, 0, 762, 0, []),
  (179, .aload_n 0, 0, 0, 0, 0, 0, []),
  (180, .bipush 120, 0, 0, 0, 0, 120, []),
  (182, .newarray .int, 0, 0, 0, 891, 0, []),
  (184, .putfield 77, 11, 26, 0, 763, 0, []),
  (187, .aload_n 0, 0, 0, 0, 0, 0, []),
  (188, .bipush 120, 0, 0, 0, 0, 120, []),
  (190, .newarray .int, 0, 0, 0, 891, 0, []),
  (192, .putfield 80, 11, 27, 0, 764, 0, []),
  (195, .aload_n 0, 0, 0, 0, 0, 0, []),
  (196, .bipush 120, 0, 0, 0, 0, 120, []),
  (198, .newarray .long, 0, 0, 0, 232, 0, []),
  (200, .putfield 83, 11, 28, 0, 765, 0, []),
  (203, .aload_n 0, 0, 0, 0, 0, 0, []),
  (204, .bipush 120, 0, 0, 0, 0, 120, []),
  (206, .newarray .int, 0, 0, 0, 891, 0, []),
  (208, .putfield 87, 11, 29, 0, 766, 0, []),
  (211, .aload_n 0, 0, 0, 0, 0, 0, []),
  (212, .bipush 120, 0, 0, 0, 0, 120, []),
  (214, .newarray .int, 0, 0, 0, 891, 0, []),
  (216, .putfield 90, 11, 30, 0, 767, 0, []),
  (219, .aload_n 0, 0, 0, 0, 0, 0, []),
  (220, .bipush 120, 0, 0, 0, 0, 120, []),
  (222, .newarray .boolean, 0, 0, 0, 892, 0, []),
  (224, .putfield 93, 11, 31, 0, 768, 0, []),
  (227, .aload_n 0, 0, 0, 0, 0, 0, []),
  (228, .bipush 120, 0, 0, 0, 0, 120, []),
  (230, .newarray .boolean, 0, 0, 0, 892, 0, []),
  (232, .putfield 96, 11, 32, 0, 769, 0, []),
  (235, .aload_n 0, 0, 0, 0, 0, 0, []),
  (236, .bipush 120, 0, 0, 0, 0, 120, []),
  (238, .newarray .int, 0, 0, 0, 891, 0, []),
  (240, .putfield 99, 11, 33, 0, 770, 0, []),
  (243, .aload_n 0, 0, 0, 0, 0, 0, []),
  (244, .bipush 120, 0, 0, 0, 0, 120, []),
  (246, .newarray .long, 0, 0, 0, 232, 0, []),
  (248, .putfield 102, 11, 34, 0, 771, 0, []),
  (251, .aload_n 0, 0, 0, 0, 0, 0, []),
  (252, .bipush 120, 0, 0, 0, 0, 120, []),
  (254, .newarray .int, 0, 0, 0, 891, 0, []),
  (256, .putfield 105, 11, 35, 0, 772, 0, []),
  (259, .aload_n 0, 0, 0, 0, 0, 0, []),
  (260, .bipush 120, 0, 0, 0, 0, 120, []),
  (262, .newarray .int, 0, 0, 0, 891, 0, []),
  (264, .putfield 108, 11, 36, 0, 773, 0, []),
  (267, .aload_n 0, 0, 0, 0, 0, 0, []),
  (268, .sipush 3600, 0, 0, 0, 0, 3600, []),
  (271, .newarray .long, 0, 0, 0, 232, 0, []),
  (273, .putfield 111, 11, 39, 0, 776, 0, []),
  (276, .aload_n 0, 0, 0, 0, 0, 0, []),
  (277, .sipush 505, 0, 0, 0, 0, 505, []),
  (280, .newarray .int, 0, 0, 0, 891, 0, []),
  (282, .putfield 114, 11, 41, 0, 778, 0, []),
  (285, .aload_n 0, 0, 0, 0, 0, 0, []),
  (286, .bipush 100, 0, 0, 0, 0, 100, []),
  (288, .putfield 117, 11, 42, 0, 779, 0, []),
  (291, .aload_n 0, 0, 0, 0, 0, 0, []),
  (292, .sipush 16800, 0, 0, 0, 0, 16800, []),
  (295, .newarray .long, 0, 0, 0, 232, 0, []),
  (297, .putfield 121, 11, 50, 0, 787, 0, []),
  (300, .iconst 0, 0, 0, 0, 0, 0, []),
  (301, .istore_n 1, 0, 0, 0, 0, 0, []),
  (302, .iload_n 1, 0, 0, 0, 0, 0, []),
  (303, .bipush 10, 0, 0, 0, 0, 10, []),
  (305, .if_icmp .ge 17, 322, 0, 0, 0, 0, []),
  (308, .aload_n 0, 0, 0, 0, 0, 0, []),
  (309, .getfield 50, 11, 15, 0, 752, 0, []),
  (312, .iload_n 1, 0, 0, 0, 0, 0, []),
  (313, .ldc 124, 0, 0, 0, 736, (-99999999), []),
  (315, .iastore, 0, 0, 0, 0, 0, []),
  (316, .iinc 1 1, 0, 0, 0, 0, 1, []),
  (319, .goto (-17), 302, 0, 0, 0, 0, []),
  (322, .return_, 0, 0, 0, 0, 0, [])])
def m_Model_isOp : rv_M := (yX11_isOp, cX11_isOp, 2, some .boolean, RX11, 1, 22, (908, 60, 907, 27), [
  (0, .iload_n 1, 0, 0, 0, 0, 0, []),
  (1, .iconst 0, 0, 0, 0, 0, 0, []),
  (2, .aload_n 0, 0, 0, 0, 0, 0, []),
  (3, .getfield 125, 11, 0, 0, 737, 0, []),
  (6, .iconst 1, 0, 0, 0, 0, 1, []),
  (7, .isub, 0, 0, 0, 0, 0, []),
  (8, .invokestatic 128, 87, 3, 0, 897, 0, []),
  (11, .ireturn, 0, 0, 0, 0, 0, [])])
def m_Model_isSource : rv_M := (yX11_isSource, cX11_isSource, 2, some .boolean, RX11, 1, 22, (917, 60, 916, 28), [
  (0, .iload_n 1, 0, 0, 0, 0, 0, []),
  (1, .iconst 0, 0, 0, 0, 0, 0, []),
  (2, .aload_n 0, 0, 0, 0, 0, 0, []),
  (3, .getfield 132, 11, 7, 0, 744, 0, []),
  (6, .iconst 1, 0, 0, 0, 0, 1, []),
  (7, .isub, 0, 0, 0, 0, 0, []),
  (8, .invokestatic 128, 87, 3, 0, 897, 0, []),
  (11, .ireturn, 0, 0, 0, 0, 0, [])])
def m_Model_operator : rv_M := (yX11_operator, cX11_operator, 6, some .int, RX11, 1, 22, (896, 60, 894, 895), [
  (0, .iload_n 1, 0, 0, 0, 0, 0, []),
  (1, .iconst 0, 0, 0, 0, 0, 0, []),
  (2, .iconst 2, 0, 0, 0, 0, 2, []),
  (3, .invokestatic 128, 87, 3, 0, 897, 0, []),
  (6, .ifCond .eq 44, 50, 0, 0, 0, 0, []),
  (9, .iload 5, 0, 0, 0, 0, 0, []),
  (11, .iconst 0, 0, 0, 0, 0, 0, []),
  (12, .iconst 2, 0, 0, 0, 0, 2, []),
  (13, .invokestatic 128, 87, 3, 0, 897, 0, []),
  (16, .ifCond .eq 34, 50, 0, 0, 0, 0, []),
  (19, .iload_n 2, 0, 0, 0, 0, 0, []),
  (20, .iconst 1, 0, 0, 0, 0, 1, []),
  (21, .ldc 135, 0, 0, 0, 900, 1000000, []),
  (23, .invokestatic 128, 87, 3, 0, 897, 0, []),
  (26, .ifCond .eq 24, 50, 0, 0, 0, 0, []),
  (29, .iload_n 3, 0, 0, 0, 0, 0, []),
  (30, .iconst 1, 0, 0, 0, 0, 1, []),
  (31, .ldc 135, 0, 0, 0, 900, 1000000, []),
  (33, .invokestatic 128, 87, 3, 0, 897, 0, []),
  (36, .ifCond .eq 14, 50, 0, 0, 0, 0, []),
  (39, .iload 4, 0, 0, 0, 0, 0, []),
  (41, .iconst 0, 0, 0, 0, 0, 0, []),
  (42, .ldc 135, 0, 0, 0, 900, 1000000, []),
  (44, .invokestatic 128, 87, 3, 0, 897, 0, []),
  (47, .ifCond .ne 5, 52, 0, 0, 0, 0, []),
  (50, .iconst (-1), 0, 0, 0, 0, (-1), []),
  (51, .ireturn, 0, 0, 0, 0, 0, []),
  (52, .iload_n 1, 0, 0, 0, 0, 0, []),
  (53, .iconst 1, 0, 0, 0, 0, 1, []),
  (54, .if_icmp .ne 18, 72, 0, 0, 0, 0, []),
  (57, .iload_n 3, 0, 0, 0, 0, 0, []),
  (58, .iload_n 2, 0, 0, 0, 0, 0, []),
  (59, .if_icmp .gt 11, 70, 0, 0, 0, 0, []),
  (62, .iload_n 2, 0, 0, 0, 0, 0, []),
  (63, .bipush 8, 0, 0, 0, 0, 8, []),
  (65, .iload_n 3, 0, 0, 0, 0, 0, []),
  (66, .imul, 0, 0, 0, 0, 0, []),
  (67, .if_icmp .le 5, 72, 0, 0, 0, 0, []),
  (70, .iconst (-1), 0, 0, 0, 0, (-1), []),
  (71, .ireturn, 0, 0, 0, 0, 0, []),
  (72, .aload_n 0, 0, 0, 0, 0, 0, []),
  (73, .getfield 125, 11, 0, 0, 737, 0, []),
  (76, .iconst 5, 0, 0, 0, 0, 5, []),
  (77, .if_icmp .ne 6, 83, 0, 0, 0, 0, []),
  (80, .bipush (-3), 0, 0, 0, 0, (-3), []),
  (82, .ireturn, 0, 0, 0, 0, 0, []),
  (83, .aload_n 0, 0, 0, 0, 0, 0, []),
  (84, .getfield 7, 11, 1, 0, 738, 0, []),
  (87, .aload_n 0, 0, 0, 0, 0, 0, []),
  (88, .getfield 125, 11, 0, 0, 737, 0, []),
  (91, .iload_n 1, 0, 0, 0, 0, 0, []),
  (92, .iastore, 0, 0, 0, 0, 0, []),
  (93, .aload_n 0, 0, 0, 0, 0, 0, []),
  (94, .getfield 13, 11, 2, 0, 739, 0, []),
  (97, .aload_n 0, 0, 0, 0, 0, 0, []),
  (98, .getfield 125, 11, 0, 0, 737, 0, []),
  (101, .iload_n 2, 0, 0, 0, 0, 0, []),
  (102, .iastore, 0, 0, 0, 0, 0, []),
  (103, .aload_n 0, 0, 0, 0, 0, 0, []),
  (104, .getfield 16, 11, 3, 0, 740, 0, []),
  (107, .aload_n 0, 0, 0, 0, 0, 0, []),
  (108, .getfield 125, 11, 0, 0, 737, 0, []),
  (111, .iload_n 3, 0, 0, 0, 0, 0, []),
  (112, .iastore, 0, 0, 0, 0, 0, []),
  (113, .aload_n 0, 0, 0, 0, 0, 0, []),
  (114, .getfield 19, 11, 4, 0, 741, 0, []),
  (117, .aload_n 0, 0, 0, 0, 0, 0, []),
  (118, .getfield 125, 11, 0, 0, 737, 0, []),
  (121, .iload 4, 0, 0, 0, 0, 0, []),
  (123, .iastore, 0, 0, 0, 0, 0, []),
  (124, .aload_n 0, 0, 0, 0, 0, 0, []),
  (125, .getfield 22, 11, 5, 0, 742, 0, []),
  (128, .aload_n 0, 0, 0, 0, 0, 0, []),
  (129, .getfield 125, 11, 0, 0, 737, 0, []),
  (132, .iload 5, 0, 0, 0, 0, 0, []),
  (134, .iastore, 0, 0, 0, 0, 0, []),
  (135, .aload_n 0, 0, 0, 0, 0, 0, []),
  (136, .dup, 0, 0, 0, 0, 0, []),
  (137, .getfield 125, 11, 0, 0, 737, 0, []),
  (140, .iconst 1, 0, 0, 0, 0, 1, []),
  (141, .iadd, 0, 0, 0, 0, 0, []),
  (142, .putfield 125, 11, 0, 0, 737, 0, []),
  (145, .aload_n 0, 0, 0, 0, 0, 0, []),
  (146, .getfield 125, 11, 0, 0, 737, 0, []),
  (149, .iconst 1, 0, 0, 0, 0, 1, []),
  (150, .isub, 0, 0, 0, 0, 0, []),
  (151, .ireturn, 0, 0, 0, 0, 0, [])])
def m_Model_source : rv_M := (yX11_source, cX11_source, 2, some .int, RX11, 2, 43, (904, 60, 902, 903), [
  (0, .aload_n 0, 0, 0, 0, 0, 0, []),
  (1, .iload_n 1, 0, 0, 0, 0, 0, []),
  (2, .invokevirtual 136, 90, 1, 11, 905, 0, []),
  (5, .ifCond .ne 5, 10, 0, 0, 0, 0, []),
  (8, .iconst (-1), 0, 0, 0, 0, (-1), []),
  (9, .ireturn, 0, 0, 0, 0, 0, []),
  (10, .aload_n 0, 0, 0, 0, 0, 0, []),
  (11, .getfield 25, 11, 6, 0, 743, 0, []),
  (14, .iload_n 1, 0, 0, 0, 0, 0, []),
  (15, .iaload, 0, 0, 0, 0, 0, []),
  (16, .ldc 140, 0, 0, 0, 909, 1000000000, []),
  (18, .if_icmp .ne 6, 24, 0, 0, 0, 0, []),
  (21, .bipush (-2), 0, 0, 0, 0, (-2), []),
  (23, .ireturn, 0, 0, 0, 0, 0, []),
  (24, .aload_n 0, 0, 0, 0, 0, 0, []),
  (25, .getfield 132, 11, 7, 0, 744, 0, []),
  (28, .bipush 10, 0, 0, 0, 0, 10, []),
  (30, .if_icmp .ne 6, 36, 0, 0, 0, 0, []),
  (33, .bipush (-3), 0, 0, 0, 0, (-3), []),
  (35, .ireturn, 0, 0, 0, 0, 0, []),
  (36, .aload_n 0, 0, 0, 0, 0, 0, []),
  (37, .getfield 28, 11, 8, 0, 745, 0, []),
  (40, .aload_n 0, 0, 0, 0, 0, 0, []),
  (41, .getfield 132, 11, 7, 0, 744, 0, []),
  (44, .iload_n 1, 0, 0, 0, 0, 0, []),
  (45, .iastore, 0, 0, 0, 0, 0, []),
  (46, .aload_n 0, 0, 0, 0, 0, 0, []),
  (47, .dup, 0, 0, 0, 0, 0, []),
  (48, .getfield 132, 11, 7, 0, 744, 0, []),
  (51, .iconst 1, 0, 0, 0, 0, 1, []),
  (52, .iadd, 0, 0, 0, 0, 0, []),
  (53, .putfield 132, 11, 7, 0, 744, 0, []),
  (56, .aload_n 0, 0, 0, 0, 0, 0, []),
  (57, .getfield 132, 11, 7, 0, 744, 0, []),
  (60, .iconst 1, 0, 0, 0, 0, 1, []),
  (61, .isub, 0, 0, 0, 0, 0, []),
  (62, .ireturn, 0, 0, 0, 0, 0, [])])
def m_Model_result_IIIJIIV : rv_M := (yX11_result, cX11_result, 9, none, RX11, 0, 0, (942, 60, 941, 34), [
  (0, .aload_n 0, 0, 0, 0, 0, 0, []),
  (1, .getfield 141, 11, 37, 0, 774, 0, []),
  (4, .sipush 400, 0, 0, 0, 0, 400, []),
  (7, .if_icmp .ne 47, 54, 0, 0, 0, 0, []),
  (10, .iconst 0, 0, 0, 0, 0, 0, []),
  (11, .istore 8, 0, 0, 0, 0, 0, []),
  (13, .iload 8, 0, 0, 0, 0, 0, []),
  (15, .sipush 3591, 0, 0, 0, 0, 3591, []),
  (18, .if_icmp .ge 26, 44, 0, 0, 0, 0, []),
  (21, .aload_n 0, 0, 0, 0, 0, 0, []),
  (22, .getfield 111, 11, 39, 0, 776, 0, []),
  (25, .iload 8, 0, 0, 0, 0, 0, []),
  (27, .aload_n 0, 0, 0, 0, 0, 0, []),
  (28, .getfield 111, 11, 39, 0, 776, 0, []),
  (31, .iload 8, 0, 0, 0, 0, 0, []),
  (33, .bipush 9, 0, 0, 0, 0, 9, []),
  (35, .iadd, 0, 0, 0, 0, 0, []),
  (36, .laload, 0, 0, 0, 0, 0, []),
  (37, .lastore, 0, 0, 0, 0, 0, []),
  (38, .iinc 8 1, 0, 0, 0, 0, 1, []),
  (41, .goto (-28), 13, 0, 0, 0, 0, []),
  (44, .aload_n 0, 0, 0, 0, 0, 0, []),
  (45, .dup, 0, 0, 0, 0, 0, []),
  (46, .getfield 141, 11, 37, 0, 774, 0, []),
  (49, .iconst 1, 0, 0, 0, 0, 1, []),
  (50, .isub, 0, 0, 0, 0, 0, []),
  (51, .putfield 141, 11, 37, 0, 774, 0, []),
  (54, .bipush 9, 0, 0, 0, 0, 9, []),
  (56, .aload_n 0, 0, 0, 0, 0, 0, []),
  (57, .getfield 141, 11, 37, 0, 774, 0, []),
  (60, .imul, 0, 0, 0, 0, 0, []),
  (61, .istore 8, 0, 0, 0, 0, 0, []),
  (63, .aload_n 0, 0, 0, 0, 0, 0, []),
  (64, .getfield 111, 11, 39, 0, 776, 0, []),
  (67, .iload 8, 0, 0, 0, 0, 0, []),
  (69, .iload_n 1, 0, 0, 0, 0, 0, []),
  (70, .i2l, 0, 0, 0, 0, 0, []),
  (71, .lastore, 0, 0, 0, 0, 0, []),
  (72, .aload_n 0, 0, 0, 0, 0, 0, []),
  (73, .getfield 111, 11, 39, 0, 776, 0, []),
  (76, .iload 8, 0, 0, 0, 0, 0, []),
  (78, .iconst 1, 0, 0, 0, 0, 1, []),
  (79, .iadd, 0, 0, 0, 0, 0, []),
  (80, .aload_n 0, 0, 0, 0, 0, 0, []),
  (81, .getfield 68, 11, 23, 0, 760, 0, []),
  (84, .iload_n 2, 0, 0, 0, 0, 0, []),
  (85, .iaload, 0, 0, 0, 0, 0, []),
  (86, .i2l, 0, 0, 0, 0, 0, []),
  (87, .lastore, 0, 0, 0, 0, 0, []),
  (88, .aload_n 0, 0, 0, 0, 0, 0, []),
  (89, .getfield 111, 11, 39, 0, 776, 0, []),
  (92, .iload 8, 0, 0, 0, 0, 0, []),
  (94, .iconst 2, 0, 0, 0, 0, 2, []),
  (95, .iadd, 0, 0, 0, 0, 0, []),
  (96, .aload_n 0, 0, 0, 0, 0, 0, []),
  (97, .getfield 71, 11, 24, 0, 761, 0, []),
  (100, .iload_n 2, 0, 0, 0, 0, 0, []),
  (101, .iaload, 0, 0, 0, 0, 0, []),
  (102, .i2l, 0, 0, 0, 0, 0, []),
  (103, .lastore, 0, 0, 0, 0, 0, []),
  (104, .aload_n 0, 0, 0, 0, 0, 0, []),
  (105, .getfield 111, 11, 39, 0, 776, 0, []),
  (108, .iload 8, 0, 0, 0, 0, 0, []),
  (110, .iconst 3, 0, 0, 0, 0, 3, []),
  (111, .iadd, 0, 0, 0, 0, 0, []),
  (112, .aload_n 0, 0, 0, 0, 0, 0, []),
  (113, .getfield 74, 11, 25, 0, 762, 0, []),
  (116, .iload_n 2, 0, 0, 0, 0, 0, []),
  (117, .iaload, 0, 0, 0, 0, 0, []),
  (118, .i2l, 0, 0, 0, 0, 0, []),
  (119, .lastore, 0, 0, 0, 0, 0, []),
  (120, .aload_n 0, 0, 0, 0, 0, 0, []),
  (121, .getfield 111, 11, 39, 0, 776, 0, []),
  (124, .iload 8, 0, 0, 0, 0, 0, []),
  (126, .iconst 4, 0, 0, 0, 0, 4, []),
  (127, .iadd, 0, 0, 0, 0, 0, []),
  (128, .aload_n 0, 0, 0, 0, 0, 0, []),
  (129, .getfield 77, 11, 26, 0, 763, 0, []),
  (132, .iload_n 2, 0, 0, 0, 0, 0, []),
  (133, .iaload, 0, 0, 0, 0, 0, []),
  (134, .i2l, 0, 0, 0, 0, 0, []),
  (135, .lastore, 0, 0, 0, 0, 0, []),
  (136, .aload_n 0, 0, 0, 0, 0, 0, []),
  (137, .getfield 111, 11, 39, 0, 776, 0, []),
  (140, .iload 8, 0, 0, 0, 0, 0, []),
  (142, .iconst 5, 0, 0, 0, 0, 5, []),
  (143, .iadd, 0, 0, 0, 0, 0, []),
  (144, .iload_n 3, 0, 0, 0, 0, 0, []),
  (145, .i2l, 0, 0, 0, 0, 0, []),
  (146, .lastore, 0, 0, 0, 0, 0, []),
  (147, .aload_n 0, 0, 0, 0, 0, 0, []),
  (148, .getfield 111, 11, 39, 0, 776, 0, []),
  (151, .iload 8, 0, 0, 0, 0, 0, []),
  (153, .bipush 6, 0, 0, 0, 0, 6, []),
  (155, .iadd, 0, 0, 0, 0, 0, []),
  (156, .lload 4, 0, 0, 0, 0, 0, []),
  (158, .lastore, 0, 0, 0, 0, 0, []),
  (159, .aload_n 0, 0, 0, 0, 0, 0, []),
  (160, .getfield 111, 11, 39, 0, 776, 0, []),
  (163, .iload 8, 0, 0, 0, 0, 0, []),
  (165, .bipush 7, 0, 0, 0, 0, 7, []),
  (167, .iadd, 0, 0, 0, 0, 0, []),
  (168, .iload 6, 0, 0, 0, 0, 0, []),
  (170, .i2l, 0, 0, 0, 0, 0, []),
  (171, .lastore, 0, 0, 0, 0, 0, []),
  (172, .aload_n 0, 0, 0, 0, 0, 0, []),
  (173, .getfield 111, 11, 39, 0, 776, 0, []),
  (176, .iload 8, 0, 0, 0, 0, 0, []),
  (178, .bipush 8, 0, 0, 0, 0, 8, []),
  (180, .iadd, 0, 0, 0, 0, 0, []),
  (181, .iload 7, 0, 0, 0, 0, 0, []),
  (183, .i2l, 0, 0, 0, 0, 0, []),
  (184, .lastore, 0, 0, 0, 0, 0, []),
  (185, .aload_n 0, 0, 0, 0, 0, 0, []),
  (186, .dup, 0, 0, 0, 0, 0, []),
  (187, .getfield 141, 11, 37, 0, 774, 0, []),
  (190, .iconst 1, 0, 0, 0, 0, 1, []),
  (191, .iadd, 0, 0, 0, 0, 0, []),
  (192, .putfield 141, 11, 37, 0, 774, 0, []),
  (195, .aload_n 0, 0, 0, 0, 0, 0, []),
  (196, .dup, 0, 0, 0, 0, 0, []),
  (197, .getfield 144, 11, 38, 0, 775, 0, []),
  (200, .iconst 1, 0, 0, 0, 0, 1, []),
  (201, .iadd, 0, 0, 0, 0, 0, []),
  (202, .putfield 144, 11, 38, 0, 775, 0, []),
  (205, .return_, 0, 0, 0, 0, 0, [])])
def m_Model_tell : rv_M := (yX11_tell, cX11_tell, 2, none, RX11, 1, 28, (938, 60, 937, 33), [
  (0, .aload_n 0, 0, 0, 0, 0, 0, []),
  (1, .iconst 1, 0, 0, 0, 0, 1, []),
  (2, .iload_n 1, 0, 0, 0, 0, 0, []),
  (3, .aload_n 0, 0, 0, 0, 0, 0, []),
  (4, .getfield 80, 11, 27, 0, 764, 0, []),
  (7, .iload_n 1, 0, 0, 0, 0, 0, []),
  (8, .iaload, 0, 0, 0, 0, 0, []),
  (9, .aload_n 0, 0, 0, 0, 0, 0, []),
  (10, .getfield 83, 11, 28, 0, 765, 0, []),
  (13, .iload_n 1, 0, 0, 0, 0, 0, []),
  (14, .laload, 0, 0, 0, 0, 0, []),
  (15, .aload_n 0, 0, 0, 0, 0, 0, []),
  (16, .getfield 87, 11, 29, 0, 766, 0, []),
  (19, .iload_n 1, 0, 0, 0, 0, 0, []),
  (20, .iaload, 0, 0, 0, 0, 0, []),
  (21, .aload_n 0, 0, 0, 0, 0, 0, []),
  (22, .getfield 90, 11, 30, 0, 767, 0, []),
  (25, .iload_n 1, 0, 0, 0, 0, 0, []),
  (26, .iaload, 0, 0, 0, 0, 0, []),
  (27, .invokevirtual 147, 94, 6, 11, 939, 0, []),
  (30, .aload_n 0, 0, 0, 0, 0, 0, []),
  (31, .getfield 93, 11, 31, 0, 768, 0, []),
  (34, .iload_n 1, 0, 0, 0, 0, 0, []),
  (35, .iconst 1, 0, 0, 0, 0, 1, []),
  (36, .bastore, 0, 0, 0, 0, 0, []),
  (37, .aload_n 0, 0, 0, 0, 0, 0, []),
  (38, .getfield 96, 11, 32, 0, 769, 0, []),
  (41, .iload_n 1, 0, 0, 0, 0, 0, []),
  (42, .iconst 0, 0, 0, 0, 0, 0, []),
  (43, .bastore, 0, 0, 0, 0, 0, []),
  (44, .aload_n 0, 0, 0, 0, 0, 0, []),
  (45, .getfield 99, 11, 33, 0, 770, 0, []),
  (48, .iload_n 1, 0, 0, 0, 0, 0, []),
  (49, .aload_n 0, 0, 0, 0, 0, 0, []),
  (50, .getfield 80, 11, 27, 0, 764, 0, []),
  (53, .iload_n 1, 0, 0, 0, 0, 0, []),
  (54, .iaload, 0, 0, 0, 0, 0, []),
  (55, .iastore, 0, 0, 0, 0, 0, []),
  (56, .aload_n 0, 0, 0, 0, 0, 0, []),
  (57, .getfield 102, 11, 34, 0, 771, 0, []),
  (60, .iload_n 1, 0, 0, 0, 0, 0, []),
  (61, .aload_n 0, 0, 0, 0, 0, 0, []),
  (62, .getfield 83, 11, 28, 0, 765, 0, []),
  (65, .iload_n 1, 0, 0, 0, 0, 0, []),
  (66, .laload, 0, 0, 0, 0, 0, []),
  (67, .lastore, 0, 0, 0, 0, 0, []),
  (68, .aload_n 0, 0, 0, 0, 0, 0, []),
  (69, .getfield 105, 11, 35, 0, 772, 0, []),
  (72, .iload_n 1, 0, 0, 0, 0, 0, []),
  (73, .aload_n 0, 0, 0, 0, 0, 0, []),
  (74, .getfield 87, 11, 29, 0, 766, 0, []),
  (77, .iload_n 1, 0, 0, 0, 0, 0, []),
  (78, .iaload, 0, 0, 0, 0, 0, []),
  (79, .iastore, 0, 0, 0, 0, 0, []),
  (80, .aload_n 0, 0, 0, 0, 0, 0, []),
  (81, .getfield 108, 11, 36, 0, 773, 0, []),
  (84, .iload_n 1, 0, 0, 0, 0, 0, []),
  (85, .aload_n 0, 0, 0, 0, 0, 0, []),
  (86, .getfield 90, 11, 30, 0, 767, 0, []),
  (89, .iload_n 1, 0, 0, 0, 0, 0, []),
  (90, .iaload, 0, 0, 0, 0, 0, []),
  (91, .iastore, 0, 0, 0, 0, 0, []),
  (92, .return_, 0, 0, 0, 0, 0, [])])
def m_Model_takeBack : rv_M := (yX11_takeBack, cX11_takeBack, 2, none, RX11, 1, 28, (946, 60, 945, 35), [
  (0, .aload_n 0, 0, 0, 0, 0, 0, []),
  (1, .iconst (-1), 0, 0, 0, 0, (-1), []),
  (2, .iload_n 1, 0, 0, 0, 0, 0, []),
  (3, .aload_n 0, 0, 0, 0, 0, 0, []),
  (4, .getfield 99, 11, 33, 0, 770, 0, []),
  (7, .iload_n 1, 0, 0, 0, 0, 0, []),
  (8, .iaload, 0, 0, 0, 0, 0, []),
  (9, .aload_n 0, 0, 0, 0, 0, 0, []),
  (10, .getfield 102, 11, 34, 0, 771, 0, []),
  (13, .iload_n 1, 0, 0, 0, 0, 0, []),
  (14, .laload, 0, 0, 0, 0, 0, []),
  (15, .aload_n 0, 0, 0, 0, 0, 0, []),
  (16, .getfield 105, 11, 35, 0, 772, 0, []),
  (19, .iload_n 1, 0, 0, 0, 0, 0, []),
  (20, .iaload, 0, 0, 0, 0, 0, []),
  (21, .aload_n 0, 0, 0, 0, 0, 0, []),
  (22, .getfield 108, 11, 36, 0, 773, 0, []),
  (25, .iload_n 1, 0, 0, 0, 0, 0, []),
  (26, .iaload, 0, 0, 0, 0, 0, []),
  (27, .invokevirtual 147, 94, 6, 11, 939, 0, []),
  (30, .return_, 0, 0, 0, 0, 0, [])])
def m_Model_remove : rv_M := (yX11_remove, cX11_remove, 3, none, RX11, 0, 0, (950, 60, 949, 36), [
  (0, .aload_n 0, 0, 0, 0, 0, 0, []),
  (1, .dup, 0, 0, 0, 0, 0, []),
  (2, .getfield 151, 11, 22, 0, 759, 0, []),
  (5, .iconst 1, 0, 0, 0, 0, 1, []),
  (6, .isub, 0, 0, 0, 0, 0, []),
  (7, .putfield 151, 11, 22, 0, 759, 0, []),
  (10, .iload_n 1, 0, 0, 0, 0, 0, []),
  (11, .istore_n 2, 0, 0, 0, 0, 0, []),
  (12, .iload_n 2, 0, 0, 0, 0, 0, []),
  (13, .aload_n 0, 0, 0, 0, 0, 0, []),
  (14, .getfield 151, 11, 22, 0, 759, 0, []),
  (17, .if_icmp .ge 205, 222, 0, 0, 0, 0, []),
  (20, .aload_n 0, 0, 0, 0, 0, 0, []),
  (21, .getfield 68, 11, 23, 0, 760, 0, []),
  (24, .iload_n 2, 0, 0, 0, 0, 0, []),
  (25, .aload_n 0, 0, 0, 0, 0, 0, []),
  (26, .getfield 68, 11, 23, 0, 760, 0, []),
  (29, .iload_n 2, 0, 0, 0, 0, 0, []),
  (30, .iconst 1, 0, 0, 0, 0, 1, []),
  (31, .iadd, 0, 0, 0, 0, 0, []),
  (32, .iaload, 0, 0, 0, 0, 0, []),
  (33, .iastore, 0, 0, 0, 0, 0, []),
  (34, .aload_n 0, 0, 0, 0, 0, 0, []),
  (35, .getfield 71, 11, 24, 0, 761, 0, []),
  (38, .iload_n 2, 0, 0, 0, 0, 0, []),
  (39, .aload_n 0, 0, 0, 0, 0, 0, []),
  (40, .getfield 71, 11, 24, 0, 761, 0, []),
  (43, .iload_n 2, 0, 0, 0, 0, 0, []),
  (44, .iconst 1, 0, 0, 0, 0, 1, []),
  (45, .iadd, 0, 0, 0, 0, 0, []),
  (46, .iaload, 0, 0, 0, 0, 0, []),
  (47, .iastore, 0, 0, 0, 0, 0, []),
  (48, .aload_n 0, 0, 0, 0, 0, 0, []),
  (49, .getfield 74, 11, 25, 0, 762, 0, []),
  (52, .iload_n 2, 0, 0, 0, 0, 0, []),
  (53, .aload_n 0, 0, 0, 0, 0, 0, []),
  (54, .getfield 74, 11, 25, 0, 762, 0, []),
  (57, .iload_n 2, 0, 0, 0, 0, 0, []),
  (58, .iconst 1, 0, 0, 0, 0, 1, []),
  (59, .iadd, 0, 0, 0, 0, 0, []),
  (60, .iaload, 0, 0, 0, 0, 0, []),
  (61, .iastore, 0, 0, 0, 0, 0, []),
  (62, .aload_n 0, 0, 0, 0, 0, 0, []),
  (63, .getfield 77, 11, 26, 0, 763, 0, []),
  (66, .iload_n 2, 0, 0, 0, 0, 0, []),
  (67, .aload_n 0, 0, 0, 0, 0, 0, []),
  (68, .getfield 77, 11, 26, 0, 763, 0, []),
  (71, .iload_n 2, 0, 0, 0, 0, 0, []),
  (72, .iconst 1, 0, 0, 0, 0, 1, []),
  (73, .iadd, 0, 0, 0, 0, 0, []),
  (74, .iaload, 0, 0, 0, 0, 0, []),
  (75, .iastore, 0, 0, 0, 0, 0, []),
  (76, .aload_n 0, 0, 0, 0, 0, 0, []),
  (77, .getfield 80, 11, 27, 0, 764, 0, []),
  (80, .iload_n 2, 0, 0, 0, 0, 0, []),
  (81, .aload_n 0, 0, 0, 0, 0, 0, []),
  (82, .getfield 80, 11, 27, 0, 764, 0, []),
  (85, .iload_n 2, 0, 0, 0, 0, 0, []),
  (86, .iconst 1, 0, 0, 0, 0, 1, []),
  (87, .iadd, 0, 0, 0, 0, 0, []),
  (88, .iaload, 0, 0, 0, 0, 0, []),
  (89, .iastore, 0, 0, 0, 0, 0, []),
  (90, .aload_n 0, 0, 0, 0, 0, 0, []),
  (91, .getfield 83, 11, 28, 0, 765, 0, []),
  (94, .iload_n 2, 0, 0, 0, 0, 0, []),
  (95, .aload_n 0, 0, 0, 0, 0, 0, []),
  (96, .getfield 83, 11, 28, 0, 765, 0, []),
  (99, .iload_n 2, 0, 0, 0, 0, 0, []),
  (100, .iconst 1, 0, 0, 0, 0, 1, []),
  (101, .iadd, 0, 0, 0, 0, 0, []),
  (102, .laload, 0, 0, 0, 0, 0, []),
  (103, .lastore, 0, 0, 0, 0, 0, []),
  (104, .aload_n 0, 0, 0, 0, 0, 0, []),
  (105, .getfield 87, 11, 29, 0, 766, 0, []),
  (108, .iload_n 2, 0, 0, 0, 0, 0, []),
  (109, .aload_n 0, 0, 0, 0, 0, 0, []),
  (110, .getfield 87, 11, 29, 0, 766, 0, []),
  (113, .iload_n 2, 0, 0, 0, 0, 0, []),
  (114, .iconst 1, 0, 0, 0, 0, 1, []),
  (115, .iadd, 0, 0, 0, 0, 0, []),
  (116, .iaload, 0, 0, 0, 0, 0, []),
  (117, .iastore, 0, 0, 0, 0, 0, []),
  (118, .aload_n 0, 0, 0, 0, 0, 0, []),
  (119, .getfield 90, 11, 30, 0, 767, 0, []),
  (122, .iload_n 2, 0, 0, 0, 0, 0, []),
  (123, .aload_n 0, 0, 0, 0, 0, 0, []),
  (124, .getfield 90, 11, 30, 0, 767, 0, []),
  (127, .iload_n 2, 0, 0, 0, 0, 0, []),
  (128, .iconst 1, 0, 0, 0, 0, 1, []),
  (129, .iadd, 0, 0, 0, 0, 0, []),
  (130, .iaload, 0, 0, 0, 0, 0, []),
  (131, .iastore, 0, 0, 0, 0, 0, []),
  (132, .aload_n 0, 0, 0, 0, 0, 0, []),
  (133, .getfield 93, 11, 31, 0, 768, 0, []),
  (136, .iload_n 2, 0, 0, 0, 0, 0, []),
  (137, .aload_n 0, 0, 0, 0, 0, 0, []),
  (138, .getfield 93, 11, 31, 0, 768, 0, []),
  (141, .iload_n 2, 0, 0, 0, 0, 0, []),
  (142, .iconst 1, 0, 0, 0, 0, 1, []),
  (143, .iadd, 0, 0, 0, 0, 0, []),
  (144, .baload, 0, 0, 0, 0, 0, []),
  (145, .bastore, 0, 0, 0, 0, 0, []),
  (146, .aload_n 0, 0, 0, 0, 0, 0, []),
  (147, .getfield 96, 11, 32, 0, 769, 0, []),
  (150, .iload_n 2, 0, 0, 0, 0, 0, []),
  (151, .aload_n 0, 0, 0, 0, 0, 0, []),
  (152, .getfield 96, 11, 32, 0, 769, 0, []),
  (155, .iload_n 2, 0, 0, 0, 0, 0, []),
  (156, .iconst 1, 0, 0, 0, 0, 1, []),
  (157, .iadd, 0, 0, 0, 0, 0, []),
  (158, .baload, 0, 0, 0, 0, 0, []),
  (159, .bastore, 0, 0, 0, 0, 0, []),
  (160, .aload_n 0, 0, 0, 0, 0, 0, []),
  (161, .getfield 99, 11, 33, 0, 770, 0, []),
  (164, .iload_n 2, 0, 0, 0, 0, 0, []),
  (165, .aload_n 0, 0, 0, 0, 0, 0, []),
  (166, .getfield 99, 11, 33, 0, 770, 0, []),
  (169, .iload_n 2, 0, 0, 0, 0, 0, []),
  (170, .iconst 1, 0, 0, 0, 0, 1, []),
  (171, .iadd, 0, 0, 0, 0, 0, []),
  (172, .iaload, 0, 0, 0, 0, 0, []),
  (173, .iastore, 0, 0, 0, 0, 0, []),
  (174, .aload_n 0, 0, 0, 0, 0, 0, []),
  (175, .getfield 102, 11, 34, 0, 771, 0, []),
  (178, .iload_n 2, 0, 0, 0, 0, 0, []),
  (179, .aload_n 0, 0, 0, 0, 0, 0, []),
  (180, .getfield 102, 11, 34, 0, 771, 0, []),
  (183, .iload_n 2, 0, 0, 0, 0, 0, []),
  (184, .iconst 1, 0, 0, 0, 0, 1, []),
  (185, .iadd, 0, 0, 0, 0, 0, []),
  (186, .laload, 0, 0, 0, 0, 0, []),
  (187, .lastore, 0, 0, 0, 0, 0, []),
  (188, .aload_n 0, 0, 0, 0, 0, 0, []),
  (189, .getfield 105, 11, 35, 0, 772, 0, []),
  (192, .iload_n 2, 0, 0, 0, 0, 0, []),
  (193, .aload_n 0, 0, 0, 0, 0, 0, []),
  (194, .getfield 105, 11, 35, 0, 772, 0, []),
  (197, .iload_n 2, 0, 0, 0, 0, 0, []),
  (198, .iconst 1, 0, 0, 0, 0, 1, []),
  (199, .iadd, 0, 0, 0, 0, 0, []),
  (200, .iaload, 0, 0, 0, 0, 0, []),
  (201, .iastore, 0, 0, 0, 0, 0, []),
  (202, .aload_n 0, 0, 0, 0, 0, 0, []),
  (203, .getfield 108, 11, 36, 0, 773, 0, []),
  (206, .iload_n 2, 0, 0, 0, 0, 0, []),
  (207, .aload_n 0, 0, 0, 0, 0, 0, []),
  (208, .getfield 108, 11, 36, 0, 773, 0, []),
  (211, .iload_n 2, 0, 0, 0, 0, 0, []),
  (212, .iconst 1, 0, 0, 0, 0, 1, []),
  (213, .iadd, 0, 0, 0, 0, 0, []),
  (214, .iaload, 0, 0, 0, 0, 0, []),
  (215, .iastore, 0, 0, 0, 0, 0, []),
  (216, .iinc 2 1, 0, 0, 0, 0, 1, []),
  (219, .goto (-207), 12, 0, 0, 0, 0, []),
  (222, .return_, 0, 0, 0, 0, 0, [])])
def m_Model_isAhead : rv_M := (yX11_isAhead, cX11_isAhead, 3, some .boolean, RX11, 0, 0, (934, 60, 933, 32), [
  (0, .aload_n 0, 0, 0, 0, 0, 0, []),
  (1, .getfield 77, 11, 26, 0, 763, 0, []),
  (4, .iload_n 1, 0, 0, 0, 0, 0, []),
  (5, .iaload, 0, 0, 0, 0, 0, []),
  (6, .aload_n 0, 0, 0, 0, 0, 0, []),
  (7, .getfield 77, 11, 26, 0, 763, 0, []),
  (10, .iload_n 2, 0, 0, 0, 0, 0, []),
  (11, .iaload, 0, 0, 0, 0, 0, []),
  (12, .if_icmp .eq 24, 36, 0, 0, 0, 0, []),
  (15, .aload_n 0, 0, 0, 0, 0, 0, []),
  (16, .getfield 77, 11, 26, 0, 763, 0, []),
  (19, .iload_n 1, 0, 0, 0, 0, 0, []),
  (20, .iaload, 0, 0, 0, 0, 0, []),
  (21, .aload_n 0, 0, 0, 0, 0, 0, []),
  (22, .getfield 77, 11, 26, 0, 763, 0, []),
  (25, .iload_n 2, 0, 0, 0, 0, 0, []),
  (26, .iaload, 0, 0, 0, 0, 0, []),
  (27, .if_icmp .ge 7, 34, 0, 0, 0, 0, []),
  (30, .iconst 1, 0, 0, 0, 0, 1, []),
  (31, .goto 4, 35, 0, 0, 0, 0, []),
  (34, .iconst 0, 0, 0, 0, 0, 0, []),
  (35, .ireturn, 0, 0, 0, 0, 0, []),
  (36, .aload_n 0, 0, 0, 0, 0, 0, []),
  (37, .getfield 71, 11, 24, 0, 761, 0, []),
  (40, .iload_n 1, 0, 0, 0, 0, 0, []),
  (41, .iaload, 0, 0, 0, 0, 0, []),
  (42, .aload_n 0, 0, 0, 0, 0, 0, []),
  (43, .getfield 71, 11, 24, 0, 761, 0, []),
  (46, .iload_n 2, 0, 0, 0, 0, 0, []),
  (47, .iaload, 0, 0, 0, 0, 0, []),
  (48, .if_icmp .eq 26, 74, 0, 0, 0, 0, []),
  (51, .aload_n 0, 0, 0, 0, 0, 0, []),
  (52, .getfield 71, 11, 24, 0, 761, 0, []),
  (55, .iload_n 1, 0, 0, 0, 0, 0, []),
  (56, .iaload, 0, 0, 0, 0, 0, []),
  (57, .aload_n 0, 0, 0, 0, 0, 0, []),
  (58, .getfield 71, 11, 24, 0, 761, 0, []),
  (61, .iload_n 2, 0, 0, 0, 0, 0, []),
  (62, .iaload, 0, 0, 0, 0, 0, []),
  (63, .if_icmp .ge 7, 70, 0, 0, 0, 0, []),
  (66, .iconst 1, 0, 0, 0, 0, 1, []),
  (67, .goto 27, 94, 0, 0, 0, 0, []),
  (70, .iconst 0, 0, 0, 0, 0, 0, []),
  (71, .goto 23, 94, 0, 0, 0, 0, []),
  (74, .aload_n 0, 0, 0, 0, 0, 0, []),
  (75, .getfield 74, 11, 25, 0, 762, 0, []),
  (78, .iload_n 1, 0, 0, 0, 0, 0, []),
  (79, .iaload, 0, 0, 0, 0, 0, []),
  (80, .aload_n 0, 0, 0, 0, 0, 0, []),
  (81, .getfield 74, 11, 25, 0, 762, 0, []),
  (84, .iload_n 2, 0, 0, 0, 0, 0, []),
  (85, .iaload, 0, 0, 0, 0, 0, []),
  (86, .if_icmp .ge 7, 93, 0, 0, 0, 0, []),
  (89, .iconst 1, 0, 0, 0, 0, 1, []),
  (90, .goto 4, 94, 0, 0, 0, 0, []),
  (93, .iconst 0, 0, 0, 0, 0, 0, []),
  (94, .ireturn, 0, 0, 0, 0, 0, [])])
def m_Model_isClosed : rv_M := (yX11_isClosed, cX11_isClosed, 3, some .boolean, RX11, 0, 0, (930, 60, 929, 31), [
  (0, .iload_n 2, 0, 0, 0, 0, 0, []),
  (1, .aload_n 0, 0, 0, 0, 0, 0, []),
  (2, .getfield 19, 11, 4, 0, 741, 0, []),
  (5, .iload_n 1, 0, 0, 0, 0, 0, []),
  (6, .iaload, 0, 0, 0, 0, 0, []),
  (7, .iadd, 0, 0, 0, 0, 0, []),
  (8, .aload_n 0, 0, 0, 0, 0, 0, []),
  (9, .getfield 25, 11, 6, 0, 743, 0, []),
  (12, .iload_n 1, 0, 0, 0, 0, 0, []),
  (13, .iaload, 0, 0, 0, 0, 0, []),
  (14, .if_icmp .gt 7, 21, 0, 0, 0, 0, []),
  (17, .iconst 1, 0, 0, 0, 0, 1, []),
  (18, .goto 4, 22, 0, 0, 0, 0, []),
  (21, .iconst 0, 0, 0, 0, 0, 0, []),
  (22, .ireturn, 0, 0, 0, 0, 0, [])])
def m_Model_due : rv_M := (yX11_due, cX11_due, 6, some .int, RX11, 1, 22, (926, 60, 925, 30), [
  (0, .ldc 124, 0, 0, 0, 736, (-99999999), []),
  (2, .istore_n 3, 0, 0, 0, 0, 0, []),
  (3, .iconst 0, 0, 0, 0, 0, 0, []),
  (4, .istore 4, 0, 0, 0, 0, 0, []),
  (6, .iload 4, 0, 0, 0, 0, 0, []),
  (8, .aload_n 0, 0, 0, 0, 0, 0, []),
  (9, .getfield 151, 11, 22, 0, 759, 0, []),
  (12, .if_icmp .ge 99, 111, 0, 0, 0, 0, []),
  (15, .aload_n 0, 0, 0, 0, 0, 0, []),
  (16, .getfield 68, 11, 23, 0, 760, 0, []),
  (19, .iload 4, 0, 0, 0, 0, 0, []),
  (21, .iaload, 0, 0, 0, 0, 0, []),
  (22, .iload_n 1, 0, 0, 0, 0, 0, []),
  (23, .if_icmp .ne 55, 78, 0, 0, 0, 0, []),
  (26, .iload_n 2, 0, 0, 0, 0, 0, []),
  (27, .ifCond .eq 21, 48, 0, 0, 0, 0, []),
  (30, .aload_n 0, 0, 0, 0, 0, 0, []),
  (31, .iload_n 1, 0, 0, 0, 0, 0, []),
  (32, .aload_n 0, 0, 0, 0, 0, 0, []),
  (33, .getfield 77, 11, 26, 0, 763, 0, []),
  (36, .iload 4, 0, 0, 0, 0, 0, []),
  (38, .iaload, 0, 0, 0, 0, 0, []),
  (39, .invokevirtual 154, 99, 2, 11, 927, 0, []),
  (42, .ifCond .eq 36, 78, 0, 0, 0, 0, []),
  (45, .goto 29, 74, 0, 0, 0, 0, []),
  (48, .aload_n 0, 0, 0, 0, 0, 0, []),
  (49, .getfield 93, 11, 31, 0, 768, 0, []),
  (52, .iload 4, 0, 0, 0, 0, 0, []),
  (54, .baload, 0, 0, 0, 0, 0, []),
  (55, .ifCond .ne 23, 78, 0, 0, 0, 0, []),
  (58, .aload_n 0, 0, 0, 0, 0, 0, []),
  (59, .getfield 77, 11, 26, 0, 763, 0, []),
  (62, .iload 4, 0, 0, 0, 0, 0, []),
  (64, .iaload, 0, 0, 0, 0, 0, []),
  (65, .aload_n 0, 0, 0, 0, 0, 0, []),
  (66, .getfield 25, 11, 6, 0, 743, 0, []),
  (69, .iload_n 1, 0, 0, 0, 0, 0, []),
  (70, .iaload, 0, 0, 0, 0, 0, []),
  (71, .if_icmp .gt 7, 78, 0, 0, 0, 0, []),
  (74, .iconst 1, 0, 0, 0, 0, 1, []),
  (75, .goto 4, 79, 0, 0, 0, 0, []),
  (78, .iconst 0, 0, 0, 0, 0, 0, []),
  (79, .istore 5, 0, 0, 0, 0, 0, []),
  (81, .iload 5, 0, 0, 0, 0, 0, []),
  (83, .ifCond .eq 22, 105, 0, 0, 0, 0, []),
  (86, .iload_n 3, 0, 0, 0, 0, 0, []),
  (87, .ldc 124, 0, 0, 0, 736, (-99999999), []),
  (89, .if_icmp .eq 13, 102, 0, 0, 0, 0, []),
  (92, .aload_n 0, 0, 0, 0, 0, 0, []),
  (93, .iload 4, 0, 0, 0, 0, 0, []),
  (95, .iload_n 3, 0, 0, 0, 0, 0, []),
  (96, .invokevirtual 158, 98, 2, 11, 931, 0, []),
  (99, .ifCond .eq 6, 105, 0, 0, 0, 0, []),
  (102, .iload 4, 0, 0, 0, 0, 0, []),
  (104, .istore_n 3, 0, 0, 0, 0, 0, []),
  (105, .iinc 4 1, 0, 0, 0, 0, 1, []),
  (108, .goto (-102), 6, 0, 0, 0, 0, []),
  (111, .iload_n 3, 0, 0, 0, 0, 0, []),
  (112, .ireturn, 0, 0, 0, 0, 0, [])])
def m_Model_moves : rv_M := (yX11_moves, cX11_moves, 5, some .int, RX11, 2, 49, (922, 60, 921, 29), [
  (0, .aload_n 0, 0, 0, 0, 0, 0, []),
  (1, .getfield 144, 11, 38, 0, 775, 0, []),
  (4, .istore_n 2, 0, 0, 0, 0, 0, []),
  (5, .ldc 140, 0, 0, 0, 909, 1000000000, []),
  (7, .istore_n 3, 0, 0, 0, 0, 0, []),
  (8, .iconst 0, 0, 0, 0, 0, 0, []),
  (9, .istore 4, 0, 0, 0, 0, 0, []),
  (11, .iload 4, 0, 0, 0, 0, 0, []),
  (13, .aload_n 0, 0, 0, 0, 0, 0, []),
  (14, .getfield 132, 11, 7, 0, 744, 0, []),
  (17, .if_icmp .ge 49, 66, 0, 0, 0, 0, []),
  (20, .aload_n 0, 0, 0, 0, 0, 0, []),
  (21, .getfield 28, 11, 8, 0, 745, 0, []),
  (24, .iload 4, 0, 0, 0, 0, 0, []),
  (26, .iaload, 0, 0, 0, 0, 0, []),
  (27, .iload_n 1, 0, 0, 0, 0, 0, []),
  (28, .if_icmp .ne 32, 60, 0, 0, 0, 0, []),
  (31, .aload_n 0, 0, 0, 0, 0, 0, []),
  (32, .getfield 34, 11, 10, 0, 747, 0, []),
  (35, .iload 4, 0, 0, 0, 0, 0, []),
  (37, .baload, 0, 0, 0, 0, 0, []),
  (38, .ifCond .ne 22, 60, 0, 0, 0, 0, []),
  (41, .aload_n 0, 0, 0, 0, 0, 0, []),
  (42, .getfield 31, 11, 9, 0, 746, 0, []),
  (45, .iload 4, 0, 0, 0, 0, 0, []),
  (47, .iaload, 0, 0, 0, 0, 0, []),
  (48, .iload_n 3, 0, 0, 0, 0, 0, []),
  (49, .if_icmp .ge 11, 60, 0, 0, 0, 0, []),
  (52, .aload_n 0, 0, 0, 0, 0, 0, []),
  (53, .getfield 31, 11, 9, 0, 746, 0, []),
  (56, .iload 4, 0, 0, 0, 0, 0, []),
  (58, .iaload, 0, 0, 0, 0, 0, []),
  (59, .istore_n 3, 0, 0, 0, 0, 0, []),
  (60, .iinc 4 1, 0, 0, 0, 0, 1, []),
  (63, .goto (-52), 11, 0, 0, 0, 0, []),
  (66, .iload_n 3, 0, 0, 0, 0, 0, []),
  (67, .aload_n 0, 0, 0, 0, 0, 0, []),
  (68, .getfield 25, 11, 6, 0, 743, 0, []),
  (71, .iload_n 1, 0, 0, 0, 0, 0, []),
  (72, .iaload, 0, 0, 0, 0, 0, []),
  (73, .if_icmp .gt 5, 78, 0, 0, 0, 0, []),
  (76, .iconst 0, 0, 0, 0, 0, 0, []),
  (77, .ireturn, 0, 0, 0, 0, 0, []),
  (78, .aload_n 0, 0, 0, 0, 0, 0, []),
  (79, .getfield 25, 11, 6, 0, 743, 0, []),
  (82, .iload_n 1, 0, 0, 0, 0, 0, []),
  (83, .iload_n 3, 0, 0, 0, 0, 0, []),
  (84, .iastore, 0, 0, 0, 0, 0, []),
  (85, .aload_n 0, 0, 0, 0, 0, 0, []),
  (86, .iload_n 1, 0, 0, 0, 0, 0, []),
  (87, .iconst 0, 0, 0, 0, 0, 0, []),
  (88, .invokevirtual 161, 100, 2, 11, 923, 0, []),
  (91, .istore 4, 0, 0, 0, 0, 0, []),
  (93, .iload 4, 0, 0, 0, 0, 0, []),
  (95, .ldc 124, 0, 0, 0, 736, (-99999999), []),
  (97, .if_icmp .eq 20, 117, 0, 0, 0, 0, []),
  (100, .aload_n 0, 0, 0, 0, 0, 0, []),
  (101, .iload 4, 0, 0, 0, 0, 0, []),
  (103, .invokevirtual 165, 95, 1, 11, 935, 0, []),
  (106, .aload_n 0, 0, 0, 0, 0, 0, []),
  (107, .iload_n 1, 0, 0, 0, 0, 0, []),
  (108, .iconst 0, 0, 0, 0, 0, 0, []),
  (109, .invokevirtual 161, 100, 2, 11, 923, 0, []),
  (112, .istore 4, 0, 0, 0, 0, 0, []),
  (114, .goto (-21), 93, 0, 0, 0, 0, []),
  (117, .aload_n 0, 0, 0, 0, 0, 0, []),
  (118, .iload_n 1, 0, 0, 0, 0, 0, []),
  (119, .iconst 1, 0, 0, 0, 0, 1, []),
  (120, .invokevirtual 161, 100, 2, 11, 923, 0, []),
  (123, .istore 4, 0, 0, 0, 0, 0, []),
  (125, .iload 4, 0, 0, 0, 0, 0, []),
  (127, .ldc 124, 0, 0, 0, 736, (-99999999), []),
  (129, .if_icmp .eq 52, 181, 0, 0, 0, 0, []),
  (132, .aload_n 0, 0, 0, 0, 0, 0, []),
  (133, .getfield 22, 11, 5, 0, 742, 0, []),
  (136, .iload_n 1, 0, 0, 0, 0, 0, []),
  (137, .iaload, 0, 0, 0, 0, 0, []),
  (138, .iconst 1, 0, 0, 0, 0, 1, []),
  (139, .if_icmp .ne 25, 164, 0, 0, 0, 0, []),
  (142, .aload_n 0, 0, 0, 0, 0, 0, []),
  (143, .getfield 96, 11, 32, 0, 769, 0, []),
  (146, .iload 4, 0, 0, 0, 0, 0, []),
  (148, .baload, 0, 0, 0, 0, 0, []),
  (149, .ifCond .eq 15, 164, 0, 0, 0, 0, []),
  (152, .aload_n 0, 0, 0, 0, 0, 0, []),
  (153, .iload 4, 0, 0, 0, 0, 0, []),
  (155, .invokevirtual 169, 96, 1, 11, 943, 0, []),
  (158, .aload_n 0, 0, 0, 0, 0, 0, []),
  (159, .iload 4, 0, 0, 0, 0, 0, []),
  (161, .invokevirtual 165, 95, 1, 11, 935, 0, []),
  (164, .aload_n 0, 0, 0, 0, 0, 0, []),
  (165, .iload 4, 0, 0, 0, 0, 0, []),
  (167, .invokevirtual 172, 97, 1, 11, 947, 0, []),
  (170, .aload_n 0, 0, 0, 0, 0, 0, []),
  (171, .iload_n 1, 0, 0, 0, 0, 0, []),
  (172, .iconst 1, 0, 0, 0, 0, 1, []),
  (173, .invokevirtual 161, 100, 2, 11, 923, 0, []),
  (176, .istore 4, 0, 0, 0, 0, 0, []),
  (178, .goto (-53), 125, 0, 0, 0, 0, []),
  (181, .aload_n 0, 0, 0, 0, 0, 0, []),
  (182, .getfield 144, 11, 38, 0, 775, 0, []),
  (185, .iload_n 2, 0, 0, 0, 0, 0, []),
  (186, .isub, 0, 0, 0, 0, 0, []),
  (187, .ireturn, 0, 0, 0, 0, 0, [])])
def m_Model_promise : rv_M := (yX11_promise, cX11_promise, 3, some .int, RX11, 3, 73, (913, 60, 911, 912), [
  (0, .aload_n 0, 0, 0, 0, 0, 0, []),
  (1, .iload_n 1, 0, 0, 0, 0, 0, []),
  (2, .invokevirtual 175, 91, 1, 11, 914, 0, []),
  (5, .ifCond .eq 13, 18, 0, 0, 0, 0, []),
  (8, .iload_n 2, 0, 0, 0, 0, 0, []),
  (9, .iconst 0, 0, 0, 0, 0, 0, []),
  (10, .ldc 178, 0, 0, 0, 918, 999999999, []),
  (12, .invokestatic 128, 87, 3, 0, 897, 0, []),
  (15, .ifCond .ne 5, 20, 0, 0, 0, 0, []),
  (18, .iconst (-1), 0, 0, 0, 0, (-1), []),
  (19, .ireturn, 0, 0, 0, 0, 0, []),
  (20, .aload_n 0, 0, 0, 0, 0, 0, []),
  (21, .getfield 31, 11, 9, 0, 746, 0, []),
  (24, .iload_n 1, 0, 0, 0, 0, 0, []),
  (25, .iaload, 0, 0, 0, 0, 0, []),
  (26, .iload_n 2, 0, 0, 0, 0, 0, []),
  (27, .if_icmp .gt 12, 39, 0, 0, 0, 0, []),
  (30, .aload_n 0, 0, 0, 0, 0, 0, []),
  (31, .getfield 34, 11, 10, 0, 747, 0, []),
  (34, .iload_n 1, 0, 0, 0, 0, 0, []),
  (35, .baload, 0, 0, 0, 0, 0, []),
  (36, .ifCond .eq 6, 42, 0, 0, 0, 0, []),
  (39, .bipush (-2), 0, 0, 0, 0, (-2), []),
  (41, .ireturn, 0, 0, 0, 0, 0, []),
  (42, .aload_n 0, 0, 0, 0, 0, 0, []),
  (43, .getfield 31, 11, 9, 0, 746, 0, []),
  (46, .iload_n 1, 0, 0, 0, 0, 0, []),
  (47, .iload_n 2, 0, 0, 0, 0, 0, []),
  (48, .iastore, 0, 0, 0, 0, 0, []),
  (49, .aload_n 0, 0, 0, 0, 0, 0, []),
  (50, .aload_n 0, 0, 0, 0, 0, 0, []),
  (51, .getfield 28, 11, 8, 0, 745, 0, []),
  (54, .iload_n 1, 0, 0, 0, 0, 0, []),
  (55, .iaload, 0, 0, 0, 0, 0, []),
  (56, .invokevirtual 179, 101, 1, 11, 919, 0, []),
  (59, .ireturn, 0, 0, 0, 0, 0, [])])
def m_Model_end : rv_M := (yX11_end, cX11_end, 2, some .int, RX11, 3, 73, (954, 60, 952, 953), [
  (0, .aload_n 0, 0, 0, 0, 0, 0, []),
  (1, .iload_n 1, 0, 0, 0, 0, 0, []),
  (2, .invokevirtual 175, 91, 1, 11, 914, 0, []),
  (5, .ifCond .ne 5, 10, 0, 0, 0, 0, []),
  (8, .iconst (-1), 0, 0, 0, 0, (-1), []),
  (9, .ireturn, 0, 0, 0, 0, 0, []),
  (10, .aload_n 0, 0, 0, 0, 0, 0, []),
  (11, .getfield 34, 11, 10, 0, 747, 0, []),
  (14, .iload_n 1, 0, 0, 0, 0, 0, []),
  (15, .baload, 0, 0, 0, 0, 0, []),
  (16, .ifCond .eq 6, 22, 0, 0, 0, 0, []),
  (19, .bipush (-2), 0, 0, 0, 0, (-2), []),
  (21, .ireturn, 0, 0, 0, 0, 0, []),
  (22, .aload_n 0, 0, 0, 0, 0, 0, []),
  (23, .getfield 34, 11, 10, 0, 747, 0, []),
  (26, .iload_n 1, 0, 0, 0, 0, 0, []),
  (27, .iconst 1, 0, 0, 0, 0, 1, []),
  (28, .bastore, 0, 0, 0, 0, 0, []),
  (29, .aload_n 0, 0, 0, 0, 0, 0, []),
  (30, .aload_n 0, 0, 0, 0, 0, 0, []),
  (31, .getfield 28, 11, 8, 0, 745, 0, []),
  (34, .iload_n 1, 0, 0, 0, 0, 0, []),
  (35, .iaload, 0, 0, 0, 0, 0, []),
  (36, .invokevirtual 179, 101, 1, 11, 919, 0, []),
  (39, .ireturn, 0, 0, 0, 0, 0, [])])
def m_Model_found : rv_M := (yX11_found, cX11_found, 5, some .int, RX11, 0, 0, (978, 60, 977, 40), [
  (0, .iconst 0, 0, 0, 0, 0, 0, []),
  (1, .istore 4, 0, 0, 0, 0, 0, []),
  (3, .iload 4, 0, 0, 0, 0, 0, []),
  (5, .aload_n 0, 0, 0, 0, 0, 0, []),
  (6, .getfield 151, 11, 22, 0, 759, 0, []),
  (9, .if_icmp .ge 45, 54, 0, 0, 0, 0, []),
  (12, .aload_n 0, 0, 0, 0, 0, 0, []),
  (13, .getfield 68, 11, 23, 0, 760, 0, []),
  (16, .iload 4, 0, 0, 0, 0, 0, []),
  (18, .iaload, 0, 0, 0, 0, 0, []),
  (19, .iload_n 1, 0, 0, 0, 0, 0, []),
  (20, .if_icmp .ne 28, 48, 0, 0, 0, 0, []),
  (23, .aload_n 0, 0, 0, 0, 0, 0, []),
  (24, .getfield 71, 11, 24, 0, 761, 0, []),
  (27, .iload 4, 0, 0, 0, 0, 0, []),
  (29, .iaload, 0, 0, 0, 0, 0, []),
  (30, .iload_n 2, 0, 0, 0, 0, 0, []),
  (31, .if_icmp .ne 17, 48, 0, 0, 0, 0, []),
  (34, .aload_n 0, 0, 0, 0, 0, 0, []),
  (35, .getfield 74, 11, 25, 0, 762, 0, []),
  (38, .iload 4, 0, 0, 0, 0, 0, []),
  (40, .iaload, 0, 0, 0, 0, 0, []),
  (41, .iload_n 3, 0, 0, 0, 0, 0, []),
  (42, .if_icmp .ne 6, 48, 0, 0, 0, 0, []),
  (45, .iload 4, 0, 0, 0, 0, 0, []),
  (47, .ireturn, 0, 0, 0, 0, 0, []),
  (48, .iinc 4 1, 0, 0, 0, 0, 1, []),
  (51, .goto (-48), 3, 0, 0, 0, 0, []),
  (54, .ldc 124, 0, 0, 0, 736, (-99999999), []),
  (56, .ireturn, 0, 0, 0, 0, 0, [])])
def m_Model_made : rv_M := (yX11_made, cX11_made, 5, some .int, RX11, 0, 0, (1002, 60, 1001, 46), [
  (0, .aload_n 0, 0, 0, 0, 0, 0, []),
  (1, .getfield 68, 11, 23, 0, 760, 0, []),
  (4, .aload_n 0, 0, 0, 0, 0, 0, []),
  (5, .getfield 151, 11, 22, 0, 759, 0, []),
  (8, .iload_n 1, 0, 0, 0, 0, 0, []),
  (9, .iastore, 0, 0, 0, 0, 0, []),
  (10, .aload_n 0, 0, 0, 0, 0, 0, []),
  (11, .getfield 71, 11, 24, 0, 761, 0, []),
  (14, .aload_n 0, 0, 0, 0, 0, 0, []),
  (15, .getfield 151, 11, 22, 0, 759, 0, []),
  (18, .iload_n 2, 0, 0, 0, 0, 0, []),
  (19, .iastore, 0, 0, 0, 0, 0, []),
  (20, .aload_n 0, 0, 0, 0, 0, 0, []),
  (21, .getfield 74, 11, 25, 0, 762, 0, []),
  (24, .aload_n 0, 0, 0, 0, 0, 0, []),
  (25, .getfield 151, 11, 22, 0, 759, 0, []),
  (28, .iload_n 3, 0, 0, 0, 0, 0, []),
  (29, .iastore, 0, 0, 0, 0, 0, []),
  (30, .aload_n 0, 0, 0, 0, 0, 0, []),
  (31, .getfield 77, 11, 26, 0, 763, 0, []),
  (34, .aload_n 0, 0, 0, 0, 0, 0, []),
  (35, .getfield 151, 11, 22, 0, 759, 0, []),
  (38, .iload 4, 0, 0, 0, 0, 0, []),
  (40, .iastore, 0, 0, 0, 0, 0, []),
  (41, .aload_n 0, 0, 0, 0, 0, 0, []),
  (42, .getfield 80, 11, 27, 0, 764, 0, []),
  (45, .aload_n 0, 0, 0, 0, 0, 0, []),
  (46, .getfield 151, 11, 22, 0, 759, 0, []),
  (49, .iconst 0, 0, 0, 0, 0, 0, []),
  (50, .iastore, 0, 0, 0, 0, 0, []),
  (51, .aload_n 0, 0, 0, 0, 0, 0, []),
  (52, .getfield 83, 11, 28, 0, 765, 0, []),
  (55, .aload_n 0, 0, 0, 0, 0, 0, []),
  (56, .getfield 151, 11, 22, 0, 759, 0, []),
  (59, .lconst 0, 0, 0, 0, 0, 0, []),
  (60, .lastore, 0, 0, 0, 0, 0, []),
  (61, .aload_n 0, 0, 0, 0, 0, 0, []),
  (62, .getfield 93, 11, 31, 0, 768, 0, []),
  (65, .aload_n 0, 0, 0, 0, 0, 0, []),
  (66, .getfield 151, 11, 22, 0, 759, 0, []),
  (69, .iconst 0, 0, 0, 0, 0, 0, []),
  (70, .bastore, 0, 0, 0, 0, 0, []),
  (71, .aload_n 0, 0, 0, 0, 0, 0, []),
  (72, .getfield 96, 11, 32, 0, 769, 0, []),
  (75, .aload_n 0, 0, 0, 0, 0, 0, []),
  (76, .getfield 151, 11, 22, 0, 759, 0, []),
  (79, .iconst 0, 0, 0, 0, 0, 0, []),
  (80, .bastore, 0, 0, 0, 0, 0, []),
  (81, .aload_n 0, 0, 0, 0, 0, 0, []),
  (82, .dup, 0, 0, 0, 0, 0, []),
  (83, .getfield 151, 11, 22, 0, 759, 0, []),
  (86, .iconst 1, 0, 0, 0, 0, 1, []),
  (87, .iadd, 0, 0, 0, 0, 0, []),
  (88, .putfield 151, 11, 22, 0, 759, 0, []),
  (91, .aload_n 0, 0, 0, 0, 0, 0, []),
  (92, .getfield 151, 11, 22, 0, 759, 0, []),
  (95, .iconst 1, 0, 0, 0, 0, 1, []),
  (96, .isub, 0, 0, 0, 0, 0, []),
  (97, .ireturn, 0, 0, 0, 0, 0, [])])
def m_Model_into : rv_M := (yX11_into, cX11_into, 3, none, RX11, 0, 0, (994, 60, 993, 44), [
  (0, .aload_n 0, 0, 0, 0, 0, 0, []),
  (1, .getfield 87, 11, 29, 0, 766, 0, []),
  (4, .iload_n 1, 0, 0, 0, 0, 0, []),
  (5, .aload_n 0, 0, 0, 0, 0, 0, []),
  (6, .getfield 80, 11, 27, 0, 764, 0, []),
  (9, .iload_n 1, 0, 0, 0, 0, 0, []),
  (10, .iaload, 0, 0, 0, 0, 0, []),
  (11, .ifCond .eq 13, 24, 0, 0, 0, 0, []),
  (14, .iload_n 2, 0, 0, 0, 0, 0, []),
  (15, .aload_n 0, 0, 0, 0, 0, 0, []),
  (16, .getfield 87, 11, 29, 0, 766, 0, []),
  (19, .iload_n 1, 0, 0, 0, 0, 0, []),
  (20, .iaload, 0, 0, 0, 0, 0, []),
  (21, .if_icmp .ge 7, 28, 0, 0, 0, 0, []),
  (24, .iload_n 2, 0, 0, 0, 0, 0, []),
  (25, .goto 9, 34, 0, 0, 0, 0, []),
  (28, .aload_n 0, 0, 0, 0, 0, 0, []),
  (29, .getfield 87, 11, 29, 0, 766, 0, []),
  (32, .iload_n 1, 0, 0, 0, 0, 0, []),
  (33, .iaload, 0, 0, 0, 0, 0, []),
  (34, .iastore, 0, 0, 0, 0, 0, []),
  (35, .aload_n 0, 0, 0, 0, 0, 0, []),
  (36, .getfield 90, 11, 30, 0, 767, 0, []),
  (39, .iload_n 1, 0, 0, 0, 0, 0, []),
  (40, .aload_n 0, 0, 0, 0, 0, 0, []),
  (41, .getfield 80, 11, 27, 0, 764, 0, []),
  (44, .iload_n 1, 0, 0, 0, 0, 0, []),
  (45, .iaload, 0, 0, 0, 0, 0, []),
  (46, .ifCond .eq 13, 59, 0, 0, 0, 0, []),
  (49, .iload_n 2, 0, 0, 0, 0, 0, []),
  (50, .aload_n 0, 0, 0, 0, 0, 0, []),
  (51, .getfield 90, 11, 30, 0, 767, 0, []),
  (54, .iload_n 1, 0, 0, 0, 0, 0, []),
  (55, .iaload, 0, 0, 0, 0, 0, []),
  (56, .if_icmp .le 7, 63, 0, 0, 0, 0, []),
  (59, .iload_n 2, 0, 0, 0, 0, 0, []),
  (60, .goto 9, 69, 0, 0, 0, 0, []),
  (63, .aload_n 0, 0, 0, 0, 0, 0, []),
  (64, .getfield 90, 11, 30, 0, 767, 0, []),
  (67, .iload_n 1, 0, 0, 0, 0, 0, []),
  (68, .iaload, 0, 0, 0, 0, 0, []),
  (69, .iastore, 0, 0, 0, 0, 0, []),
  (70, .aload_n 0, 0, 0, 0, 0, 0, []),
  (71, .getfield 80, 11, 27, 0, 764, 0, []),
  (74, .iload_n 1, 0, 0, 0, 0, 0, []),
  (75, .dup2, 0, 0, 0, 0, 0, []),
  (76, .iaload, 0, 0, 0, 0, 0, []),
  (77, .iconst 1, 0, 0, 0, 0, 1, []),
  (78, .iadd, 0, 0, 0, 0, 0, []),
  (79, .iastore, 0, 0, 0, 0, 0, []),
  (80, .aload_n 0, 0, 0, 0, 0, 0, []),
  (81, .getfield 83, 11, 28, 0, 765, 0, []),
  (84, .iload_n 1, 0, 0, 0, 0, 0, []),
  (85, .dup2, 0, 0, 0, 0, 0, []),
  (86, .laload, 0, 0, 0, 0, 0, []),
  (87, .iload_n 2, 0, 0, 0, 0, 0, []),
  (88, .i2l, 0, 0, 0, 0, 0, []),
  (89, .ladd, 0, 0, 0, 0, 0, []),
  (90, .lastore, 0, 0, 0, 0, 0, []),
  (91, .aload_n 0, 0, 0, 0, 0, 0, []),
  (92, .getfield 96, 11, 32, 0, 769, 0, []),
  (95, .iload_n 1, 0, 0, 0, 0, 0, []),
  (96, .iconst 1, 0, 0, 0, 0, 1, []),
  (97, .bastore, 0, 0, 0, 0, 0, []),
  (98, .return_, 0, 0, 0, 0, 0, [])])
def m_Model_follows : rv_M := (yX11_follows, cX11_follows, 3, none, RX11, 2, 49, (998, 60, 997, 45), [
  (0, .aload_n 0, 0, 0, 0, 0, 0, []),
  (1, .getfield 68, 11, 23, 0, 760, 0, []),
  (4, .iload_n 1, 0, 0, 0, 0, 0, []),
  (5, .iaload, 0, 0, 0, 0, 0, []),
  (6, .istore_n 2, 0, 0, 0, 0, 0, []),
  (7, .aload_n 0, 0, 0, 0, 0, 0, []),
  (8, .getfield 93, 11, 31, 0, 768, 0, []),
  (11, .iload_n 1, 0, 0, 0, 0, 0, []),
  (12, .baload, 0, 0, 0, 0, 0, []),
  (13, .ifCond .eq 26, 39, 0, 0, 0, 0, []),
  (16, .aload_n 0, 0, 0, 0, 0, 0, []),
  (17, .getfield 22, 11, 5, 0, 742, 0, []),
  (20, .iload_n 2, 0, 0, 0, 0, 0, []),
  (21, .iaload, 0, 0, 0, 0, 0, []),
  (22, .iconst 1, 0, 0, 0, 0, 1, []),
  (23, .if_icmp .eq 36, 59, 0, 0, 0, 0, []),
  (26, .aload_n 0, 0, 0, 0, 0, 0, []),
  (27, .iload_n 1, 0, 0, 0, 0, 0, []),
  (28, .invokevirtual 169, 96, 1, 11, 943, 0, []),
  (31, .aload_n 0, 0, 0, 0, 0, 0, []),
  (32, .iload_n 1, 0, 0, 0, 0, 0, []),
  (33, .invokevirtual 165, 95, 1, 11, 935, 0, []),
  (36, .goto 23, 59, 0, 0, 0, 0, []),
  (39, .aload_n 0, 0, 0, 0, 0, 0, []),
  (40, .getfield 77, 11, 26, 0, 763, 0, []),
  (43, .iload_n 1, 0, 0, 0, 0, 0, []),
  (44, .iaload, 0, 0, 0, 0, 0, []),
  (45, .aload_n 0, 0, 0, 0, 0, 0, []),
  (46, .getfield 25, 11, 6, 0, 743, 0, []),
  (49, .iload_n 2, 0, 0, 0, 0, 0, []),
  (50, .iaload, 0, 0, 0, 0, 0, []),
  (51, .if_icmp .gt 8, 59, 0, 0, 0, 0, []),
  (54, .aload_n 0, 0, 0, 0, 0, 0, []),
  (55, .iload_n 1, 0, 0, 0, 0, 0, []),
  (56, .invokevirtual 165, 95, 1, 11, 935, 0, []),
  (59, .return_, 0, 0, 0, 0, 0, [])])
def m_Model_meets : rv_M := (yX11_meets, cX11_meets, 6, some .boolean, RX11, 0, 0, (967, 60, 966, 38), [
  (0, .aload_n 0, 0, 0, 0, 0, 0, []),
  (1, .getfield 68, 11, 23, 0, 760, 0, []),
  (4, .iload_n 1, 0, 0, 0, 0, 0, []),
  (5, .iaload, 0, 0, 0, 0, 0, []),
  (6, .iload_n 2, 0, 0, 0, 0, 0, []),
  (7, .if_icmp .ne 39, 46, 0, 0, 0, 0, []),
  (10, .aload_n 0, 0, 0, 0, 0, 0, []),
  (11, .getfield 71, 11, 24, 0, 761, 0, []),
  (14, .iload_n 1, 0, 0, 0, 0, 0, []),
  (15, .iaload, 0, 0, 0, 0, 0, []),
  (16, .iload_n 3, 0, 0, 0, 0, 0, []),
  (17, .if_icmp .ne 29, 46, 0, 0, 0, 0, []),
  (20, .aload_n 0, 0, 0, 0, 0, 0, []),
  (21, .getfield 74, 11, 25, 0, 762, 0, []),
  (24, .iload_n 1, 0, 0, 0, 0, 0, []),
  (25, .iaload, 0, 0, 0, 0, 0, []),
  (26, .iload 5, 0, 0, 0, 0, 0, []),
  (28, .if_icmp .ge 18, 46, 0, 0, 0, 0, []),
  (31, .iload 4, 0, 0, 0, 0, 0, []),
  (33, .aload_n 0, 0, 0, 0, 0, 0, []),
  (34, .getfield 77, 11, 26, 0, 763, 0, []),
  (37, .iload_n 1, 0, 0, 0, 0, 0, []),
  (38, .iaload, 0, 0, 0, 0, 0, []),
  (39, .if_icmp .ge 7, 46, 0, 0, 0, 0, []),
  (42, .iconst 1, 0, 0, 0, 0, 1, []),
  (43, .goto 4, 47, 0, 0, 0, 0, []),
  (46, .iconst 0, 0, 0, 0, 0, 0, []),
  (47, .ireturn, 0, 0, 0, 0, 0, [])])
def m_Model_joined : rv_M := (yX11_joined, cX11_joined, 7, none, RX11, 1, 25, (963, 60, 962, 37), [
  (0, .aload_n 0, 0, 0, 0, 0, 0, []),
  (1, .iload_n 3, 0, 0, 0, 0, 0, []),
  (2, .putfield 183, 11, 45, 0, 782, 0, []),
  (5, .aload_n 0, 0, 0, 0, 0, 0, []),
  (6, .iload_n 3, 0, 0, 0, 0, 0, []),
  (7, .aload_n 0, 0, 0, 0, 0, 0, []),
  (8, .getfield 13, 11, 2, 0, 739, 0, []),
  (11, .iload_n 1, 0, 0, 0, 0, 0, []),
  (12, .iaload, 0, 0, 0, 0, 0, []),
  (13, .iadd, 0, 0, 0, 0, 0, []),
  (14, .putfield 186, 11, 46, 0, 783, 0, []),
  (17, .aload_n 0, 0, 0, 0, 0, 0, []),
  (18, .iconst 0, 0, 0, 0, 0, 0, []),
  (19, .putfield 189, 11, 47, 0, 784, 0, []),
  (22, .aload_n 0, 0, 0, 0, 0, 0, []),
  (23, .iconst 0, 0, 0, 0, 0, 0, []),
  (24, .putfield 192, 11, 48, 0, 785, 0, []),
  (27, .iload_n 3, 0, 0, 0, 0, 0, []),
  (28, .istore 4, 0, 0, 0, 0, 0, []),
  (30, .aload_n 0, 0, 0, 0, 0, 0, []),
  (31, .getfield 186, 11, 46, 0, 783, 0, []),
  (34, .istore 5, 0, 0, 0, 0, 0, []),
  (36, .iconst 0, 0, 0, 0, 0, 0, []),
  (37, .istore 6, 0, 0, 0, 0, 0, []),
  (39, .iload 6, 0, 0, 0, 0, 0, []),
  (41, .aload_n 0, 0, 0, 0, 0, 0, []),
  (42, .getfield 151, 11, 22, 0, 759, 0, []),
  (45, .if_icmp .ge 113, 158, 0, 0, 0, 0, []),
  (48, .aload_n 0, 0, 0, 0, 0, 0, []),
  (49, .iload 6, 0, 0, 0, 0, 0, []),
  (51, .iload_n 1, 0, 0, 0, 0, 0, []),
  (52, .iload_n 2, 0, 0, 0, 0, 0, []),
  (53, .iload 4, 0, 0, 0, 0, 0, []),
  (55, .iload 5, 0, 0, 0, 0, 0, []),
  (57, .invokevirtual 196, 108, 5, 11, 964, 0, []),
  (60, .ifCond .ne 6, 66, 0, 0, 0, 0, []),
  (63, .goto 89, 152, 0, 0, 0, 0, []),
  (66, .aload_n 0, 0, 0, 0, 0, 0, []),
  (67, .dup, 0, 0, 0, 0, 0, []),
  (68, .getfield 189, 11, 47, 0, 784, 0, []),
  (71, .iconst 1, 0, 0, 0, 0, 1, []),
  (72, .iadd, 0, 0, 0, 0, 0, []),
  (73, .putfield 189, 11, 47, 0, 784, 0, []),
  (76, .aload_n 0, 0, 0, 0, 0, 0, []),
  (77, .aload_n 0, 0, 0, 0, 0, 0, []),
  (78, .getfield 192, 11, 48, 0, 785, 0, []),
  (81, .ifCond .ne 13, 94, 0, 0, 0, 0, []),
  (84, .aload_n 0, 0, 0, 0, 0, 0, []),
  (85, .getfield 93, 11, 31, 0, 768, 0, []),
  (88, .iload 6, 0, 0, 0, 0, 0, []),
  (90, .baload, 0, 0, 0, 0, 0, []),
  (91, .ifCond .eq 7, 98, 0, 0, 0, 0, []),
  (94, .iconst 1, 0, 0, 0, 0, 1, []),
  (95, .goto 4, 99, 0, 0, 0, 0, []),
  (98, .iconst 0, 0, 0, 0, 0, 0, []),
  (99, .putfield 192, 11, 48, 0, 785, 0, []),
  (102, .aload_n 0, 0, 0, 0, 0, 0, []),
  (103, .getfield 74, 11, 25, 0, 762, 0, []),
  (106, .iload 6, 0, 0, 0, 0, 0, []),
  (108, .iaload, 0, 0, 0, 0, 0, []),
  (109, .aload_n 0, 0, 0, 0, 0, 0, []),
  (110, .getfield 183, 11, 45, 0, 782, 0, []),
  (113, .if_icmp .ge 14, 127, 0, 0, 0, 0, []),
  (116, .aload_n 0, 0, 0, 0, 0, 0, []),
  (117, .aload_n 0, 0, 0, 0, 0, 0, []),
  (118, .getfield 74, 11, 25, 0, 762, 0, []),
  (121, .iload 6, 0, 0, 0, 0, 0, []),
  (123, .iaload, 0, 0, 0, 0, 0, []),
  (124, .putfield 183, 11, 45, 0, 782, 0, []),
  (127, .aload_n 0, 0, 0, 0, 0, 0, []),
  (128, .getfield 77, 11, 26, 0, 763, 0, []),
  (131, .iload 6, 0, 0, 0, 0, 0, []),
  (133, .iaload, 0, 0, 0, 0, 0, []),
  (134, .aload_n 0, 0, 0, 0, 0, 0, []),
  (135, .getfield 186, 11, 46, 0, 783, 0, []),
  (138, .if_icmp .le 14, 152, 0, 0, 0, 0, []),
  (141, .aload_n 0, 0, 0, 0, 0, 0, []),
  (142, .aload_n 0, 0, 0, 0, 0, 0, []),
  (143, .getfield 77, 11, 26, 0, 763, 0, []),
  (146, .iload 6, 0, 0, 0, 0, 0, []),
  (148, .iaload, 0, 0, 0, 0, 0, []),
  (149, .putfield 186, 11, 46, 0, 783, 0, []),
  (152, .iinc 6 1, 0, 0, 0, 0, 1, []),
  (155, .goto (-116), 39, 0, 0, 0, 0, []),
  (158, .return_, 0, 0, 0, 0, 0, [])])
def m_Model_beginOf : rv_M := (yX11_beginOf, cX11_beginOf, 8, some .int, RX11, 1, 22, (971, 60, 970, 39), [
  (0, .aload_n 0, 0, 0, 0, 0, 0, []),
  (1, .getfield 7, 11, 1, 0, 738, 0, []),
  (4, .iload_n 1, 0, 0, 0, 0, 0, []),
  (5, .iaload, 0, 0, 0, 0, 0, []),
  (6, .ifCond .ne 12, 18, 0, 0, 0, 0, []),
  (9, .aload_n 0, 0, 0, 0, 0, 0, []),
  (10, .getfield 13, 11, 2, 0, 739, 0, []),
  (13, .iload_n 1, 0, 0, 0, 0, 0, []),
  (14, .iaload, 0, 0, 0, 0, 0, []),
  (15, .goto 9, 24, 0, 0, 0, 0, []),
  (18, .aload_n 0, 0, 0, 0, 0, 0, []),
  (19, .getfield 16, 11, 3, 0, 740, 0, []),
  (22, .iload_n 1, 0, 0, 0, 0, 0, []),
  (23, .iaload, 0, 0, 0, 0, 0, []),
  (24, .istore 4, 0, 0, 0, 0, 0, []),
  (26, .iload_n 2, 0, 0, 0, 0, 0, []),
  (27, .iload 4, 0, 0, 0, 0, 0, []),
  (29, .invokestatic 200, 88, 2, 0, 972, 0, []),
  (32, .iload 4, 0, 0, 0, 0, 0, []),
  (34, .imul, 0, 0, 0, 0, 0, []),
  (35, .istore 5, 0, 0, 0, 0, 0, []),
  (37, .iload 5, 0, 0, 0, 0, 0, []),
  (39, .istore 6, 0, 0, 0, 0, 0, []),
  (41, .iload 6, 0, 0, 0, 0, 0, []),
  (43, .iload 4, 0, 0, 0, 0, 0, []),
  (45, .isub, 0, 0, 0, 0, 0, []),
  (46, .aload_n 0, 0, 0, 0, 0, 0, []),
  (47, .getfield 13, 11, 2, 0, 739, 0, []),
  (50, .iload_n 1, 0, 0, 0, 0, 0, []),
  (51, .iaload, 0, 0, 0, 0, 0, []),
  (52, .iadd, 0, 0, 0, 0, 0, []),
  (53, .iload_n 2, 0, 0, 0, 0, 0, []),
  (54, .if_icmp .le 13, 67, 0, 0, 0, 0, []),
  (57, .iload 6, 0, 0, 0, 0, 0, []),
  (59, .iload 4, 0, 0, 0, 0, 0, []),
  (61, .isub, 0, 0, 0, 0, 0, []),
  (62, .istore 6, 0, 0, 0, 0, 0, []),
  (64, .goto (-23), 41, 0, 0, 0, 0, []),
  (67, .iload 6, 0, 0, 0, 0, 0, []),
  (69, .iload_n 3, 0, 0, 0, 0, 0, []),
  (70, .iload 4, 0, 0, 0, 0, 0, []),
  (72, .imul, 0, 0, 0, 0, 0, []),
  (73, .iadd, 0, 0, 0, 0, 0, []),
  (74, .istore 7, 0, 0, 0, 0, 0, []),
  (76, .iload 7, 0, 0, 0, 0, 0, []),
  (78, .iload 5, 0, 0, 0, 0, 0, []),
  (80, .if_icmp .gt 8, 88, 0, 0, 0, 0, []),
  (83, .iload 7, 0, 0, 0, 0, 0, []),
  (85, .goto 5, 90, 0, 0, 0, 0, []),
  (88, .ldc 124, 0, 0, 0, 736, (-99999999), []),
  (90, .ireturn, 0, 0, 0, 0, 0, [])])
def m_Model_putAside : rv_M := (yX11_putAside, cX11_putAside, 7, some .boolean, RX11, 0, 0, (982, 60, 981, 41), [
  (0, .aload_n 0, 0, 0, 0, 0, 0, []),
  (1, .getfield 204, 11, 40, 0, 777, 0, []),
  (4, .aload_n 0, 0, 0, 0, 0, 0, []),
  (5, .getfield 117, 11, 42, 0, 779, 0, []),
  (8, .if_icmp .ne 90, 98, 0, 0, 0, 0, []),
  (11, .aload_n 0, 0, 0, 0, 0, 0, []),
  (12, .getfield 207, 11, 43, 0, 780, 0, []),
  (15, .iconst 1, 0, 0, 0, 0, 1, []),
  (16, .if_icmp .ne 12, 28, 0, 0, 0, 0, []),
  (19, .aload_n 0, 0, 0, 0, 0, 0, []),
  (20, .getfield 38, 11, 11, 0, 748, 0, []),
  (23, .iload_n 1, 0, 0, 0, 0, 0, []),
  (24, .iconst 1, 0, 0, 0, 0, 1, []),
  (25, .bastore, 0, 0, 0, 0, 0, []),
  (26, .iconst 0, 0, 0, 0, 0, 0, []),
  (27, .ireturn, 0, 0, 0, 0, 0, []),
  (28, .aload_n 0, 0, 0, 0, 0, 0, []),
  (29, .dup, 0, 0, 0, 0, 0, []),
  (30, .getfield 210, 11, 44, 0, 781, 0, []),
  (33, .iconst 1, 0, 0, 0, 0, 1, []),
  (34, .iadd, 0, 0, 0, 0, 0, []),
  (35, .putfield 210, 11, 44, 0, 781, 0, []),
  (38, .iconst 0, 0, 0, 0, 0, 0, []),
  (39, .istore 6, 0, 0, 0, 0, 0, []),
  (41, .iload 6, 0, 0, 0, 0, 0, []),
  (43, .iconst 5, 0, 0, 0, 0, 5, []),
  (44, .aload_n 0, 0, 0, 0, 0, 0, []),
  (45, .getfield 204, 11, 40, 0, 777, 0, []),
  (48, .iconst 1, 0, 0, 0, 0, 1, []),
  (49, .isub, 0, 0, 0, 0, 0, []),
  (50, .imul, 0, 0, 0, 0, 0, []),
  (51, .if_icmp .ge 25, 76, 0, 0, 0, 0, []),
  (54, .aload_n 0, 0, 0, 0, 0, 0, []),
  (55, .getfield 114, 11, 41, 0, 778, 0, []),
  (58, .iload 6, 0, 0, 0, 0, 0, []),
  (60, .aload_n 0, 0, 0, 0, 0, 0, []),
  (61, .getfield 114, 11, 41, 0, 778, 0, []),
  (64, .iload 6, 0, 0, 0, 0, 0, []),
  (66, .iconst 5, 0, 0, 0, 0, 5, []),
  (67, .iadd, 0, 0, 0, 0, 0, []),
  (68, .iaload, 0, 0, 0, 0, 0, []),
  (69, .iastore, 0, 0, 0, 0, 0, []),
  (70, .iinc 6 1, 0, 0, 0, 0, 1, []),
  (73, .goto (-32), 41, 0, 0, 0, 0, []),
  (76, .aload_n 0, 0, 0, 0, 0, 0, []),
  (77, .getfield 204, 11, 40, 0, 777, 0, []),
  (80, .ifCond .le 16, 96, 0, 0, 0, 0, []),
  (83, .aload_n 0, 0, 0, 0, 0, 0, []),
  (84, .dup, 0, 0, 0, 0, 0, []),
  (85, .getfield 204, 11, 40, 0, 777, 0, []),
  (88, .iconst 1, 0, 0, 0, 0, 1, []),
  (89, .isub, 0, 0, 0, 0, 0, []),
  (90, .putfield 204, 11, 40, 0, 777, 0, []),
  (93, .goto 5, 98, 0, 0, 0, 0, []),
  (96, .iconst 1, 0, 0, 0, 0, 1, []),
  (97, .ireturn, 0, 0, 0, 0, 0, []),
  (98, .iconst 5, 0, 0, 0, 0, 5, []),
  (99, .aload_n 0, 0, 0, 0, 0, 0, []),
  (100, .getfield 204, 11, 40, 0, 777, 0, []),
  (103, .imul, 0, 0, 0, 0, 0, []),
  (104, .istore 6, 0, 0, 0, 0, 0, []),
  (106, .aload_n 0, 0, 0, 0, 0, 0, []),
  (107, .getfield 114, 11, 41, 0, 778, 0, []),
  (110, .iload 6, 0, 0, 0, 0, 0, []),
  (112, .iload_n 1, 0, 0, 0, 0, 0, []),
  (113, .iastore, 0, 0, 0, 0, 0, []),
  (114, .aload_n 0, 0, 0, 0, 0, 0, []),
  (115, .getfield 114, 11, 41, 0, 778, 0, []),
  (118, .iload 6, 0, 0, 0, 0, 0, []),
  (120, .iconst 1, 0, 0, 0, 0, 1, []),
  (121, .iadd, 0, 0, 0, 0, 0, []),
  (122, .iload_n 2, 0, 0, 0, 0, 0, []),
  (123, .iastore, 0, 0, 0, 0, 0, []),
  (124, .aload_n 0, 0, 0, 0, 0, 0, []),
  (125, .getfield 114, 11, 41, 0, 778, 0, []),
  (128, .iload 6, 0, 0, 0, 0, 0, []),
  (130, .iconst 2, 0, 0, 0, 0, 2, []),
  (131, .iadd, 0, 0, 0, 0, 0, []),
  (132, .iload_n 3, 0, 0, 0, 0, 0, []),
  (133, .iastore, 0, 0, 0, 0, 0, []),
  (134, .aload_n 0, 0, 0, 0, 0, 0, []),
  (135, .getfield 114, 11, 41, 0, 778, 0, []),
  (138, .iload 6, 0, 0, 0, 0, 0, []),
  (140, .iconst 3, 0, 0, 0, 0, 3, []),
  (141, .iadd, 0, 0, 0, 0, 0, []),
  (142, .iload 4, 0, 0, 0, 0, 0, []),
  (144, .iastore, 0, 0, 0, 0, 0, []),
  (145, .aload_n 0, 0, 0, 0, 0, 0, []),
  (146, .getfield 114, 11, 41, 0, 778, 0, []),
  (149, .iload 6, 0, 0, 0, 0, 0, []),
  (151, .iconst 4, 0, 0, 0, 0, 4, []),
  (152, .iadd, 0, 0, 0, 0, 0, []),
  (153, .iload 5, 0, 0, 0, 0, 0, []),
  (155, .iastore, 0, 0, 0, 0, 0, []),
  (156, .aload_n 0, 0, 0, 0, 0, 0, []),
  (157, .dup, 0, 0, 0, 0, 0, []),
  (158, .getfield 204, 11, 40, 0, 777, 0, []),
  (161, .iconst 1, 0, 0, 0, 0, 1, []),
  (162, .iadd, 0, 0, 0, 0, 0, []),
  (163, .putfield 204, 11, 40, 0, 777, 0, []),
  (166, .iconst 1, 0, 0, 0, 0, 1, []),
  (167, .ireturn, 0, 0, 0, 0, 0, [])])
def m_Model_came : rv_M := (yX11_came, cX11_came, 6, none, RX11, 0, 0, (986, 60, 985, 42), [
  (0, .aload_n 0, 0, 0, 0, 0, 0, []),
  (1, .getfield 53, 11, 17, 0, 754, 0, []),
  (4, .aload_n 0, 0, 0, 0, 0, 0, []),
  (5, .getfield 213, 11, 16, 0, 753, 0, []),
  (8, .iload_n 1, 0, 0, 0, 0, 0, []),
  (9, .iastore, 0, 0, 0, 0, 0, []),
  (10, .aload_n 0, 0, 0, 0, 0, 0, []),
  (11, .getfield 56, 11, 18, 0, 755, 0, []),
  (14, .aload_n 0, 0, 0, 0, 0, 0, []),
  (15, .getfield 213, 11, 16, 0, 753, 0, []),
  (18, .iload_n 2, 0, 0, 0, 0, 0, []),
  (19, .iastore, 0, 0, 0, 0, 0, []),
  (20, .aload_n 0, 0, 0, 0, 0, 0, []),
  (21, .getfield 59, 11, 19, 0, 756, 0, []),
  (24, .aload_n 0, 0, 0, 0, 0, 0, []),
  (25, .getfield 213, 11, 16, 0, 753, 0, []),
  (28, .iload_n 3, 0, 0, 0, 0, 0, []),
  (29, .iastore, 0, 0, 0, 0, 0, []),
  (30, .aload_n 0, 0, 0, 0, 0, 0, []),
  (31, .getfield 62, 11, 20, 0, 757, 0, []),
  (34, .aload_n 0, 0, 0, 0, 0, 0, []),
  (35, .getfield 213, 11, 16, 0, 753, 0, []),
  (38, .iload 4, 0, 0, 0, 0, 0, []),
  (40, .iastore, 0, 0, 0, 0, 0, []),
  (41, .aload_n 0, 0, 0, 0, 0, 0, []),
  (42, .getfield 65, 11, 21, 0, 758, 0, []),
  (45, .aload_n 0, 0, 0, 0, 0, 0, []),
  (46, .getfield 213, 11, 16, 0, 753, 0, []),
  (49, .iload 5, 0, 0, 0, 0, 0, []),
  (51, .bastore, 0, 0, 0, 0, 0, []),
  (52, .aload_n 0, 0, 0, 0, 0, 0, []),
  (53, .dup, 0, 0, 0, 0, 0, []),
  (54, .getfield 213, 11, 16, 0, 753, 0, []),
  (57, .iconst 1, 0, 0, 0, 0, 1, []),
  (58, .iadd, 0, 0, 0, 0, 0, []),
  (59, .putfield 213, 11, 16, 0, 753, 0, []),
  (62, .iload 5, 0, 0, 0, 0, 0, []),
  (64, .ifCond .eq 16, 80, 0, 0, 0, 0, []),
  (67, .aload_n 0, 0, 0, 0, 0, 0, []),
  (68, .getfield 41, 11, 12, 0, 749, 0, []),
  (71, .iload_n 1, 0, 0, 0, 0, 0, []),
  (72, .dup2, 0, 0, 0, 0, 0, []),
  (73, .iaload, 0, 0, 0, 0, 0, []),
  (74, .iconst 1, 0, 0, 0, 0, 1, []),
  (75, .iadd, 0, 0, 0, 0, 0, []),
  (76, .iastore, 0, 0, 0, 0, 0, []),
  (77, .goto 13, 90, 0, 0, 0, 0, []),
  (80, .aload_n 0, 0, 0, 0, 0, 0, []),
  (81, .getfield 44, 11, 13, 0, 750, 0, []),
  (84, .iload_n 1, 0, 0, 0, 0, 0, []),
  (85, .dup2, 0, 0, 0, 0, 0, []),
  (86, .iaload, 0, 0, 0, 0, 0, []),
  (87, .iconst 1, 0, 0, 0, 0, 1, []),
  (88, .iadd, 0, 0, 0, 0, 0, []),
  (89, .iastore, 0, 0, 0, 0, 0, []),
  (90, .iload_n 3, 0, 0, 0, 0, 0, []),
  (91, .aload_n 0, 0, 0, 0, 0, 0, []),
  (92, .getfield 31, 11, 9, 0, 746, 0, []),
  (95, .iload_n 1, 0, 0, 0, 0, 0, []),
  (96, .iaload, 0, 0, 0, 0, 0, []),
  (97, .if_icmp .ge 29, 126, 0, 0, 0, 0, []),
  (100, .aload_n 0, 0, 0, 0, 0, 0, []),
  (101, .getfield 47, 11, 14, 0, 751, 0, []),
  (104, .iload_n 1, 0, 0, 0, 0, 0, []),
  (105, .iaload, 0, 0, 0, 0, 0, []),
  (106, .ifCond .ne 10, 116, 0, 0, 0, 0, []),
  (109, .aload_n 0, 0, 0, 0, 0, 0, []),
  (110, .getfield 50, 11, 15, 0, 752, 0, []),
  (113, .iload_n 1, 0, 0, 0, 0, 0, []),
  (114, .iload_n 3, 0, 0, 0, 0, 0, []),
  (115, .iastore, 0, 0, 0, 0, 0, []),
  (116, .aload_n 0, 0, 0, 0, 0, 0, []),
  (117, .getfield 47, 11, 14, 0, 751, 0, []),
  (120, .iload_n 1, 0, 0, 0, 0, 0, []),
  (121, .dup2, 0, 0, 0, 0, 0, []),
  (122, .iaload, 0, 0, 0, 0, 0, []),
  (123, .iconst 1, 0, 0, 0, 0, 1, []),
  (124, .iadd, 0, 0, 0, 0, 0, []),
  (125, .iastore, 0, 0, 0, 0, 0, []),
  (126, .return_, 0, 0, 0, 0, 0, [])])
def m_Model_row : rv_M := (yX11_row, cX11_row, 12, some .int, RX11, 4, 105, (958, 60, 956, 957), [
  (0, .aload_n 0, 0, 0, 0, 0, 0, []),
  (1, .iload_n 1, 0, 0, 0, 0, 0, []),
  (2, .invokevirtual 175, 91, 1, 11, 914, 0, []),
  (5, .ifCond .eq 23, 28, 0, 0, 0, 0, []),
  (8, .iload_n 2, 0, 0, 0, 0, 0, []),
  (9, .iconst 0, 0, 0, 0, 0, 0, []),
  (10, .bipush 9, 0, 0, 0, 0, 9, []),
  (12, .invokestatic 128, 87, 3, 0, 897, 0, []),
  (15, .ifCond .eq 13, 28, 0, 0, 0, 0, []),
  (18, .iload_n 3, 0, 0, 0, 0, 0, []),
  (19, .iconst 0, 0, 0, 0, 0, 0, []),
  (20, .ldc 216, 0, 0, 0, 959, 100000000, []),
  (22, .invokestatic 128, 87, 3, 0, 897, 0, []),
  (25, .ifCond .ne 5, 30, 0, 0, 0, 0, []),
  (28, .iconst (-1), 0, 0, 0, 0, (-1), []),
  (29, .ireturn, 0, 0, 0, 0, 0, []),
  (30, .aload_n 0, 0, 0, 0, 0, 0, []),
  (31, .getfield 34, 11, 10, 0, 747, 0, []),
  (34, .iload_n 1, 0, 0, 0, 0, 0, []),
  (35, .baload, 0, 0, 0, 0, 0, []),
  (36, .ifCond .ne 12, 48, 0, 0, 0, 0, []),
  (39, .aload_n 0, 0, 0, 0, 0, 0, []),
  (40, .getfield 38, 11, 11, 0, 748, 0, []),
  (43, .iload_n 1, 0, 0, 0, 0, 0, []),
  (44, .baload, 0, 0, 0, 0, 0, []),
  (45, .ifCond .eq 6, 51, 0, 0, 0, 0, []),
  (48, .bipush (-2), 0, 0, 0, 0, (-2), []),
  (50, .ireturn, 0, 0, 0, 0, 0, []),
  (51, .aload_n 0, 0, 0, 0, 0, 0, []),
  (52, .getfield 213, 11, 16, 0, 753, 0, []),
  (55, .sipush 300, 0, 0, 0, 0, 300, []),
  (58, .if_icmp .ne 6, 64, 0, 0, 0, 0, []),
  (61, .bipush (-3), 0, 0, 0, 0, (-3), []),
  (63, .ireturn, 0, 0, 0, 0, 0, []),
  (64, .aload_n 0, 0, 0, 0, 0, 0, []),
  (65, .getfield 28, 11, 8, 0, 745, 0, []),
  (68, .iload_n 1, 0, 0, 0, 0, 0, []),
  (69, .iaload, 0, 0, 0, 0, 0, []),
  (70, .istore 5, 0, 0, 0, 0, 0, []),
  (72, .iconst 1, 0, 0, 0, 0, 1, []),
  (73, .istore 6, 0, 0, 0, 0, 0, []),
  (75, .iconst 0, 0, 0, 0, 0, 0, []),
  (76, .istore 7, 0, 0, 0, 0, 0, []),
  (78, .iconst 0, 0, 0, 0, 0, 0, []),
  (79, .istore 8, 0, 0, 0, 0, 0, []),
  (81, .aload_n 0, 0, 0, 0, 0, 0, []),
  (82, .getfield 7, 11, 1, 0, 738, 0, []),
  (85, .iload 5, 0, 0, 0, 0, 0, []),
  (87, .iaload, 0, 0, 0, 0, 0, []),
  (88, .iconst 2, 0, 0, 0, 0, 2, []),
  (89, .if_icmp .ne 68, 157, 0, 0, 0, 0, []),
  (92, .aload_n 0, 0, 0, 0, 0, 0, []),
  (93, .iload 5, 0, 0, 0, 0, 0, []),
  (95, .iload_n 2, 0, 0, 0, 0, 0, []),
  (96, .iload_n 3, 0, 0, 0, 0, 0, []),
  (97, .invokevirtual 217, 109, 3, 11, 960, 0, []),
  (100, .aload_n 0, 0, 0, 0, 0, 0, []),
  (101, .iload 5, 0, 0, 0, 0, 0, []),
  (103, .aload_n 0, 0, 0, 0, 0, 0, []),
  (104, .getfield 186, 11, 46, 0, 783, 0, []),
  (107, .invokevirtual 154, 99, 2, 11, 927, 0, []),
  (110, .istore 6, 0, 0, 0, 0, 0, []),
  (112, .aload_n 0, 0, 0, 0, 0, 0, []),
  (113, .getfield 186, 11, 46, 0, 783, 0, []),
  (116, .aload_n 0, 0, 0, 0, 0, 0, []),
  (117, .getfield 25, 11, 6, 0, 743, 0, []),
  (120, .iload 5, 0, 0, 0, 0, 0, []),
  (122, .iaload, 0, 0, 0, 0, 0, []),
  (123, .if_icmp .le 10, 133, 0, 0, 0, 0, []),
  (126, .aload_n 0, 0, 0, 0, 0, 0, []),
  (127, .getfield 192, 11, 48, 0, 785, 0, []),
  (130, .ifCond .eq 7, 137, 0, 0, 0, 0, []),
  (133, .iconst 1, 0, 0, 0, 0, 1, []),
  (134, .goto 4, 138, 0, 0, 0, 0, []),
  (137, .iconst 0, 0, 0, 0, 0, 0, []),
  (138, .istore 7, 0, 0, 0, 0, 0, []),
  (140, .aload_n 0, 0, 0, 0, 0, 0, []),
  (141, .getfield 189, 11, 47, 0, 784, 0, []),
  (144, .ifCond .ne 7, 151, 0, 0, 0, 0, []),
  (147, .iconst 1, 0, 0, 0, 0, 1, []),
  (148, .goto 4, 152, 0, 0, 0, 0, []),
  (151, .iconst 0, 0, 0, 0, 0, 0, []),
  (152, .istore 8, 0, 0, 0, 0, 0, []),
  (154, .goto 118, 272, 0, 0, 0, 0, []),
  (157, .iconst 0, 0, 0, 0, 0, 0, []),
  (158, .istore 9, 0, 0, 0, 0, 0, []),
  (160, .aload_n 0, 0, 0, 0, 0, 0, []),
  (161, .iload 5, 0, 0, 0, 0, 0, []),
  (163, .iload_n 3, 0, 0, 0, 0, 0, []),
  (164, .iload 9, 0, 0, 0, 0, 0, []),
  (166, .invokevirtual 221, 110, 3, 11, 968, 0, []),
  (169, .ldc 124, 0, 0, 0, 736, (-99999999), []),
  (171, .if_icmp .eq 101, 272, 0, 0, 0, 0, []),
  (174, .aload_n 0, 0, 0, 0, 0, 0, []),
  (175, .iload 5, 0, 0, 0, 0, 0, []),
  (177, .iload_n 3, 0, 0, 0, 0, 0, []),
  (178, .iload 9, 0, 0, 0, 0, 0, []),
  (180, .invokevirtual 221, 110, 3, 11, 968, 0, []),
  (183, .istore 10, 0, 0, 0, 0, 0, []),
  (185, .aload_n 0, 0, 0, 0, 0, 0, []),
  (186, .iload 5, 0, 0, 0, 0, 0, []),
  (188, .iload 10, 0, 0, 0, 0, 0, []),
  (190, .aload_n 0, 0, 0, 0, 0, 0, []),
  (191, .getfield 13, 11, 2, 0, 739, 0, []),
  (194, .iload 5, 0, 0, 0, 0, 0, []),
  (196, .iaload, 0, 0, 0, 0, 0, []),
  (197, .iadd, 0, 0, 0, 0, 0, []),
  (198, .invokevirtual 154, 99, 2, 11, 927, 0, []),
  (201, .ifCond .eq 6, 207, 0, 0, 0, 0, []),
  (204, .goto 62, 266, 0, 0, 0, 0, []),
  (207, .iconst 0, 0, 0, 0, 0, 0, []),
  (208, .istore 6, 0, 0, 0, 0, 0, []),
  (210, .iload 7, 0, 0, 0, 0, 0, []),
  (212, .ifCond .ne 23, 235, 0, 0, 0, 0, []),
  (215, .iload 10, 0, 0, 0, 0, 0, []),
  (217, .aload_n 0, 0, 0, 0, 0, 0, []),
  (218, .getfield 13, 11, 2, 0, 739, 0, []),
  (221, .iload 5, 0, 0, 0, 0, 0, []),
  (223, .iaload, 0, 0, 0, 0, 0, []),
  (224, .iadd, 0, 0, 0, 0, 0, []),
  (225, .aload_n 0, 0, 0, 0, 0, 0, []),
  (226, .getfield 25, 11, 6, 0, 743, 0, []),
  (229, .iload 5, 0, 0, 0, 0, 0, []),
  (231, .iaload, 0, 0, 0, 0, 0, []),
  (232, .if_icmp .gt 7, 239, 0, 0, 0, 0, []),
  (235, .iconst 1, 0, 0, 0, 0, 1, []),
  (236, .goto 4, 240, 0, 0, 0, 0, []),
  (239, .iconst 0, 0, 0, 0, 0, 0, []),
  (240, .istore 7, 0, 0, 0, 0, 0, []),
  (242, .iload 8, 0, 0, 0, 0, 0, []),
  (244, .aload_n 0, 0, 0, 0, 0, 0, []),
  (245, .iload 5, 0, 0, 0, 0, 0, []),
  (247, .iload_n 2, 0, 0, 0, 0, 0, []),
  (248, .iload 10, 0, 0, 0, 0, 0, []),
  (250, .invokevirtual 225, 104, 3, 11, 975, 0, []),
  (253, .ldc 124, 0, 0, 0, 736, (-99999999), []),
  (255, .if_icmp .ne 7, 262, 0, 0, 0, 0, []),
  (258, .iconst 1, 0, 0, 0, 0, 1, []),
  (259, .goto 4, 263, 0, 0, 0, 0, []),
  (262, .iconst 0, 0, 0, 0, 0, 0, []),
  (263, .iadd, 0, 0, 0, 0, 0, []),
  (264, .istore 8, 0, 0, 0, 0, 0, []),
  (266, .iinc 9 1, 0, 0, 0, 0, 1, []),
  (269, .goto (-109), 160, 0, 0, 0, 0, []),
  (272, .iload 6, 0, 0, 0, 0, 0, []),
  (274, .ifCond .ne 19, 293, 0, 0, 0, 0, []),
  (277, .iload 7, 0, 0, 0, 0, 0, []),
  (279, .ifCond .eq 51, 330, 0, 0, 0, 0, []),
  (282, .aload_n 0, 0, 0, 0, 0, 0, []),
  (283, .getfield 22, 11, 5, 0, 742, 0, []),
  (286, .iload 5, 0, 0, 0, 0, 0, []),
  (288, .iaload, 0, 0, 0, 0, 0, []),
  (289, .iconst 2, 0, 0, 0, 0, 2, []),
  (290, .if_icmp .ne 40, 330, 0, 0, 0, 0, []),
  (293, .aload_n 0, 0, 0, 0, 0, 0, []),
  (294, .iload_n 1, 0, 0, 0, 0, 0, []),
  (295, .iload_n 2, 0, 0, 0, 0, 0, []),
  (296, .iload_n 3, 0, 0, 0, 0, 0, []),
  (297, .iload 4, 0, 0, 0, 0, 0, []),
  (299, .iload 6, 0, 0, 0, 0, 0, []),
  (301, .ifCond .eq 7, 308, 0, 0, 0, 0, []),
  (304, .iconst 1, 0, 0, 0, 0, 1, []),
  (305, .goto 4, 309, 0, 0, 0, 0, []),
  (308, .iconst 2, 0, 0, 0, 0, 2, []),
  (309, .invokevirtual 228, 111, 5, 11, 979, 0, []),
  (312, .ifCond .ne 6, 318, 0, 0, 0, 0, []),
  (315, .bipush (-2), 0, 0, 0, 0, (-2), []),
  (317, .ireturn, 0, 0, 0, 0, 0, []),
  (318, .aload_n 0, 0, 0, 0, 0, 0, []),
  (319, .iload_n 1, 0, 0, 0, 0, 0, []),
  (320, .iload_n 2, 0, 0, 0, 0, 0, []),
  (321, .iload_n 3, 0, 0, 0, 0, 0, []),
  (322, .iload 4, 0, 0, 0, 0, 0, []),
  (324, .iconst 0, 0, 0, 0, 0, 0, []),
  (325, .invokevirtual 231, 112, 5, 11, 983, 0, []),
  (328, .iconst 0, 0, 0, 0, 0, 0, []),
  (329, .ireturn, 0, 0, 0, 0, 0, []),
  (330, .aload_n 0, 0, 0, 0, 0, 0, []),
  (331, .getfield 151, 11, 22, 0, 759, 0, []),
  (334, .iload 8, 0, 0, 0, 0, 0, []),
  (336, .iadd, 0, 0, 0, 0, 0, []),
  (337, .bipush 120, 0, 0, 0, 0, 120, []),
  (339, .if_icmp .le 6, 345, 0, 0, 0, 0, []),
  (342, .bipush (-3), 0, 0, 0, 0, (-3), []),
  (344, .ireturn, 0, 0, 0, 0, 0, []),
  (345, .aload_n 0, 0, 0, 0, 0, 0, []),
  (346, .iload_n 1, 0, 0, 0, 0, 0, []),
  (347, .iload_n 2, 0, 0, 0, 0, 0, []),
  (348, .iload_n 3, 0, 0, 0, 0, 0, []),
  (349, .iload 4, 0, 0, 0, 0, 0, []),
  (351, .iconst 1, 0, 0, 0, 0, 1, []),
  (352, .invokevirtual 231, 112, 5, 11, 983, 0, []),
  (355, .aload_n 0, 0, 0, 0, 0, 0, []),
  (356, .getfield 7, 11, 1, 0, 738, 0, []),
  (359, .iload 5, 0, 0, 0, 0, 0, []),
  (361, .iaload, 0, 0, 0, 0, 0, []),
  (362, .iconst 2, 0, 0, 0, 0, 2, []),
  (363, .if_icmp .ne 15, 378, 0, 0, 0, 0, []),
  (366, .aload_n 0, 0, 0, 0, 0, 0, []),
  (367, .iload 5, 0, 0, 0, 0, 0, []),
  (369, .iload_n 2, 0, 0, 0, 0, 0, []),
  (370, .iload_n 3, 0, 0, 0, 0, 0, []),
  (371, .iload 4, 0, 0, 0, 0, 0, []),
  (373, .invokevirtual 235, 114, 4, 11, 987, 0, []),
  (376, .iconst 1, 0, 0, 0, 0, 1, []),
  (377, .ireturn, 0, 0, 0, 0, 0, []),
  (378, .iconst 0, 0, 0, 0, 0, 0, []),
  (379, .istore 9, 0, 0, 0, 0, 0, []),
  (381, .aload_n 0, 0, 0, 0, 0, 0, []),
  (382, .iload 5, 0, 0, 0, 0, 0, []),
  (384, .iload_n 3, 0, 0, 0, 0, 0, []),
  (385, .iload 9, 0, 0, 0, 0, 0, []),
  (387, .invokevirtual 221, 110, 3, 11, 968, 0, []),
  (390, .ldc 124, 0, 0, 0, 736, (-99999999), []),
  (392, .if_icmp .eq 95, 487, 0, 0, 0, 0, []),
  (395, .aload_n 0, 0, 0, 0, 0, 0, []),
  (396, .iload 5, 0, 0, 0, 0, 0, []),
  (398, .iload_n 3, 0, 0, 0, 0, 0, []),
  (399, .iload 9, 0, 0, 0, 0, 0, []),
  (401, .invokevirtual 221, 110, 3, 11, 968, 0, []),
  (404, .istore 10, 0, 0, 0, 0, 0, []),
  (406, .aload_n 0, 0, 0, 0, 0, 0, []),
  (407, .iload 5, 0, 0, 0, 0, 0, []),
  (409, .iload 10, 0, 0, 0, 0, 0, []),
  (411, .aload_n 0, 0, 0, 0, 0, 0, []),
  (412, .getfield 13, 11, 2, 0, 739, 0, []),
  (415, .iload 5, 0, 0, 0, 0, 0, []),
  (417, .iaload, 0, 0, 0, 0, 0, []),
  (418, .iadd, 0, 0, 0, 0, 0, []),
  (419, .invokevirtual 154, 99, 2, 11, 927, 0, []),
  (422, .ifCond .eq 6, 428, 0, 0, 0, 0, []),
  (425, .goto 56, 481, 0, 0, 0, 0, []),
  (428, .aload_n 0, 0, 0, 0, 0, 0, []),
  (429, .iload 5, 0, 0, 0, 0, 0, []),
  (431, .iload_n 2, 0, 0, 0, 0, 0, []),
  (432, .iload 10, 0, 0, 0, 0, 0, []),
  (434, .invokevirtual 225, 104, 3, 11, 975, 0, []),
  (437, .istore 11, 0, 0, 0, 0, 0, []),
  (439, .iload 11, 0, 0, 0, 0, 0, []),
  (441, .ldc 124, 0, 0, 0, 736, (-99999999), []),
  (443, .if_icmp .ne 24, 467, 0, 0, 0, 0, []),
  (446, .aload_n 0, 0, 0, 0, 0, 0, []),
  (447, .iload 5, 0, 0, 0, 0, 0, []),
  (449, .iload_n 2, 0, 0, 0, 0, 0, []),
  (450, .iload 10, 0, 0, 0, 0, 0, []),
  (452, .iload 10, 0, 0, 0, 0, 0, []),
  (454, .aload_n 0, 0, 0, 0, 0, 0, []),
  (455, .getfield 13, 11, 2, 0, 739, 0, []),
  (458, .iload 5, 0, 0, 0, 0, 0, []),
  (460, .iaload, 0, 0, 0, 0, 0, []),
  (461, .iadd, 0, 0, 0, 0, 0, []),
  (462, .invokevirtual 239, 105, 4, 11, 999, 0, []),
  (465, .istore 11, 0, 0, 0, 0, 0, []),
  (467, .aload_n 0, 0, 0, 0, 0, 0, []),
  (468, .iload 11, 0, 0, 0, 0, 0, []),
  (470, .iload 4, 0, 0, 0, 0, 0, []),
  (472, .invokevirtual 243, 106, 2, 11, 991, 0, []),
  (475, .aload_n 0, 0, 0, 0, 0, 0, []),
  (476, .iload 11, 0, 0, 0, 0, 0, []),
  (478, .invokevirtual 247, 107, 1, 11, 995, 0, []),
  (481, .iinc 9 1, 0, 0, 0, 0, 1, []),
  (484, .goto (-103), 381, 0, 0, 0, 0, []),
  (487, .iconst 1, 0, 0, 0, 0, 1, []),
  (488, .ireturn, 0, 0, 0, 0, 0, [])])
def m_Model_gap : rv_M := (yX11_gap, cX11_gap, 15, none, RX11, 3, 71, (990, 60, 989, 43), [
  (0, .aload_n 0, 0, 0, 0, 0, 0, []),
  (1, .iload_n 1, 0, 0, 0, 0, 0, []),
  (2, .iload_n 2, 0, 0, 0, 0, 0, []),
  (3, .aload_n 0, 0, 0, 0, 0, 0, []),
  (4, .getfield 183, 11, 45, 0, 782, 0, []),
  (7, .invokevirtual 225, 104, 3, 11, 975, 0, []),
  (10, .istore 5, 0, 0, 0, 0, 0, []),
  (12, .aload_n 0, 0, 0, 0, 0, 0, []),
  (13, .getfield 189, 11, 47, 0, 784, 0, []),
  (16, .iconst 1, 0, 0, 0, 0, 1, []),
  (17, .if_icmp .ne 39, 56, 0, 0, 0, 0, []),
  (20, .iload 5, 0, 0, 0, 0, 0, []),
  (22, .ldc 124, 0, 0, 0, 736, (-99999999), []),
  (24, .if_icmp .eq 32, 56, 0, 0, 0, 0, []),
  (27, .aload_n 0, 0, 0, 0, 0, 0, []),
  (28, .getfield 77, 11, 26, 0, 763, 0, []),
  (31, .iload 5, 0, 0, 0, 0, 0, []),
  (33, .iaload, 0, 0, 0, 0, 0, []),
  (34, .aload_n 0, 0, 0, 0, 0, 0, []),
  (35, .getfield 186, 11, 46, 0, 783, 0, []),
  (38, .if_icmp .ne 18, 56, 0, 0, 0, 0, []),
  (41, .aload_n 0, 0, 0, 0, 0, 0, []),
  (42, .iload 5, 0, 0, 0, 0, 0, []),
  (44, .iload 4, 0, 0, 0, 0, 0, []),
  (46, .invokevirtual 243, 106, 2, 11, 991, 0, []),
  (49, .aload_n 0, 0, 0, 0, 0, 0, []),
  (50, .iload 5, 0, 0, 0, 0, 0, []),
  (52, .invokevirtual 247, 107, 1, 11, 995, 0, []),
  (55, .return_, 0, 0, 0, 0, 0, []),
  (56, .iconst 1, 0, 0, 0, 0, 1, []),
  (57, .istore 6, 0, 0, 0, 0, 0, []),
  (59, .iload 4, 0, 0, 0, 0, 0, []),
  (61, .i2l, 0, 0, 0, 0, 0, []),
  (62, .lstore 7, 0, 0, 0, 0, 0, []),
  (64, .iload 4, 0, 0, 0, 0, 0, []),
  (66, .istore 9, 0, 0, 0, 0, 0, []),
  (68, .iload 4, 0, 0, 0, 0, 0, []),
  (70, .istore 10, 0, 0, 0, 0, 0, []),
  (72, .aload_n 0, 0, 0, 0, 0, 0, []),
  (73, .getfield 186, 11, 46, 0, 783, 0, []),
  (76, .istore 11, 0, 0, 0, 0, 0, []),
  (78, .aload_n 0, 0, 0, 0, 0, 0, []),
  (79, .getfield 183, 11, 45, 0, 782, 0, []),
  (82, .istore 12, 0, 0, 0, 0, 0, []),
  (84, .iconst 0, 0, 0, 0, 0, 0, []),
  (85, .istore 13, 0, 0, 0, 0, 0, []),
  (87, .iload 13, 0, 0, 0, 0, 0, []),
  (89, .ldc 124, 0, 0, 0, 736, (-99999999), []),
  (91, .if_icmp .eq 166, 257, 0, 0, 0, 0, []),
  (94, .ldc 124, 0, 0, 0, 736, (-99999999), []),
  (96, .istore 13, 0, 0, 0, 0, 0, []),
  (98, .iconst 0, 0, 0, 0, 0, 0, []),
  (99, .istore 14, 0, 0, 0, 0, 0, []),
  (101, .iload 14, 0, 0, 0, 0, 0, []),
  (103, .aload_n 0, 0, 0, 0, 0, 0, []),
  (104, .getfield 151, 11, 22, 0, 759, 0, []),
  (107, .if_icmp .ge 52, 159, 0, 0, 0, 0, []),
  (110, .aload_n 0, 0, 0, 0, 0, 0, []),
  (111, .iload 14, 0, 0, 0, 0, 0, []),
  (113, .iload_n 1, 0, 0, 0, 0, 0, []),
  (114, .iload_n 2, 0, 0, 0, 0, 0, []),
  (115, .iload 12, 0, 0, 0, 0, 0, []),
  (117, .iload 11, 0, 0, 0, 0, 0, []),
  (119, .invokevirtual 196, 108, 5, 11, 964, 0, []),
  (122, .ifCond .eq 31, 153, 0, 0, 0, 0, []),
  (125, .iload 13, 0, 0, 0, 0, 0, []),
  (127, .ldc 124, 0, 0, 0, 736, (-99999999), []),
  (129, .if_icmp .eq 20, 149, 0, 0, 0, 0, []),
  (132, .aload_n 0, 0, 0, 0, 0, 0, []),
  (133, .getfield 74, 11, 25, 0, 762, 0, []),
  (136, .iload 14, 0, 0, 0, 0, 0, []),
  (138, .iaload, 0, 0, 0, 0, 0, []),
  (139, .aload_n 0, 0, 0, 0, 0, 0, []),
  (140, .getfield 74, 11, 25, 0, 762, 0, []),
  (143, .iload 13, 0, 0, 0, 0, 0, []),
  (145, .iaload, 0, 0, 0, 0, 0, []),
  (146, .if_icmp .ge 7, 153, 0, 0, 0, 0, []),
  (149, .iload 14, 0, 0, 0, 0, 0, []),
  (151, .istore 13, 0, 0, 0, 0, 0, []),
  (153, .iinc 14 1, 0, 0, 0, 0, 1, []),
  (156, .goto (-55), 101, 0, 0, 0, 0, []),
  (159, .iload 13, 0, 0, 0, 0, 0, []),
  (161, .ldc 124, 0, 0, 0, 736, (-99999999), []),
  (163, .if_icmp .eq (-76), 87, 0, 0, 0, 0, []),
  (166, .aload_n 0, 0, 0, 0, 0, 0, []),
  (167, .getfield 93, 11, 31, 0, 768, 0, []),
  (170, .iload 13, 0, 0, 0, 0, 0, []),
  (172, .baload, 0, 0, 0, 0, 0, []),
  (173, .ifCond .eq 9, 182, 0, 0, 0, 0, []),
  (176, .aload_n 0, 0, 0, 0, 0, 0, []),
  (177, .iload 13, 0, 0, 0, 0, 0, []),
  (179, .invokevirtual 169, 96, 1, 11, 943, 0, []),
  (182, .iload 6, 0, 0, 0, 0, 0, []),
  (184, .aload_n 0, 0, 0, 0, 0, 0, []),
  (185, .getfield 80, 11, 27, 0, 764, 0, []),
  (188, .iload 13, 0, 0, 0, 0, 0, []),
  (190, .iaload, 0, 0, 0, 0, 0, []),
  (191, .iadd, 0, 0, 0, 0, 0, []),
  (192, .istore 6, 0, 0, 0, 0, 0, []),
  (194, .lload 7, 0, 0, 0, 0, 0, []),
  (196, .aload_n 0, 0, 0, 0, 0, 0, []),
  (197, .getfield 83, 11, 28, 0, 765, 0, []),
  (200, .iload 13, 0, 0, 0, 0, 0, []),
  (202, .laload, 0, 0, 0, 0, 0, []),
  (203, .ladd, 0, 0, 0, 0, 0, []),
  (204, .lstore 7, 0, 0, 0, 0, 0, []),
  (206, .aload_n 0, 0, 0, 0, 0, 0, []),
  (207, .getfield 87, 11, 29, 0, 766, 0, []),
  (210, .iload 13, 0, 0, 0, 0, 0, []),
  (212, .iaload, 0, 0, 0, 0, 0, []),
  (213, .iload 9, 0, 0, 0, 0, 0, []),
  (215, .if_icmp .ge 12, 227, 0, 0, 0, 0, []),
  (218, .aload_n 0, 0, 0, 0, 0, 0, []),
  (219, .getfield 87, 11, 29, 0, 766, 0, []),
  (222, .iload 13, 0, 0, 0, 0, 0, []),
  (224, .iaload, 0, 0, 0, 0, 0, []),
  (225, .istore 9, 0, 0, 0, 0, 0, []),
  (227, .aload_n 0, 0, 0, 0, 0, 0, []),
  (228, .getfield 90, 11, 30, 0, 767, 0, []),
  (231, .iload 13, 0, 0, 0, 0, 0, []),
  (233, .iaload, 0, 0, 0, 0, 0, []),
  (234, .iload 10, 0, 0, 0, 0, 0, []),
  (236, .if_icmp .le 12, 248, 0, 0, 0, 0, []),
  (239, .aload_n 0, 0, 0, 0, 0, 0, []),
  (240, .getfield 90, 11, 30, 0, 767, 0, []),
  (243, .iload 13, 0, 0, 0, 0, 0, []),
  (245, .iaload, 0, 0, 0, 0, 0, []),
  (246, .istore 10, 0, 0, 0, 0, 0, []),
  (248, .aload_n 0, 0, 0, 0, 0, 0, []),
  (249, .iload 13, 0, 0, 0, 0, 0, []),
  (251, .invokevirtual 172, 97, 1, 11, 947, 0, []),
  (254, .goto (-167), 87, 0, 0, 0, 0, []),
  (257, .aload_n 0, 0, 0, 0, 0, 0, []),
  (258, .iload_n 1, 0, 0, 0, 0, 0, []),
  (259, .iload_n 2, 0, 0, 0, 0, 0, []),
  (260, .iload 12, 0, 0, 0, 0, 0, []),
  (262, .iload 11, 0, 0, 0, 0, 0, []),
  (264, .invokevirtual 239, 105, 4, 11, 999, 0, []),
  (267, .istore 14, 0, 0, 0, 0, 0, []),
  (269, .aload_n 0, 0, 0, 0, 0, 0, []),
  (270, .getfield 80, 11, 27, 0, 764, 0, []),
  (273, .iload 14, 0, 0, 0, 0, 0, []),
  (275, .iload 6, 0, 0, 0, 0, 0, []),
  (277, .iastore, 0, 0, 0, 0, 0, []),
  (278, .aload_n 0, 0, 0, 0, 0, 0, []),
  (279, .getfield 83, 11, 28, 0, 765, 0, []),
  (282, .iload 14, 0, 0, 0, 0, 0, []),
  (284, .lload 7, 0, 0, 0, 0, 0, []),
  (286, .lastore, 0, 0, 0, 0, 0, []),
  (287, .aload_n 0, 0, 0, 0, 0, 0, []),
  (288, .getfield 87, 11, 29, 0, 766, 0, []),
  (291, .iload 14, 0, 0, 0, 0, 0, []),
  (293, .iload 9, 0, 0, 0, 0, 0, []),
  (295, .iastore, 0, 0, 0, 0, 0, []),
  (296, .aload_n 0, 0, 0, 0, 0, 0, []),
  (297, .getfield 90, 11, 30, 0, 767, 0, []),
  (300, .iload 14, 0, 0, 0, 0, 0, []),
  (302, .iload 10, 0, 0, 0, 0, 0, []),
  (304, .iastore, 0, 0, 0, 0, 0, []),
  (305, .aload_n 0, 0, 0, 0, 0, 0, []),
  (306, .iload 14, 0, 0, 0, 0, 0, []),
  (308, .invokevirtual 247, 107, 1, 11, 995, 0, []),
  (311, .return_, 0, 0, 0, 0, 0, [])])
def m_Model_result_IIJ : rv_M := (yX11_result_, cX11_result_, 3, some .long, RX11, 1, 22, (1006, 60, 1004, 1005), [
  (0, .iload_n 1, 0, 0, 0, 0, 0, []),
  (1, .iconst 0, 0, 0, 0, 0, 0, []),
  (2, .aload_n 0, 0, 0, 0, 0, 0, []),
  (3, .getfield 141, 11, 37, 0, 774, 0, []),
  (6, .iconst 1, 0, 0, 0, 0, 1, []),
  (7, .isub, 0, 0, 0, 0, 0, []),
  (8, .invokestatic 128, 87, 3, 0, 897, 0, []),
  (11, .ifCond .eq 27, 38, 0, 0, 0, 0, []),
  (14, .iload_n 2, 0, 0, 0, 0, 0, []),
  (15, .iconst 0, 0, 0, 0, 0, 0, []),
  (16, .bipush 8, 0, 0, 0, 0, 8, []),
  (18, .invokestatic 128, 87, 3, 0, 897, 0, []),
  (21, .ifCond .eq 17, 38, 0, 0, 0, 0, []),
  (24, .aload_n 0, 0, 0, 0, 0, 0, []),
  (25, .getfield 111, 11, 39, 0, 776, 0, []),
  (28, .bipush 9, 0, 0, 0, 0, 9, []),
  (30, .iload_n 1, 0, 0, 0, 0, 0, []),
  (31, .imul, 0, 0, 0, 0, 0, []),
  (32, .iload_n 2, 0, 0, 0, 0, 0, []),
  (33, .iadd, 0, 0, 0, 0, 0, []),
  (34, .laload, 0, 0, 0, 0, 0, []),
  (35, .goto 6, 41, 0, 0, 0, 0, []),
  (38, .ldc2_w 250, 0, 0, 0, 1007, 0, []),
  (41, .lreturn, 0, 0, 0, 0, 0, [])])
def m_Model_aside : rv_M := (yX11_aside, cX11_aside, 3, some .int, RX11, 1, 22, (1011, 60, 1009, 1010), [
  (0, .iload_n 1, 0, 0, 0, 0, 0, []),
  (1, .iconst 0, 0, 0, 0, 0, 0, []),
  (2, .aload_n 0, 0, 0, 0, 0, 0, []),
  (3, .getfield 204, 11, 40, 0, 777, 0, []),
  (6, .iconst 1, 0, 0, 0, 0, 1, []),
  (7, .isub, 0, 0, 0, 0, 0, []),
  (8, .invokestatic 128, 87, 3, 0, 897, 0, []),
  (11, .ifCond .eq 25, 36, 0, 0, 0, 0, []),
  (14, .iload_n 2, 0, 0, 0, 0, 0, []),
  (15, .iconst 0, 0, 0, 0, 0, 0, []),
  (16, .iconst 4, 0, 0, 0, 0, 4, []),
  (17, .invokestatic 128, 87, 3, 0, 897, 0, []),
  (20, .ifCond .eq 16, 36, 0, 0, 0, 0, []),
  (23, .aload_n 0, 0, 0, 0, 0, 0, []),
  (24, .getfield 114, 11, 41, 0, 778, 0, []),
  (27, .iconst 5, 0, 0, 0, 0, 5, []),
  (28, .iload_n 1, 0, 0, 0, 0, 0, []),
  (29, .imul, 0, 0, 0, 0, 0, []),
  (30, .iload_n 2, 0, 0, 0, 0, 0, []),
  (31, .iadd, 0, 0, 0, 0, 0, []),
  (32, .iaload, 0, 0, 0, 0, 0, []),
  (33, .goto 5, 38, 0, 0, 0, 0, []),
  (36, .ldc 124, 0, 0, 0, 736, (-99999999), []),
  (38, .ireturn, 0, 0, 0, 0, 0, [])])
def m_Model_take : rv_M := (yX11_take, cX11_take, 3, some .int, RX11, 0, 0, (1015, 60, 1013, 1014), [
  (0, .aload_n 0, 0, 0, 0, 0, 0, []),
  (1, .getfield 204, 11, 40, 0, 777, 0, []),
  (4, .istore_n 1, 0, 0, 0, 0, 0, []),
  (5, .aload_n 0, 0, 0, 0, 0, 0, []),
  (6, .iconst 0, 0, 0, 0, 0, 0, []),
  (7, .putfield 204, 11, 40, 0, 777, 0, []),
  (10, .iconst 0, 0, 0, 0, 0, 0, []),
  (11, .istore_n 2, 0, 0, 0, 0, 0, []),
  (12, .iload_n 2, 0, 0, 0, 0, 0, []),
  (13, .bipush 10, 0, 0, 0, 0, 10, []),
  (15, .if_icmp .ge 16, 31, 0, 0, 0, 0, []),
  (18, .aload_n 0, 0, 0, 0, 0, 0, []),
  (19, .getfield 38, 11, 11, 0, 748, 0, []),
  (22, .iload_n 2, 0, 0, 0, 0, 0, []),
  (23, .iconst 0, 0, 0, 0, 0, 0, []),
  (24, .bastore, 0, 0, 0, 0, 0, []),
  (25, .iinc 2 1, 0, 0, 0, 0, 1, []),
  (28, .goto (-16), 12, 0, 0, 0, 0, []),
  (31, .iload_n 1, 0, 0, 0, 0, 0, []),
  (32, .ireturn, 0, 0, 0, 0, 0, [])])
def m_Model_bound : rv_M := (yX11_bound, cX11_bound, 3, some .int, RX11, 1, 22, (1019, 60, 1017, 1018), [
  (0, .iload_n 1, 0, 0, 0, 0, 0, []),
  (1, .iconst 0, 0, 0, 0, 0, 0, []),
  (2, .bipush 100, 0, 0, 0, 0, 100, []),
  (4, .invokestatic 128, 87, 3, 0, 897, 0, []),
  (7, .ifCond .eq 12, 19, 0, 0, 0, 0, []),
  (10, .iload_n 2, 0, 0, 0, 0, 0, []),
  (11, .iconst 0, 0, 0, 0, 0, 0, []),
  (12, .iconst 1, 0, 0, 0, 0, 1, []),
  (13, .invokestatic 128, 87, 3, 0, 897, 0, []),
  (16, .ifCond .ne 5, 21, 0, 0, 0, 0, []),
  (19, .iconst (-1), 0, 0, 0, 0, (-1), []),
  (20, .ireturn, 0, 0, 0, 0, 0, []),
  (21, .aload_n 0, 0, 0, 0, 0, 0, []),
  (22, .getfield 204, 11, 40, 0, 777, 0, []),
  (25, .iload_n 1, 0, 0, 0, 0, 0, []),
  (26, .if_icmp .le 6, 32, 0, 0, 0, 0, []),
  (29, .bipush (-2), 0, 0, 0, 0, (-2), []),
  (31, .ireturn, 0, 0, 0, 0, 0, []),
  (32, .aload_n 0, 0, 0, 0, 0, 0, []),
  (33, .iload_n 1, 0, 0, 0, 0, 0, []),
  (34, .putfield 117, 11, 42, 0, 779, 0, []),
  (37, .aload_n 0, 0, 0, 0, 0, 0, []),
  (38, .iload_n 2, 0, 0, 0, 0, 0, []),
  (39, .putfield 207, 11, 43, 0, 780, 0, []),
  (42, .aload_n 0, 0, 0, 0, 0, 0, []),
  (43, .getfield 204, 11, 40, 0, 777, 0, []),
  (46, .ireturn, 0, 0, 0, 0, 0, [])])
def m_Model_of : rv_M := (yX11_of, cX11_of, 3, some .int, RX11, 2, 43, (1023, 60, 1021, 1022), [
  (0, .aload_n 0, 0, 0, 0, 0, 0, []),
  (1, .iload_n 1, 0, 0, 0, 0, 0, []),
  (2, .invokevirtual 175, 91, 1, 11, 914, 0, []),
  (5, .ifCond .ne 6, 11, 0, 0, 0, 0, []),
  (8, .ldc 124, 0, 0, 0, 736, (-99999999), []),
  (10, .ireturn, 0, 0, 0, 0, 0, []),
  (11, .iload_n 2, 0, 0, 0, 0, 0, []),
  (12, .tableswitch 120 0 7 #[48, 55, 62, 77, 92, 99, 106, 113], 132, 48, 0, 0, 0, [(0, 60), (1, 67), (2, 74), (3, 89), (4, 104), (5, 111), (6, 118), (7, 125)]),
  (60, .aload_n 0, 0, 0, 0, 0, 0, []),
  (61, .getfield 28, 11, 8, 0, 745, 0, []),
  (64, .iload_n 1, 0, 0, 0, 0, 0, []),
  (65, .iaload, 0, 0, 0, 0, 0, []),
  (66, .ireturn, 0, 0, 0, 0, 0, []),
  (67, .aload_n 0, 0, 0, 0, 0, 0, []),
  (68, .getfield 31, 11, 9, 0, 746, 0, []),
  (71, .iload_n 1, 0, 0, 0, 0, 0, []),
  (72, .iaload, 0, 0, 0, 0, 0, []),
  (73, .ireturn, 0, 0, 0, 0, 0, []),
  (74, .aload_n 0, 0, 0, 0, 0, 0, []),
  (75, .getfield 34, 11, 10, 0, 747, 0, []),
  (78, .iload_n 1, 0, 0, 0, 0, 0, []),
  (79, .baload, 0, 0, 0, 0, 0, []),
  (80, .ifCond .eq 7, 87, 0, 0, 0, 0, []),
  (83, .iconst 1, 0, 0, 0, 0, 1, []),
  (84, .goto 4, 88, 0, 0, 0, 0, []),
  (87, .iconst 0, 0, 0, 0, 0, 0, []),
  (88, .ireturn, 0, 0, 0, 0, 0, []),
  (89, .aload_n 0, 0, 0, 0, 0, 0, []),
  (90, .getfield 38, 11, 11, 0, 748, 0, []),
  (93, .iload_n 1, 0, 0, 0, 0, 0, []),
  (94, .baload, 0, 0, 0, 0, 0, []),
  (95, .ifCond .eq 7, 102, 0, 0, 0, 0, []),
  (98, .iconst 1, 0, 0, 0, 0, 1, []),
  (99, .goto 4, 103, 0, 0, 0, 0, []),
  (102, .iconst 0, 0, 0, 0, 0, 0, []),
  (103, .ireturn, 0, 0, 0, 0, 0, []),
  (104, .aload_n 0, 0, 0, 0, 0, 0, []),
  (105, .getfield 41, 11, 12, 0, 749, 0, []),
  (108, .iload_n 1, 0, 0, 0, 0, 0, []),
  (109, .iaload, 0, 0, 0, 0, 0, []),
  (110, .ireturn, 0, 0, 0, 0, 0, []),
  (111, .aload_n 0, 0, 0, 0, 0, 0, []),
  (112, .getfield 44, 11, 13, 0, 750, 0, []),
  (115, .iload_n 1, 0, 0, 0, 0, 0, []),
  (116, .iaload, 0, 0, 0, 0, 0, []),
  (117, .ireturn, 0, 0, 0, 0, 0, []),
  (118, .aload_n 0, 0, 0, 0, 0, 0, []),
  (119, .getfield 47, 11, 14, 0, 751, 0, []),
  (122, .iload_n 1, 0, 0, 0, 0, 0, []),
  (123, .iaload, 0, 0, 0, 0, 0, []),
  (124, .ireturn, 0, 0, 0, 0, 0, []),
  (125, .aload_n 0, 0, 0, 0, 0, 0, []),
  (126, .getfield 50, 11, 15, 0, 752, 0, []),
  (129, .iload_n 1, 0, 0, 0, 0, 0, []),
  (130, .iaload, 0, 0, 0, 0, 0, []),
  (131, .ireturn, 0, 0, 0, 0, 0, []),
  (132, .ldc 124, 0, 0, 0, 736, (-99999999), []),
  (134, .ireturn, 0, 0, 0, 0, 0, [])])
def m_Model_mark : rv_M := (yX11_mark, cX11_mark, 2, some .int, RX11, 2, 43, (1027, 60, 1025, 1026), [
  (0, .aload_n 0, 0, 0, 0, 0, 0, []),
  (1, .iload_n 1, 0, 0, 0, 0, 0, []),
  (2, .invokevirtual 136, 90, 1, 11, 905, 0, []),
  (5, .ifCond .eq 12, 17, 0, 0, 0, 0, []),
  (8, .aload_n 0, 0, 0, 0, 0, 0, []),
  (9, .getfield 25, 11, 6, 0, 743, 0, []),
  (12, .iload_n 1, 0, 0, 0, 0, 0, []),
  (13, .iaload, 0, 0, 0, 0, 0, []),
  (14, .goto 4, 18, 0, 0, 0, 0, []),
  (17, .iconst (-1), 0, 0, 0, 0, (-1), []),
  (18, .ireturn, 0, 0, 0, 0, 0, [])])
def m_Model_window : rv_M := (yX11_window, cX11_window, 8, some .long, RX11, 2, 43, (1031, 60, 1029, 1030), [
  (0, .aload_n 0, 0, 0, 0, 0, 0, []),
  (1, .iload_n 1, 0, 0, 0, 0, 0, []),
  (2, .invokevirtual 136, 90, 1, 11, 905, 0, []),
  (5, .ifCond .eq 18, 23, 0, 0, 0, 0, []),
  (8, .iload_n 3, 0, 0, 0, 0, 0, []),
  (9, .ifCond .lt 14, 23, 0, 0, 0, 0, []),
  (12, .iload 4, 0, 0, 0, 0, 0, []),
  (14, .iconst 0, 0, 0, 0, 0, 0, []),
  (15, .bipush 6, 0, 0, 0, 0, 6, []),
  (17, .invokestatic 128, 87, 3, 0, 897, 0, []),
  (20, .ifCond .ne 7, 27, 0, 0, 0, 0, []),
  (23, .ldc2_w 250, 0, 0, 0, 1007, 0, []),
  (26, .lreturn, 0, 0, 0, 0, 0, []),
  (27, .iconst 0, 0, 0, 0, 0, 0, []),
  (28, .istore 5, 0, 0, 0, 0, 0, []),
  (30, .iload 5, 0, 0, 0, 0, 0, []),
  (32, .aload_n 0, 0, 0, 0, 0, 0, []),
  (33, .getfield 151, 11, 22, 0, 759, 0, []),
  (36, .if_icmp .ge 221, 257, 0, 0, 0, 0, []),
  (39, .aload_n 0, 0, 0, 0, 0, 0, []),
  (40, .getfield 68, 11, 23, 0, 760, 0, []),
  (43, .iload 5, 0, 0, 0, 0, 0, []),
  (45, .iaload, 0, 0, 0, 0, 0, []),
  (46, .iload_n 1, 0, 0, 0, 0, 0, []),
  (47, .if_icmp .ne 204, 251, 0, 0, 0, 0, []),
  (50, .aload_n 0, 0, 0, 0, 0, 0, []),
  (51, .getfield 71, 11, 24, 0, 761, 0, []),
  (54, .iload 5, 0, 0, 0, 0, 0, []),
  (56, .iaload, 0, 0, 0, 0, 0, []),
  (57, .iload_n 2, 0, 0, 0, 0, 0, []),
  (58, .if_icmp .eq 6, 64, 0, 0, 0, 0, []),
  (61, .goto 190, 251, 0, 0, 0, 0, []),
  (64, .iconst 0, 0, 0, 0, 0, 0, []),
  (65, .istore 6, 0, 0, 0, 0, 0, []),
  (67, .iconst 0, 0, 0, 0, 0, 0, []),
  (68, .istore 7, 0, 0, 0, 0, 0, []),
  (70, .iload 7, 0, 0, 0, 0, 0, []),
  (72, .aload_n 0, 0, 0, 0, 0, 0, []),
  (73, .getfield 151, 11, 22, 0, 759, 0, []),
  (76, .if_icmp .ge 58, 134, 0, 0, 0, 0, []),
  (79, .iload 6, 0, 0, 0, 0, 0, []),
  (81, .aload_n 0, 0, 0, 0, 0, 0, []),
  (82, .getfield 68, 11, 23, 0, 760, 0, []),
  (85, .iload 7, 0, 0, 0, 0, 0, []),
  (87, .iaload, 0, 0, 0, 0, 0, []),
  (88, .iload_n 1, 0, 0, 0, 0, 0, []),
  (89, .if_icmp .ne 35, 124, 0, 0, 0, 0, []),
  (92, .aload_n 0, 0, 0, 0, 0, 0, []),
  (93, .getfield 71, 11, 24, 0, 761, 0, []),
  (96, .iload 7, 0, 0, 0, 0, 0, []),
  (98, .iaload, 0, 0, 0, 0, 0, []),
  (99, .iload_n 2, 0, 0, 0, 0, 0, []),
  (100, .if_icmp .ne 24, 124, 0, 0, 0, 0, []),
  (103, .aload_n 0, 0, 0, 0, 0, 0, []),
  (104, .getfield 74, 11, 25, 0, 762, 0, []),
  (107, .iload 7, 0, 0, 0, 0, 0, []),
  (109, .iaload, 0, 0, 0, 0, 0, []),
  (110, .aload_n 0, 0, 0, 0, 0, 0, []),
  (111, .getfield 74, 11, 25, 0, 762, 0, []),
  (114, .iload 5, 0, 0, 0, 0, 0, []),
  (116, .iaload, 0, 0, 0, 0, 0, []),
  (117, .if_icmp .ge 7, 124, 0, 0, 0, 0, []),
  (120, .iconst 1, 0, 0, 0, 0, 1, []),
  (121, .goto 4, 125, 0, 0, 0, 0, []),
  (124, .iconst 0, 0, 0, 0, 0, 0, []),
  (125, .iadd, 0, 0, 0, 0, 0, []),
  (126, .istore 6, 0, 0, 0, 0, 0, []),
  (128, .iinc 7 1, 0, 0, 0, 0, 1, []),
  (131, .goto (-61), 70, 0, 0, 0, 0, []),
  (134, .iload 6, 0, 0, 0, 0, 0, []),
  (136, .iload_n 3, 0, 0, 0, 0, 0, []),
  (137, .if_icmp .eq 6, 143, 0, 0, 0, 0, []),
  (140, .goto 111, 251, 0, 0, 0, 0, []),
  (143, .iload 4, 0, 0, 0, 0, 0, []),
  (145, .ifCond .ne 12, 157, 0, 0, 0, 0, []),
  (148, .aload_n 0, 0, 0, 0, 0, 0, []),
  (149, .getfield 74, 11, 25, 0, 762, 0, []),
  (152, .iload 5, 0, 0, 0, 0, 0, []),
  (154, .iaload, 0, 0, 0, 0, 0, []),
  (155, .i2l, 0, 0, 0, 0, 0, []),
  (156, .lreturn, 0, 0, 0, 0, 0, []),
  (157, .iload 4, 0, 0, 0, 0, 0, []),
  (159, .iconst 1, 0, 0, 0, 0, 1, []),
  (160, .if_icmp .ne 12, 172, 0, 0, 0, 0, []),
  (163, .aload_n 0, 0, 0, 0, 0, 0, []),
  (164, .getfield 77, 11, 26, 0, 763, 0, []),
  (167, .iload 5, 0, 0, 0, 0, 0, []),
  (169, .iaload, 0, 0, 0, 0, 0, []),
  (170, .i2l, 0, 0, 0, 0, 0, []),
  (171, .lreturn, 0, 0, 0, 0, 0, []),
  (172, .iload 4, 0, 0, 0, 0, 0, []),
  (174, .iconst 2, 0, 0, 0, 0, 2, []),
  (175, .if_icmp .ne 19, 194, 0, 0, 0, 0, []),
  (178, .aload_n 0, 0, 0, 0, 0, 0, []),
  (179, .getfield 93, 11, 31, 0, 768, 0, []),
  (182, .iload 5, 0, 0, 0, 0, 0, []),
  (184, .baload, 0, 0, 0, 0, 0, []),
  (185, .ifCond .eq 7, 192, 0, 0, 0, 0, []),
  (188, .lconst 1, 0, 0, 0, 0, 0, []),
  (189, .goto 4, 193, 0, 0, 0, 0, []),
  (192, .lconst 0, 0, 0, 0, 0, 0, []),
  (193, .lreturn, 0, 0, 0, 0, 0, []),
  (194, .iload 4, 0, 0, 0, 0, 0, []),
  (196, .iconst 3, 0, 0, 0, 0, 3, []),
  (197, .if_icmp .ne 12, 209, 0, 0, 0, 0, []),
  (200, .aload_n 0, 0, 0, 0, 0, 0, []),
  (201, .getfield 80, 11, 27, 0, 764, 0, []),
  (204, .iload 5, 0, 0, 0, 0, 0, []),
  (206, .iaload, 0, 0, 0, 0, 0, []),
  (207, .i2l, 0, 0, 0, 0, 0, []),
  (208, .lreturn, 0, 0, 0, 0, 0, []),
  (209, .iload 4, 0, 0, 0, 0, 0, []),
  (211, .iconst 4, 0, 0, 0, 0, 4, []),
  (212, .if_icmp .ne 13, 225, 0, 0, 0, 0, []),
  (215, .aload_n 0, 0, 0, 0, 0, 0, []),
  (216, .getfield 83, 11, 28, 0, 765, 0, []),
  (219, .iload 5, 0, 0, 0, 0, 0, []),
  (221, .laload, 0, 0, 0, 0, 0, []),
  (222, .goto 28, 250, 0, 0, 0, 0, []),
  (225, .iload 4, 0, 0, 0, 0, 0, []),
  (227, .iconst 5, 0, 0, 0, 0, 5, []),
  (228, .if_icmp .ne 14, 242, 0, 0, 0, 0, []),
  (231, .aload_n 0, 0, 0, 0, 0, 0, []),
  (232, .getfield 87, 11, 29, 0, 766, 0, []),
  (235, .iload 5, 0, 0, 0, 0, 0, []),
  (237, .iaload, 0, 0, 0, 0, 0, []),
  (238, .i2l, 0, 0, 0, 0, 0, []),
  (239, .goto 11, 250, 0, 0, 0, 0, []),
  (242, .aload_n 0, 0, 0, 0, 0, 0, []),
  (243, .getfield 90, 11, 30, 0, 767, 0, []),
  (246, .iload 5, 0, 0, 0, 0, 0, []),
  (248, .iaload, 0, 0, 0, 0, 0, []),
  (249, .i2l, 0, 0, 0, 0, 0, []),
  (250, .lreturn, 0, 0, 0, 0, 0, []),
  (251, .iinc 5 1, 0, 0, 0, 0, 1, []),
  (254, .goto (-224), 30, 0, 0, 0, 0, []),
  (257, .ldc2_w 250, 0, 0, 0, 1007, 0, []),
  (260, .lreturn, 0, 0, 0, 0, 0, [])])
def m_Model_passInto : rv_M := (yX11_passInto, cX11_passInto, 8, none, RX11, 0, 0, (1047, 60, 1046, 49), [
  (0, .iconst 0, 0, 0, 0, 0, 0, []),
  (1, .istore 6, 0, 0, 0, 0, 0, []),
  (3, .iload 6, 0, 0, 0, 0, 0, []),
  (5, .aload_n 0, 0, 0, 0, 0, 0, []),
  (6, .getfield 252, 11, 49, 0, 786, 0, []),
  (9, .if_icmp .ge 59, 68, 0, 0, 0, 0, []),
  (12, .aload_n 0, 0, 0, 0, 0, 0, []),
  (13, .getfield 121, 11, 50, 0, 787, 0, []),
  (16, .bipush 7, 0, 0, 0, 0, 7, []),
  (18, .iload 6, 0, 0, 0, 0, 0, []),
  (20, .imul, 0, 0, 0, 0, 0, []),
  (21, .laload, 0, 0, 0, 0, 0, []),
  (22, .iload_n 1, 0, 0, 0, 0, 0, []),
  (23, .i2l, 0, 0, 0, 0, 0, []),
  (24, .lcmp, 0, 0, 0, 0, 0, []),
  (25, .ifCond .lt 37, 62, 0, 0, 0, 0, []),
  (28, .aload_n 0, 0, 0, 0, 0, 0, []),
  (29, .getfield 121, 11, 50, 0, 787, 0, []),
  (32, .bipush 7, 0, 0, 0, 0, 7, []),
  (34, .iload 6, 0, 0, 0, 0, 0, []),
  (36, .imul, 0, 0, 0, 0, 0, []),
  (37, .laload, 0, 0, 0, 0, 0, []),
  (38, .iload_n 1, 0, 0, 0, 0, 0, []),
  (39, .i2l, 0, 0, 0, 0, 0, []),
  (40, .lcmp, 0, 0, 0, 0, 0, []),
  (41, .ifCond .ne 27, 68, 0, 0, 0, 0, []),
  (44, .aload_n 0, 0, 0, 0, 0, 0, []),
  (45, .getfield 121, 11, 50, 0, 787, 0, []),
  (48, .bipush 7, 0, 0, 0, 0, 7, []),
  (50, .iload 6, 0, 0, 0, 0, 0, []),
  (52, .imul, 0, 0, 0, 0, 0, []),
  (53, .iconst 1, 0, 0, 0, 0, 1, []),
  (54, .iadd, 0, 0, 0, 0, 0, []),
  (55, .laload, 0, 0, 0, 0, 0, []),
  (56, .iload_n 2, 0, 0, 0, 0, 0, []),
  (57, .i2l, 0, 0, 0, 0, 0, []),
  (58, .lcmp, 0, 0, 0, 0, 0, []),
  (59, .ifCond .ge 9, 68, 0, 0, 0, 0, []),
  (62, .iinc 6 1, 0, 0, 0, 0, 1, []),
  (65, .goto (-62), 3, 0, 0, 0, 0, []),
  (68, .iload 6, 0, 0, 0, 0, 0, []),
  (70, .aload_n 0, 0, 0, 0, 0, 0, []),
  (71, .getfield 252, 11, 49, 0, 786, 0, []),
  (74, .if_icmp .eq 37, 111, 0, 0, 0, 0, []),
  (77, .aload_n 0, 0, 0, 0, 0, 0, []),
  (78, .getfield 121, 11, 50, 0, 787, 0, []),
  (81, .bipush 7, 0, 0, 0, 0, 7, []),
  (83, .iload 6, 0, 0, 0, 0, 0, []),
  (85, .imul, 0, 0, 0, 0, 0, []),
  (86, .laload, 0, 0, 0, 0, 0, []),
  (87, .iload_n 1, 0, 0, 0, 0, 0, []),
  (88, .i2l, 0, 0, 0, 0, 0, []),
  (89, .lcmp, 0, 0, 0, 0, 0, []),
  (90, .ifCond .ne 21, 111, 0, 0, 0, 0, []),
  (93, .aload_n 0, 0, 0, 0, 0, 0, []),
  (94, .getfield 121, 11, 50, 0, 787, 0, []),
  (97, .bipush 7, 0, 0, 0, 0, 7, []),
  (99, .iload 6, 0, 0, 0, 0, 0, []),
  (101, .imul, 0, 0, 0, 0, 0, []),
  (102, .iconst 1, 0, 0, 0, 0, 1, []),
  (103, .iadd, 0, 0, 0, 0, 0, []),
  (104, .laload, 0, 0, 0, 0, 0, []),
  (105, .iload_n 2, 0, 0, 0, 0, 0, []),
  (106, .i2l, 0, 0, 0, 0, 0, []),
  (107, .lcmp, 0, 0, 0, 0, 0, []),
  (108, .ifCond .eq 152, 260, 0, 0, 0, 0, []),
  (111, .bipush 7, 0, 0, 0, 0, 7, []),
  (113, .aload_n 0, 0, 0, 0, 0, 0, []),
  (114, .getfield 252, 11, 49, 0, 786, 0, []),
  (117, .imul, 0, 0, 0, 0, 0, []),
  (118, .iconst 1, 0, 0, 0, 0, 1, []),
  (119, .isub, 0, 0, 0, 0, 0, []),
  (120, .istore 7, 0, 0, 0, 0, 0, []),
  (122, .iload 7, 0, 0, 0, 0, 0, []),
  (124, .bipush 7, 0, 0, 0, 0, 7, []),
  (126, .iload 6, 0, 0, 0, 0, 0, []),
  (128, .imul, 0, 0, 0, 0, 0, []),
  (129, .if_icmp .lt 26, 155, 0, 0, 0, 0, []),
  (132, .aload_n 0, 0, 0, 0, 0, 0, []),
  (133, .getfield 121, 11, 50, 0, 787, 0, []),
  (136, .iload 7, 0, 0, 0, 0, 0, []),
  (138, .bipush 7, 0, 0, 0, 0, 7, []),
  (140, .iadd, 0, 0, 0, 0, 0, []),
  (141, .aload_n 0, 0, 0, 0, 0, 0, []),
  (142, .getfield 121, 11, 50, 0, 787, 0, []),
  (145, .iload 7, 0, 0, 0, 0, 0, []),
  (147, .laload, 0, 0, 0, 0, 0, []),
  (148, .lastore, 0, 0, 0, 0, 0, []),
  (149, .iinc 7 (-1), 0, 0, 0, 0, (-1), []),
  (152, .goto (-30), 122, 0, 0, 0, 0, []),
  (155, .aload_n 0, 0, 0, 0, 0, 0, []),
  (156, .dup, 0, 0, 0, 0, 0, []),
  (157, .getfield 252, 11, 49, 0, 786, 0, []),
  (160, .iconst 1, 0, 0, 0, 0, 1, []),
  (161, .iadd, 0, 0, 0, 0, 0, []),
  (162, .putfield 252, 11, 49, 0, 786, 0, []),
  (165, .aload_n 0, 0, 0, 0, 0, 0, []),
  (166, .getfield 121, 11, 50, 0, 787, 0, []),
  (169, .bipush 7, 0, 0, 0, 0, 7, []),
  (171, .iload 6, 0, 0, 0, 0, 0, []),
  (173, .imul, 0, 0, 0, 0, 0, []),
  (174, .iload_n 1, 0, 0, 0, 0, 0, []),
  (175, .i2l, 0, 0, 0, 0, 0, []),
  (176, .lastore, 0, 0, 0, 0, 0, []),
  (177, .aload_n 0, 0, 0, 0, 0, 0, []),
  (178, .getfield 121, 11, 50, 0, 787, 0, []),
  (181, .bipush 7, 0, 0, 0, 0, 7, []),
  (183, .iload 6, 0, 0, 0, 0, 0, []),
  (185, .imul, 0, 0, 0, 0, 0, []),
  (186, .iconst 1, 0, 0, 0, 0, 1, []),
  (187, .iadd, 0, 0, 0, 0, 0, []),
  (188, .iload_n 2, 0, 0, 0, 0, 0, []),
  (189, .i2l, 0, 0, 0, 0, 0, []),
  (190, .lastore, 0, 0, 0, 0, 0, []),
  (191, .aload_n 0, 0, 0, 0, 0, 0, []),
  (192, .getfield 121, 11, 50, 0, 787, 0, []),
  (195, .bipush 7, 0, 0, 0, 0, 7, []),
  (197, .iload 6, 0, 0, 0, 0, 0, []),
  (199, .imul, 0, 0, 0, 0, 0, []),
  (200, .iconst 2, 0, 0, 0, 0, 2, []),
  (201, .iadd, 0, 0, 0, 0, 0, []),
  (202, .iload_n 3, 0, 0, 0, 0, 0, []),
  (203, .i2l, 0, 0, 0, 0, 0, []),
  (204, .lastore, 0, 0, 0, 0, 0, []),
  (205, .aload_n 0, 0, 0, 0, 0, 0, []),
  (206, .getfield 121, 11, 50, 0, 787, 0, []),
  (209, .bipush 7, 0, 0, 0, 0, 7, []),
  (211, .iload 6, 0, 0, 0, 0, 0, []),
  (213, .imul, 0, 0, 0, 0, 0, []),
  (214, .iconst 3, 0, 0, 0, 0, 3, []),
  (215, .iadd, 0, 0, 0, 0, 0, []),
  (216, .lconst 0, 0, 0, 0, 0, 0, []),
  (217, .lastore, 0, 0, 0, 0, 0, []),
  (218, .aload_n 0, 0, 0, 0, 0, 0, []),
  (219, .getfield 121, 11, 50, 0, 787, 0, []),
  (222, .bipush 7, 0, 0, 0, 0, 7, []),
  (224, .iload 6, 0, 0, 0, 0, 0, []),
  (226, .imul, 0, 0, 0, 0, 0, []),
  (227, .iconst 4, 0, 0, 0, 0, 4, []),
  (228, .iadd, 0, 0, 0, 0, 0, []),
  (229, .lconst 0, 0, 0, 0, 0, 0, []),
  (230, .lastore, 0, 0, 0, 0, 0, []),
  (231, .aload_n 0, 0, 0, 0, 0, 0, []),
  (232, .getfield 121, 11, 50, 0, 787, 0, []),
  (235, .bipush 7, 0, 0, 0, 0, 7, []),
  (237, .iload 6, 0, 0, 0, 0, 0, []),
  (239, .imul, 0, 0, 0, 0, 0, []),
  (240, .iconst 5, 0, 0, 0, 0, 5, []),
  (241, .iadd, 0, 0, 0, 0, 0, []),
  (242, .lload 4, 0, 0, 0, 0, 0, []),
  (244, .lastore, 0, 0, 0, 0, 0, []),
  (245, .aload_n 0, 0, 0, 0, 0, 0, []),
  (246, .getfield 121, 11, 50, 0, 787, 0, []),
  (249, .bipush 7, 0, 0, 0, 0, 7, []),
  (251, .iload 6, 0, 0, 0, 0, 0, []),
  (253, .imul, 0, 0, 0, 0, 0, []),
  (254, .bipush 6, 0, 0, 0, 0, 6, []),
  (256, .iadd, 0, 0, 0, 0, 0, []),
  (257, .lload 4, 0, 0, 0, 0, 0, []),
  (259, .lastore, 0, 0, 0, 0, 0, []),
  (260, .aload_n 0, 0, 0, 0, 0, 0, []),
  (261, .getfield 121, 11, 50, 0, 787, 0, []),
  (264, .bipush 7, 0, 0, 0, 0, 7, []),
  (266, .iload 6, 0, 0, 0, 0, 0, []),
  (268, .imul, 0, 0, 0, 0, 0, []),
  (269, .iconst 3, 0, 0, 0, 0, 3, []),
  (270, .iadd, 0, 0, 0, 0, 0, []),
  (271, .dup2, 0, 0, 0, 0, 0, []),
  (272, .laload, 0, 0, 0, 0, 0, []),
  (273, .lconst 1, 0, 0, 0, 0, 0, []),
  (274, .ladd, 0, 0, 0, 0, 0, []),
  (275, .lastore, 0, 0, 0, 0, 0, []),
  (276, .aload_n 0, 0, 0, 0, 0, 0, []),
  (277, .getfield 121, 11, 50, 0, 787, 0, []),
  (280, .bipush 7, 0, 0, 0, 0, 7, []),
  (282, .iload 6, 0, 0, 0, 0, 0, []),
  (284, .imul, 0, 0, 0, 0, 0, []),
  (285, .iconst 4, 0, 0, 0, 0, 4, []),
  (286, .iadd, 0, 0, 0, 0, 0, []),
  (287, .dup2, 0, 0, 0, 0, 0, []),
  (288, .laload, 0, 0, 0, 0, 0, []),
  (289, .lload 4, 0, 0, 0, 0, 0, []),
  (291, .ladd, 0, 0, 0, 0, 0, []),
  (292, .lastore, 0, 0, 0, 0, 0, []),
  (293, .lload 4, 0, 0, 0, 0, 0, []),
  (295, .aload_n 0, 0, 0, 0, 0, 0, []),
  (296, .getfield 121, 11, 50, 0, 787, 0, []),
  (299, .bipush 7, 0, 0, 0, 0, 7, []),
  (301, .iload 6, 0, 0, 0, 0, 0, []),
  (303, .imul, 0, 0, 0, 0, 0, []),
  (304, .iconst 5, 0, 0, 0, 0, 5, []),
  (305, .iadd, 0, 0, 0, 0, 0, []),
  (306, .laload, 0, 0, 0, 0, 0, []),
  (307, .lcmp, 0, 0, 0, 0, 0, []),
  (308, .ifCond .ge 17, 325, 0, 0, 0, 0, []),
  (311, .aload_n 0, 0, 0, 0, 0, 0, []),
  (312, .getfield 121, 11, 50, 0, 787, 0, []),
  (315, .bipush 7, 0, 0, 0, 0, 7, []),
  (317, .iload 6, 0, 0, 0, 0, 0, []),
  (319, .imul, 0, 0, 0, 0, 0, []),
  (320, .iconst 5, 0, 0, 0, 0, 5, []),
  (321, .iadd, 0, 0, 0, 0, 0, []),
  (322, .lload 4, 0, 0, 0, 0, 0, []),
  (324, .lastore, 0, 0, 0, 0, 0, []),
  (325, .lload 4, 0, 0, 0, 0, 0, []),
  (327, .aload_n 0, 0, 0, 0, 0, 0, []),
  (328, .getfield 121, 11, 50, 0, 787, 0, []),
  (331, .bipush 7, 0, 0, 0, 0, 7, []),
  (333, .iload 6, 0, 0, 0, 0, 0, []),
  (335, .imul, 0, 0, 0, 0, 0, []),
  (336, .bipush 6, 0, 0, 0, 0, 6, []),
  (338, .iadd, 0, 0, 0, 0, 0, []),
  (339, .laload, 0, 0, 0, 0, 0, []),
  (340, .lcmp, 0, 0, 0, 0, 0, []),
  (341, .ifCond .le 18, 359, 0, 0, 0, 0, []),
  (344, .aload_n 0, 0, 0, 0, 0, 0, []),
  (345, .getfield 121, 11, 50, 0, 787, 0, []),
  (348, .bipush 7, 0, 0, 0, 0, 7, []),
  (350, .iload 6, 0, 0, 0, 0, 0, []),
  (352, .imul, 0, 0, 0, 0, 0, []),
  (353, .bipush 6, 0, 0, 0, 0, 6, []),
  (355, .iadd, 0, 0, 0, 0, 0, []),
  (356, .lload 4, 0, 0, 0, 0, 0, []),
  (358, .lastore, 0, 0, 0, 0, 0, []),
  (359, .return_, 0, 0, 0, 0, 0, [])])
def m_Model_isTaken : rv_M := (yX11_isTaken, cX11_isTaken, 4, some .boolean, RX11, 0, 0, (1039, 60, 1038, 47), [
  (0, .aload_n 0, 0, 0, 0, 0, 0, []),
  (1, .getfield 28, 11, 8, 0, 745, 0, []),
  (4, .aload_n 0, 0, 0, 0, 0, 0, []),
  (5, .getfield 53, 11, 17, 0, 754, 0, []),
  (8, .iload_n 1, 0, 0, 0, 0, 0, []),
  (9, .iaload, 0, 0, 0, 0, 0, []),
  (10, .iaload, 0, 0, 0, 0, 0, []),
  (11, .iload_n 2, 0, 0, 0, 0, 0, []),
  (12, .if_icmp .ne 20, 32, 0, 0, 0, 0, []),
  (15, .iload_n 3, 0, 0, 0, 0, 0, []),
  (16, .ifCond .ne 12, 28, 0, 0, 0, 0, []),
  (19, .aload_n 0, 0, 0, 0, 0, 0, []),
  (20, .getfield 65, 11, 21, 0, 758, 0, []),
  (23, .iload_n 1, 0, 0, 0, 0, 0, []),
  (24, .baload, 0, 0, 0, 0, 0, []),
  (25, .ifCond .eq 7, 32, 0, 0, 0, 0, []),
  (28, .iconst 1, 0, 0, 0, 0, 1, []),
  (29, .goto 4, 33, 0, 0, 0, 0, []),
  (32, .iconst 0, 0, 0, 0, 0, 0, []),
  (33, .ireturn, 0, 0, 0, 0, 0, [])])
def m_Model_edge : rv_M := (yX11_edge, cX11_edge, 9, some .int, RX11, 1, 23, (1043, 60, 1042, 48), [
  (0, .aload_n 0, 0, 0, 0, 0, 0, []),
  (1, .getfield 59, 11, 19, 0, 756, 0, []),
  (4, .iload_n 1, 0, 0, 0, 0, 0, []),
  (5, .iaload, 0, 0, 0, 0, 0, []),
  (6, .istore 5, 0, 0, 0, 0, 0, []),
  (8, .iconst 1, 0, 0, 0, 0, 1, []),
  (9, .istore 6, 0, 0, 0, 0, 0, []),
  (11, .iload 6, 0, 0, 0, 0, 0, []),
  (13, .ifCond .eq 115, 128, 0, 0, 0, 0, []),
  (16, .iconst 0, 0, 0, 0, 0, 0, []),
  (17, .istore 6, 0, 0, 0, 0, 0, []),
  (19, .iconst 0, 0, 0, 0, 0, 0, []),
  (20, .istore 7, 0, 0, 0, 0, 0, []),
  (22, .iload 7, 0, 0, 0, 0, 0, []),
  (24, .aload_n 0, 0, 0, 0, 0, 0, []),
  (25, .getfield 213, 11, 16, 0, 753, 0, []),
  (28, .if_icmp .ge 97, 125, 0, 0, 0, 0, []),
  (31, .aload_n 0, 0, 0, 0, 0, 0, []),
  (32, .iload 7, 0, 0, 0, 0, 0, []),
  (34, .iload_n 2, 0, 0, 0, 0, 0, []),
  (35, .iload_n 3, 0, 0, 0, 0, 0, []),
  (36, .invokevirtual 255, 123, 3, 11, 1036, 0, []),
  (39, .ifCond .eq 80, 119, 0, 0, 0, 0, []),
  (42, .aload_n 0, 0, 0, 0, 0, 0, []),
  (43, .getfield 56, 11, 18, 0, 755, 0, []),
  (46, .iload 7, 0, 0, 0, 0, 0, []),
  (48, .iaload, 0, 0, 0, 0, 0, []),
  (49, .aload_n 0, 0, 0, 0, 0, 0, []),
  (50, .getfield 56, 11, 18, 0, 755, 0, []),
  (53, .iload_n 1, 0, 0, 0, 0, 0, []),
  (54, .iaload, 0, 0, 0, 0, 0, []),
  (55, .if_icmp .eq 6, 61, 0, 0, 0, 0, []),
  (58, .goto 61, 119, 0, 0, 0, 0, []),
  (61, .iload 4, 0, 0, 0, 0, 0, []),
  (63, .ifCond .eq 16, 79, 0, 0, 0, 0, []),
  (66, .iload 5, 0, 0, 0, 0, 0, []),
  (68, .aload_n 0, 0, 0, 0, 0, 0, []),
  (69, .getfield 59, 11, 19, 0, 756, 0, []),
  (72, .iload 7, 0, 0, 0, 0, 0, []),
  (74, .iaload, 0, 0, 0, 0, 0, []),
  (75, .isub, 0, 0, 0, 0, 0, []),
  (76, .goto 13, 89, 0, 0, 0, 0, []),
  (79, .aload_n 0, 0, 0, 0, 0, 0, []),
  (80, .getfield 59, 11, 19, 0, 756, 0, []),
  (83, .iload 7, 0, 0, 0, 0, 0, []),
  (85, .iaload, 0, 0, 0, 0, 0, []),
  (86, .iload 5, 0, 0, 0, 0, 0, []),
  (88, .isub, 0, 0, 0, 0, 0, []),
  (89, .istore 8, 0, 0, 0, 0, 0, []),
  (91, .iload 8, 0, 0, 0, 0, 0, []),
  (93, .ifCond .le 26, 119, 0, 0, 0, 0, []),
  (96, .iload 8, 0, 0, 0, 0, 0, []),
  (98, .aload_n 0, 0, 0, 0, 0, 0, []),
  (99, .getfield 13, 11, 2, 0, 739, 0, []),
  (102, .iload_n 2, 0, 0, 0, 0, 0, []),
  (103, .iaload, 0, 0, 0, 0, 0, []),
  (104, .if_icmp .ge 15, 119, 0, 0, 0, 0, []),
  (107, .aload_n 0, 0, 0, 0, 0, 0, []),
  (108, .getfield 59, 11, 19, 0, 756, 0, []),
  (111, .iload 7, 0, 0, 0, 0, 0, []),
  (113, .iaload, 0, 0, 0, 0, 0, []),
  (114, .istore 5, 0, 0, 0, 0, 0, []),
  (116, .iconst 1, 0, 0, 0, 0, 1, []),
  (117, .istore 6, 0, 0, 0, 0, 0, []),
  (119, .iinc 7 1, 0, 0, 0, 0, 1, []),
  (122, .goto (-100), 22, 0, 0, 0, 0, []),
  (125, .goto (-114), 11, 0, 0, 0, 0, []),
  (128, .iload 4, 0, 0, 0, 0, 0, []),
  (130, .ifCond .eq 8, 138, 0, 0, 0, 0, []),
  (133, .iload 5, 0, 0, 0, 0, 0, []),
  (135, .goto 12, 147, 0, 0, 0, 0, []),
  (138, .iload 5, 0, 0, 0, 0, 0, []),
  (140, .aload_n 0, 0, 0, 0, 0, 0, []),
  (141, .getfield 13, 11, 2, 0, 739, 0, []),
  (144, .iload_n 2, 0, 0, 0, 0, 0, []),
  (145, .iaload, 0, 0, 0, 0, 0, []),
  (146, .iadd, 0, 0, 0, 0, 0, []),
  (147, .ireturn, 0, 0, 0, 0, 0, [])])
def m_Model_pass : rv_M := (yX11_pass, cX11_pass, 6, some .int, RX11, 2, 51, (1035, 60, 1033, 1034), [
  (0, .aload_n 0, 0, 0, 0, 0, 0, []),
  (1, .iload_n 1, 0, 0, 0, 0, 0, []),
  (2, .invokevirtual 136, 90, 1, 11, 905, 0, []),
  (5, .ifCond .ne 5, 10, 0, 0, 0, 0, []),
  (8, .iconst (-1), 0, 0, 0, 0, (-1), []),
  (9, .ireturn, 0, 0, 0, 0, 0, []),
  (10, .aload_n 0, 0, 0, 0, 0, 0, []),
  (11, .iconst 0, 0, 0, 0, 0, 0, []),
  (12, .putfield 252, 11, 49, 0, 786, 0, []),
  (15, .iconst 0, 0, 0, 0, 0, 0, []),
  (16, .istore_n 3, 0, 0, 0, 0, 0, []),
  (17, .iload_n 3, 0, 0, 0, 0, 0, []),
  (18, .aload_n 0, 0, 0, 0, 0, 0, []),
  (19, .getfield 213, 11, 16, 0, 753, 0, []),
  (22, .if_icmp .ge 138, 160, 0, 0, 0, 0, []),
  (25, .aload_n 0, 0, 0, 0, 0, 0, []),
  (26, .iload_n 3, 0, 0, 0, 0, 0, []),
  (27, .iload_n 1, 0, 0, 0, 0, 0, []),
  (28, .iload_n 2, 0, 0, 0, 0, 0, []),
  (29, .invokevirtual 255, 123, 3, 11, 1036, 0, []),
  (32, .ifCond .ne 6, 38, 0, 0, 0, 0, []),
  (35, .goto 119, 154, 0, 0, 0, 0, []),
  (38, .aload_n 0, 0, 0, 0, 0, 0, []),
  (39, .getfield 7, 11, 1, 0, 738, 0, []),
  (42, .iload_n 1, 0, 0, 0, 0, 0, []),
  (43, .iaload, 0, 0, 0, 0, 0, []),
  (44, .iconst 2, 0, 0, 0, 0, 2, []),
  (45, .if_icmp .ne 39, 84, 0, 0, 0, 0, []),
  (48, .aload_n 0, 0, 0, 0, 0, 0, []),
  (49, .aload_n 0, 0, 0, 0, 0, 0, []),
  (50, .getfield 56, 11, 18, 0, 755, 0, []),
  (53, .iload_n 3, 0, 0, 0, 0, 0, []),
  (54, .iaload, 0, 0, 0, 0, 0, []),
  (55, .aload_n 0, 0, 0, 0, 0, 0, []),
  (56, .iload_n 3, 0, 0, 0, 0, 0, []),
  (57, .iload_n 1, 0, 0, 0, 0, 0, []),
  (58, .iload_n 2, 0, 0, 0, 0, 0, []),
  (59, .iconst 1, 0, 0, 0, 0, 1, []),
  (60, .invokevirtual 259, 124, 4, 11, 1040, 0, []),
  (63, .aload_n 0, 0, 0, 0, 0, 0, []),
  (64, .iload_n 3, 0, 0, 0, 0, 0, []),
  (65, .iload_n 1, 0, 0, 0, 0, 0, []),
  (66, .iload_n 2, 0, 0, 0, 0, 0, []),
  (67, .iconst 0, 0, 0, 0, 0, 0, []),
  (68, .invokevirtual 259, 124, 4, 11, 1040, 0, []),
  (71, .aload_n 0, 0, 0, 0, 0, 0, []),
  (72, .getfield 62, 11, 20, 0, 757, 0, []),
  (75, .iload_n 3, 0, 0, 0, 0, 0, []),
  (76, .iaload, 0, 0, 0, 0, 0, []),
  (77, .i2l, 0, 0, 0, 0, 0, []),
  (78, .invokevirtual 263, 122, 4, 11, 1044, 0, []),
  (81, .goto 73, 154, 0, 0, 0, 0, []),
  (84, .iconst 0, 0, 0, 0, 0, 0, []),
  (85, .istore 4, 0, 0, 0, 0, 0, []),
  (87, .aload_n 0, 0, 0, 0, 0, 0, []),
  (88, .iload_n 1, 0, 0, 0, 0, 0, []),
  (89, .aload_n 0, 0, 0, 0, 0, 0, []),
  (90, .getfield 59, 11, 19, 0, 756, 0, []),
  (93, .iload_n 3, 0, 0, 0, 0, 0, []),
  (94, .iaload, 0, 0, 0, 0, 0, []),
  (95, .iload 4, 0, 0, 0, 0, 0, []),
  (97, .invokevirtual 221, 110, 3, 11, 968, 0, []),
  (100, .ldc 124, 0, 0, 0, 736, (-99999999), []),
  (102, .if_icmp .eq 52, 154, 0, 0, 0, 0, []),
  (105, .aload_n 0, 0, 0, 0, 0, 0, []),
  (106, .iload_n 1, 0, 0, 0, 0, 0, []),
  (107, .aload_n 0, 0, 0, 0, 0, 0, []),
  (108, .getfield 59, 11, 19, 0, 756, 0, []),
  (111, .iload_n 3, 0, 0, 0, 0, 0, []),
  (112, .iaload, 0, 0, 0, 0, 0, []),
  (113, .iload 4, 0, 0, 0, 0, 0, []),
  (115, .invokevirtual 221, 110, 3, 11, 968, 0, []),
  (118, .istore 5, 0, 0, 0, 0, 0, []),
  (120, .aload_n 0, 0, 0, 0, 0, 0, []),
  (121, .aload_n 0, 0, 0, 0, 0, 0, []),
  (122, .getfield 56, 11, 18, 0, 755, 0, []),
  (125, .iload_n 3, 0, 0, 0, 0, 0, []),
  (126, .iaload, 0, 0, 0, 0, 0, []),
  (127, .iload 5, 0, 0, 0, 0, 0, []),
  (129, .iload 5, 0, 0, 0, 0, 0, []),
  (131, .aload_n 0, 0, 0, 0, 0, 0, []),
  (132, .getfield 13, 11, 2, 0, 739, 0, []),
  (135, .iload_n 1, 0, 0, 0, 0, 0, []),
  (136, .iaload, 0, 0, 0, 0, 0, []),
  (137, .iadd, 0, 0, 0, 0, 0, []),
  (138, .aload_n 0, 0, 0, 0, 0, 0, []),
  (139, .getfield 62, 11, 20, 0, 757, 0, []),
  (142, .iload_n 3, 0, 0, 0, 0, 0, []),
  (143, .iaload, 0, 0, 0, 0, 0, []),
  (144, .i2l, 0, 0, 0, 0, 0, []),
  (145, .invokevirtual 263, 122, 4, 11, 1044, 0, []),
  (148, .iinc 4 1, 0, 0, 0, 0, 1, []),
  (151, .goto (-64), 87, 0, 0, 0, 0, []),
  (154, .iinc 3 1, 0, 0, 0, 0, 1, []),
  (157, .goto (-140), 17, 0, 0, 0, 0, []),
  (160, .aload_n 0, 0, 0, 0, 0, 0, []),
  (161, .getfield 252, 11, 49, 0, 786, 0, []),
  (164, .ireturn, 0, 0, 0, 0, 0, [])])
def m_Model_passed : rv_M := (yX11_passed, cX11_passed, 3, some .long, RX11, 1, 22, (1051, 60, 1049, 1050), [
  (0, .iload_n 1, 0, 0, 0, 0, 0, []),
  (1, .iconst 0, 0, 0, 0, 0, 0, []),
  (2, .aload_n 0, 0, 0, 0, 0, 0, []),
  (3, .getfield 252, 11, 49, 0, 786, 0, []),
  (6, .iconst 1, 0, 0, 0, 0, 1, []),
  (7, .isub, 0, 0, 0, 0, 0, []),
  (8, .invokestatic 128, 87, 3, 0, 897, 0, []),
  (11, .ifCond .eq 27, 38, 0, 0, 0, 0, []),
  (14, .iload_n 2, 0, 0, 0, 0, 0, []),
  (15, .iconst 0, 0, 0, 0, 0, 0, []),
  (16, .bipush 6, 0, 0, 0, 0, 6, []),
  (18, .invokestatic 128, 87, 3, 0, 897, 0, []),
  (21, .ifCond .eq 17, 38, 0, 0, 0, 0, []),
  (24, .aload_n 0, 0, 0, 0, 0, 0, []),
  (25, .getfield 121, 11, 50, 0, 787, 0, []),
  (28, .bipush 7, 0, 0, 0, 0, 7, []),
  (30, .iload_n 1, 0, 0, 0, 0, 0, []),
  (31, .imul, 0, 0, 0, 0, 0, []),
  (32, .iload_n 2, 0, 0, 0, 0, 0, []),
  (33, .iadd, 0, 0, 0, 0, 0, []),
  (34, .laload, 0, 0, 0, 0, 0, []),
  (35, .goto 6, 41, 0, 0, 0, 0, []),
  (38, .ldc2_w 250, 0, 0, 0, 1007, 0, []),
  (41, .lreturn, 0, 0, 0, 0, 0, [])])
def m_Model_count : rv_M := (yX11_count, cX11_count, 2, some .int, RX11, 0, 0, (1055, 60, 1053, 1054), [
  (0, .iload_n 1, 0, 0, 0, 0, 0, []),
  (1, .tableswitch 96 0 8 #[51, 56, 61, 66, 71, 76, 81, 86, 91], 97, 51, 0, 0, 0, [(0, 52), (1, 57), (2, 62), (3, 67), (4, 72), (5, 77), (6, 82), (7, 87), (8, 92)]),
  (52, .aload_n 0, 0, 0, 0, 0, 0, []),
  (53, .getfield 125, 11, 0, 0, 737, 0, []),
  (56, .ireturn, 0, 0, 0, 0, 0, []),
  (57, .aload_n 0, 0, 0, 0, 0, 0, []),
  (58, .getfield 132, 11, 7, 0, 744, 0, []),
  (61, .ireturn, 0, 0, 0, 0, 0, []),
  (62, .aload_n 0, 0, 0, 0, 0, 0, []),
  (63, .getfield 213, 11, 16, 0, 753, 0, []),
  (66, .ireturn, 0, 0, 0, 0, 0, []),
  (67, .aload_n 0, 0, 0, 0, 0, 0, []),
  (68, .getfield 151, 11, 22, 0, 759, 0, []),
  (71, .ireturn, 0, 0, 0, 0, 0, []),
  (72, .aload_n 0, 0, 0, 0, 0, 0, []),
  (73, .getfield 141, 11, 37, 0, 774, 0, []),
  (76, .ireturn, 0, 0, 0, 0, 0, []),
  (77, .aload_n 0, 0, 0, 0, 0, 0, []),
  (78, .getfield 144, 11, 38, 0, 775, 0, []),
  (81, .ireturn, 0, 0, 0, 0, 0, []),
  (82, .aload_n 0, 0, 0, 0, 0, 0, []),
  (83, .getfield 204, 11, 40, 0, 777, 0, []),
  (86, .ireturn, 0, 0, 0, 0, 0, []),
  (87, .aload_n 0, 0, 0, 0, 0, 0, []),
  (88, .getfield 210, 11, 44, 0, 781, 0, []),
  (91, .ireturn, 0, 0, 0, 0, 0, []),
  (92, .aload_n 0, 0, 0, 0, 0, 0, []),
  (93, .getfield 252, 11, 49, 0, 786, 0, []),
  (96, .ireturn, 0, 0, 0, 0, 0, []),
  (97, .iconst (-1), 0, 0, 0, 0, (-1), []),
  (98, .ireturn, 0, 0, 0, 0, 0, [])])
def m_Math_floorDiv : rv_M := (yJ9_floorDiv_7cf53, cJ9_floorDiv_7cf53, 3, some .int, RJ9, 0, 0, (523, 58, 522, 0), [
  (0, .iload_n 0, 0, 0, 0, 0, 0, []),
  (1, .iload_n 1, 0, 0, 0, 0, 0, []),
  (2, .idiv, 0, 0, 0, 0, 0, []),
  (3, .istore_n 2, 0, 0, 0, 0, 0, []),
  (4, .iload_n 0, 0, 0, 0, 0, 0, []),
  (5, .iload_n 1, 0, 0, 0, 0, 0, []),
  (6, .ixor, 0, 0, 0, 0, 0, []),
  (7, .ifCond .ge 14, 21, 0, 0, 0, 0, []),
  (10, .iload_n 2, 0, 0, 0, 0, 0, []),
  (11, .iload_n 1, 0, 0, 0, 0, 0, []),
  (12, .imul, 0, 0, 0, 0, 0, []),
  (13, .iload_n 0, 0, 0, 0, 0, 0, []),
  (14, .if_icmp .eq 7, 21, 0, 0, 0, 0, []),
  (17, .iload_n 2, 0, 0, 0, 0, 0, []),
  (18, .iconst 1, 0, 0, 0, 0, 1, []),
  (19, .isub, 0, 0, 0, 0, 0, []),
  (20, .ireturn, 0, 0, 0, 0, 0, []),
  (21, .iload_n 2, 0, 0, 0, 0, 0, []),
  (22, .ireturn, 0, 0, 0, 0, 0, [])])
def m_Math_max_III : rv_M := (yJ9_max_7cf53, cJ9_max_7cf53, 2, some .int, RJ9, 0, 0, (211, 58, 210, 0), [
  (0, .iload_n 0, 0, 0, 0, 0, 0, []),
  (1, .iload_n 1, 0, 0, 0, 0, 0, []),
  (2, .if_icmp .lt 7, 9, 0, 0, 0, 0, []),
  (5, .iload_n 0, 0, 0, 0, 0, 0, []),
  (6, .goto 4, 10, 0, 0, 0, 0, []),
  (9, .iload_n 1, 0, 0, 0, 0, 0, []),
  (10, .ireturn, 0, 0, 0, 0, 0, [])])
def m_Math_max_JJJ : rv_M := (yJ9_max_f86c9, cJ9_max_f86c9, 4, some .long, RJ9, 0, 0, (707, 58, 706, 0), [
  (0, .lload_n 0, 0, 0, 0, 0, 0, []),
  (1, .lload_n 2, 0, 0, 0, 0, 0, []),
  (2, .lcmp, 0, 0, 0, 0, 0, []),
  (3, .ifCond .lt 7, 10, 0, 0, 0, 0, []),
  (6, .lload_n 0, 0, 0, 0, 0, 0, []),
  (7, .goto 4, 11, 0, 0, 0, 0, []),
  (10, .lload_n 2, 0, 0, 0, 0, 0, []),
  (11, .lreturn, 0, 0, 0, 0, 0, [])])
def m_Math_min_III : rv_M := (yJ9_min_7cf53, cJ9_min_7cf53, 2, some .int, RJ9, 0, 0, (407, 58, 406, 0), [
  (0, .iload_n 0, 0, 0, 0, 0, 0, []),
  (1, .iload_n 1, 0, 0, 0, 0, 0, []),
  (2, .if_icmp .gt 7, 9, 0, 0, 0, 0, []),
  (5, .iload_n 0, 0, 0, 0, 0, 0, []),
  (6, .goto 4, 10, 0, 0, 0, 0, []),
  (9, .iload_n 1, 0, 0, 0, 0, 0, []),
  (10, .ireturn, 0, 0, 0, 0, 0, [])])
def m_Math_min_JJJ : rv_M := (yJ9_min_f86c9, cJ9_min_f86c9, 4, some .long, RJ9, 0, 0, (704, 58, 703, 0), [
  (0, .lload_n 0, 0, 0, 0, 0, 0, []),
  (1, .lload_n 2, 0, 0, 0, 0, 0, []),
  (2, .lcmp, 0, 0, 0, 0, 0, []),
  (3, .ifCond .gt 7, 10, 0, 0, 0, 0, []),
  (6, .lload_n 0, 0, 0, 0, 0, 0, []),
  (7, .goto 4, 11, 0, 0, 0, 0, []),
  (10, .lload_n 2, 0, 0, 0, 0, 0, []),
  (11, .lreturn, 0, 0, 0, 0, 0, [])])
def m_Law_law : rv_M := (yL_law, cL_law, 4, some .boolean, RL, 7, 159, (0, 50, 0, 0), [
  (0, .new 7, 10, 0, 0, 64, 0, []),
  (3, .dup, 0, 0, 0, 0, 0, []),
  (4, .invokespecial 9, 51, 0, 0, 66, 0, []),
  (7, .astore_n 1, 0, 0, 0, 0, 0, []),
  (8, .new 10, 11, 0, 0, 730, 0, []),
  (11, .dup, 0, 0, 0, 0, 0, []),
  (12, .invokespecial 12, 89, 0, 0, 732, 0, []),
  (15, .astore_n 2, 0, 0, 0, 0, 0, []),
  (16, .iconst 0, 0, 0, 0, 0, 0, []),
  (17, .istore_n 3, 0, 0, 0, 0, 0, []),
  (18, .iload_n 3, 0, 0, 0, 0, 0, []),
  (19, .aload_n 0, 0, 0, 0, 0, 0, []),
  (20, .arraylength, 0, 0, 0, 0, 0, []),
  (21, .bipush 6, 0, 0, 0, 0, 6, []),
  (23, .isub, 0, 0, 0, 0, 0, []),
  (24, .if_icmp .gt 614, 638, 0, 0, 0, 0, []),
  (27, .aload_n 0, 0, 0, 0, 0, 0, []),
  (28, .iload_n 3, 0, 0, 0, 0, 0, []),
  (29, .iaload, 0, 0, 0, 0, 0, []),
  (30, .bipush 15, 0, 0, 0, 0, 15, []),
  (32, .iand, 0, 0, 0, 0, 0, []),
  (33, .tableswitch 599 0 14 #[75, 138, 161, 194, 217, 270, 304, 337, 350, 383, 416, 439, 493, 542, 576], 632, 75, 0, 0, 0, [(0, 108), (1, 171), (2, 194), (3, 227), (4, 250), (5, 303), (6, 337), (7, 370), (8, 383), (9, 416), (10, 449), (11, 472), (12, 526), (13, 575), (14, 609)]),
  (108, .aload_n 1, 0, 0, 0, 0, 0, []),
  (109, .aload_n 0, 0, 0, 0, 0, 0, []),
  (110, .iload_n 3, 0, 0, 0, 0, 0, []),
  (111, .iconst 1, 0, 0, 0, 0, 1, []),
  (112, .iadd, 0, 0, 0, 0, 0, []),
  (113, .iaload, 0, 0, 0, 0, 0, []),
  (114, .aload_n 0, 0, 0, 0, 0, 0, []),
  (115, .iload_n 3, 0, 0, 0, 0, 0, []),
  (116, .iconst 2, 0, 0, 0, 0, 2, []),
  (117, .iadd, 0, 0, 0, 0, 0, []),
  (118, .iaload, 0, 0, 0, 0, 0, []),
  (119, .aload_n 0, 0, 0, 0, 0, 0, []),
  (120, .iload_n 3, 0, 0, 0, 0, 0, []),
  (121, .iconst 3, 0, 0, 0, 0, 3, []),
  (122, .iadd, 0, 0, 0, 0, 0, []),
  (123, .iaload, 0, 0, 0, 0, 0, []),
  (124, .aload_n 0, 0, 0, 0, 0, 0, []),
  (125, .iload_n 3, 0, 0, 0, 0, 0, []),
  (126, .iconst 4, 0, 0, 0, 0, 4, []),
  (127, .iadd, 0, 0, 0, 0, 0, []),
  (128, .iaload, 0, 0, 0, 0, 0, []),
  (129, .aload_n 0, 0, 0, 0, 0, 0, []),
  (130, .iload_n 3, 0, 0, 0, 0, 0, []),
  (131, .iconst 5, 0, 0, 0, 0, 5, []),
  (132, .iadd, 0, 0, 0, 0, 0, []),
  (133, .iaload, 0, 0, 0, 0, 0, []),
  (134, .invokevirtual 13, 52, 5, 10, 290, 0, []),
  (137, .aload_n 2, 0, 0, 0, 0, 0, []),
  (138, .aload_n 0, 0, 0, 0, 0, 0, []),
  (139, .iload_n 3, 0, 0, 0, 0, 0, []),
  (140, .iconst 1, 0, 0, 0, 0, 1, []),
  (141, .iadd, 0, 0, 0, 0, 0, []),
  (142, .iaload, 0, 0, 0, 0, 0, []),
  (143, .aload_n 0, 0, 0, 0, 0, 0, []),
  (144, .iload_n 3, 0, 0, 0, 0, 0, []),
  (145, .iconst 2, 0, 0, 0, 0, 2, []),
  (146, .iadd, 0, 0, 0, 0, 0, []),
  (147, .iaload, 0, 0, 0, 0, 0, []),
  (148, .aload_n 0, 0, 0, 0, 0, 0, []),
  (149, .iload_n 3, 0, 0, 0, 0, 0, []),
  (150, .iconst 3, 0, 0, 0, 0, 3, []),
  (151, .iadd, 0, 0, 0, 0, 0, []),
  (152, .iaload, 0, 0, 0, 0, 0, []),
  (153, .aload_n 0, 0, 0, 0, 0, 0, []),
  (154, .iload_n 3, 0, 0, 0, 0, 0, []),
  (155, .iconst 4, 0, 0, 0, 0, 4, []),
  (156, .iadd, 0, 0, 0, 0, 0, []),
  (157, .iaload, 0, 0, 0, 0, 0, []),
  (158, .aload_n 0, 0, 0, 0, 0, 0, []),
  (159, .iload_n 3, 0, 0, 0, 0, 0, []),
  (160, .iconst 5, 0, 0, 0, 0, 5, []),
  (161, .iadd, 0, 0, 0, 0, 0, []),
  (162, .iaload, 0, 0, 0, 0, 0, []),
  (163, .invokevirtual 17, 92, 5, 11, 893, 0, []),
  (166, .if_icmp .eq 466, 632, 0, 0, 0, 0, []),
  (169, .iconst 0, 0, 0, 0, 0, 0, []),
  (170, .ireturn, 0, 0, 0, 0, 0, []),
  (171, .aload_n 1, 0, 0, 0, 0, 0, []),
  (172, .aload_n 0, 0, 0, 0, 0, 0, []),
  (173, .iload_n 3, 0, 0, 0, 0, 0, []),
  (174, .iconst 1, 0, 0, 0, 0, 1, []),
  (175, .iadd, 0, 0, 0, 0, 0, []),
  (176, .iaload, 0, 0, 0, 0, 0, []),
  (177, .invokevirtual 18, 53, 1, 10, 336, 0, []),
  (180, .aload_n 2, 0, 0, 0, 0, 0, []),
  (181, .aload_n 0, 0, 0, 0, 0, 0, []),
  (182, .iload_n 3, 0, 0, 0, 0, 0, []),
  (183, .iconst 1, 0, 0, 0, 0, 1, []),
  (184, .iadd, 0, 0, 0, 0, 0, []),
  (185, .iaload, 0, 0, 0, 0, 0, []),
  (186, .invokevirtual 22, 93, 1, 11, 901, 0, []),
  (189, .if_icmp .eq 443, 632, 0, 0, 0, 0, []),
  (192, .iconst 0, 0, 0, 0, 0, 0, []),
  (193, .ireturn, 0, 0, 0, 0, 0, []),
  (194, .aload_n 1, 0, 0, 0, 0, 0, []),
  (195, .aload_n 0, 0, 0, 0, 0, 0, []),
  (196, .iload_n 3, 0, 0, 0, 0, 0, []),
  (197, .iconst 1, 0, 0, 0, 0, 1, []),
  (198, .iadd, 0, 0, 0, 0, 0, []),
  (199, .iaload, 0, 0, 0, 0, 0, []),
  (200, .aload_n 0, 0, 0, 0, 0, 0, []),
  (201, .iload_n 3, 0, 0, 0, 0, 0, []),
  (202, .iconst 2, 0, 0, 0, 0, 2, []),
  (203, .iadd, 0, 0, 0, 0, 0, []),
  (204, .iaload, 0, 0, 0, 0, 0, []),
  (205, .invokevirtual 23, 54, 2, 10, 388, 0, []),
  (208, .aload_n 2, 0, 0, 0, 0, 0, []),
  (209, .aload_n 0, 0, 0, 0, 0, 0, []),
  (210, .iload_n 3, 0, 0, 0, 0, 0, []),
  (211, .iconst 1, 0, 0, 0, 0, 1, []),
  (212, .iadd, 0, 0, 0, 0, 0, []),
  (213, .iaload, 0, 0, 0, 0, 0, []),
  (214, .aload_n 0, 0, 0, 0, 0, 0, []),
  (215, .iload_n 3, 0, 0, 0, 0, 0, []),
  (216, .iconst 2, 0, 0, 0, 0, 2, []),
  (217, .iadd, 0, 0, 0, 0, 0, []),
  (218, .iaload, 0, 0, 0, 0, 0, []),
  (219, .invokevirtual 27, 102, 2, 11, 910, 0, []),
  (222, .if_icmp .eq 410, 632, 0, 0, 0, 0, []),
  (225, .iconst 0, 0, 0, 0, 0, 0, []),
  (226, .ireturn, 0, 0, 0, 0, 0, []),
  (227, .aload_n 1, 0, 0, 0, 0, 0, []),
  (228, .aload_n 0, 0, 0, 0, 0, 0, []),
  (229, .iload_n 3, 0, 0, 0, 0, 0, []),
  (230, .iconst 1, 0, 0, 0, 0, 1, []),
  (231, .iadd, 0, 0, 0, 0, 0, []),
  (232, .iaload, 0, 0, 0, 0, 0, []),
  (233, .invokevirtual 28, 55, 1, 10, 469, 0, []),
  (236, .aload_n 2, 0, 0, 0, 0, 0, []),
  (237, .aload_n 0, 0, 0, 0, 0, 0, []),
  (238, .iload_n 3, 0, 0, 0, 0, 0, []),
  (239, .iconst 1, 0, 0, 0, 0, 1, []),
  (240, .iadd, 0, 0, 0, 0, 0, []),
  (241, .iaload, 0, 0, 0, 0, 0, []),
  (242, .invokevirtual 31, 103, 1, 11, 951, 0, []),
  (245, .if_icmp .eq 387, 632, 0, 0, 0, 0, []),
  (248, .iconst 0, 0, 0, 0, 0, 0, []),
  (249, .ireturn, 0, 0, 0, 0, 0, []),
  (250, .aload_n 1, 0, 0, 0, 0, 0, []),
  (251, .aload_n 0, 0, 0, 0, 0, 0, []),
  (252, .iload_n 3, 0, 0, 0, 0, 0, []),
  (253, .iconst 1, 0, 0, 0, 0, 1, []),
  (254, .iadd, 0, 0, 0, 0, 0, []),
  (255, .iaload, 0, 0, 0, 0, 0, []),
  (256, .aload_n 0, 0, 0, 0, 0, 0, []),
  (257, .iload_n 3, 0, 0, 0, 0, 0, []),
  (258, .iconst 2, 0, 0, 0, 0, 2, []),
  (259, .iadd, 0, 0, 0, 0, 0, []),
  (260, .iaload, 0, 0, 0, 0, 0, []),
  (261, .aload_n 0, 0, 0, 0, 0, 0, []),
  (262, .iload_n 3, 0, 0, 0, 0, 0, []),
  (263, .iconst 3, 0, 0, 0, 0, 3, []),
  (264, .iadd, 0, 0, 0, 0, 0, []),
  (265, .iaload, 0, 0, 0, 0, 0, []),
  (266, .aload_n 0, 0, 0, 0, 0, 0, []),
  (267, .iload_n 3, 0, 0, 0, 0, 0, []),
  (268, .iconst 4, 0, 0, 0, 0, 4, []),
  (269, .iadd, 0, 0, 0, 0, 0, []),
  (270, .iaload, 0, 0, 0, 0, 0, []),
  (271, .invokevirtual 32, 56, 4, 10, 473, 0, []),
  (274, .aload_n 2, 0, 0, 0, 0, 0, []),
  (275, .aload_n 0, 0, 0, 0, 0, 0, []),
  (276, .iload_n 3, 0, 0, 0, 0, 0, []),
  (277, .iconst 1, 0, 0, 0, 0, 1, []),
  (278, .iadd, 0, 0, 0, 0, 0, []),
  (279, .iaload, 0, 0, 0, 0, 0, []),
  (280, .aload_n 0, 0, 0, 0, 0, 0, []),
  (281, .iload_n 3, 0, 0, 0, 0, 0, []),
  (282, .iconst 2, 0, 0, 0, 0, 2, []),
  (283, .iadd, 0, 0, 0, 0, 0, []),
  (284, .iaload, 0, 0, 0, 0, 0, []),
  (285, .aload_n 0, 0, 0, 0, 0, 0, []),
  (286, .iload_n 3, 0, 0, 0, 0, 0, []),
  (287, .iconst 3, 0, 0, 0, 0, 3, []),
  (288, .iadd, 0, 0, 0, 0, 0, []),
  (289, .iaload, 0, 0, 0, 0, 0, []),
  (290, .aload_n 0, 0, 0, 0, 0, 0, []),
  (291, .iload_n 3, 0, 0, 0, 0, 0, []),
  (292, .iconst 4, 0, 0, 0, 0, 4, []),
  (293, .iadd, 0, 0, 0, 0, 0, []),
  (294, .iaload, 0, 0, 0, 0, 0, []),
  (295, .invokevirtual 36, 113, 4, 11, 955, 0, []),
  (298, .if_icmp .eq 334, 632, 0, 0, 0, 0, []),
  (301, .iconst 0, 0, 0, 0, 0, 0, []),
  (302, .ireturn, 0, 0, 0, 0, 0, []),
  (303, .aload_n 1, 0, 0, 0, 0, 0, []),
  (304, .aload_n 0, 0, 0, 0, 0, 0, []),
  (305, .iload_n 3, 0, 0, 0, 0, 0, []),
  (306, .iconst 1, 0, 0, 0, 0, 1, []),
  (307, .iadd, 0, 0, 0, 0, 0, []),
  (308, .iaload, 0, 0, 0, 0, 0, []),
  (309, .aload_n 0, 0, 0, 0, 0, 0, []),
  (310, .iload_n 3, 0, 0, 0, 0, 0, []),
  (311, .iconst 2, 0, 0, 0, 0, 2, []),
  (312, .iadd, 0, 0, 0, 0, 0, []),
  (313, .iaload, 0, 0, 0, 0, 0, []),
  (314, .invokevirtual 37, 57, 2, 10, 629, 0, []),
  (317, .aload_n 2, 0, 0, 0, 0, 0, []),
  (318, .aload_n 0, 0, 0, 0, 0, 0, []),
  (319, .iload_n 3, 0, 0, 0, 0, 0, []),
  (320, .iconst 1, 0, 0, 0, 0, 1, []),
  (321, .iadd, 0, 0, 0, 0, 0, []),
  (322, .iaload, 0, 0, 0, 0, 0, []),
  (323, .aload_n 0, 0, 0, 0, 0, 0, []),
  (324, .iload_n 3, 0, 0, 0, 0, 0, []),
  (325, .iconst 2, 0, 0, 0, 0, 2, []),
  (326, .iadd, 0, 0, 0, 0, 0, []),
  (327, .iaload, 0, 0, 0, 0, 0, []),
  (328, .invokevirtual 41, 115, 2, 11, 1003, 0, []),
  (331, .lcmp, 0, 0, 0, 0, 0, []),
  (332, .ifCond .eq 300, 632, 0, 0, 0, 0, []),
  (335, .iconst 0, 0, 0, 0, 0, 0, []),
  (336, .ireturn, 0, 0, 0, 0, 0, []),
  (337, .aload_n 1, 0, 0, 0, 0, 0, []),
  (338, .aload_n 0, 0, 0, 0, 0, 0, []),
  (339, .iload_n 3, 0, 0, 0, 0, 0, []),
  (340, .iconst 1, 0, 0, 0, 0, 1, []),
  (341, .iadd, 0, 0, 0, 0, 0, []),
  (342, .iaload, 0, 0, 0, 0, 0, []),
  (343, .aload_n 0, 0, 0, 0, 0, 0, []),
  (344, .iload_n 3, 0, 0, 0, 0, 0, []),
  (345, .iconst 2, 0, 0, 0, 0, 2, []),
  (346, .iadd, 0, 0, 0, 0, 0, []),
  (347, .iaload, 0, 0, 0, 0, 0, []),
  (348, .invokevirtual 42, 58, 2, 10, 638, 0, []),
  (351, .aload_n 2, 0, 0, 0, 0, 0, []),
  (352, .aload_n 0, 0, 0, 0, 0, 0, []),
  (353, .iload_n 3, 0, 0, 0, 0, 0, []),
  (354, .iconst 1, 0, 0, 0, 0, 1, []),
  (355, .iadd, 0, 0, 0, 0, 0, []),
  (356, .iaload, 0, 0, 0, 0, 0, []),
  (357, .aload_n 0, 0, 0, 0, 0, 0, []),
  (358, .iload_n 3, 0, 0, 0, 0, 0, []),
  (359, .iconst 2, 0, 0, 0, 0, 2, []),
  (360, .iadd, 0, 0, 0, 0, 0, []),
  (361, .iaload, 0, 0, 0, 0, 0, []),
  (362, .invokevirtual 45, 116, 2, 11, 1008, 0, []),
  (365, .if_icmp .eq 267, 632, 0, 0, 0, 0, []),
  (368, .iconst 0, 0, 0, 0, 0, 0, []),
  (369, .ireturn, 0, 0, 0, 0, 0, []),
  (370, .aload_n 1, 0, 0, 0, 0, 0, []),
  (371, .invokevirtual 46, 59, 0, 10, 642, 0, []),
  (374, .aload_n 2, 0, 0, 0, 0, 0, []),
  (375, .invokevirtual 50, 117, 0, 11, 1012, 0, []),
  (378, .if_icmp .eq 254, 632, 0, 0, 0, 0, []),
  (381, .iconst 0, 0, 0, 0, 0, 0, []),
  (382, .ireturn, 0, 0, 0, 0, 0, []),
  (383, .aload_n 1, 0, 0, 0, 0, 0, []),
  (384, .aload_n 0, 0, 0, 0, 0, 0, []),
  (385, .iload_n 3, 0, 0, 0, 0, 0, []),
  (386, .iconst 1, 0, 0, 0, 0, 1, []),
  (387, .iadd, 0, 0, 0, 0, 0, []),
  (388, .iaload, 0, 0, 0, 0, 0, []),
  (389, .aload_n 0, 0, 0, 0, 0, 0, []),
  (390, .iload_n 3, 0, 0, 0, 0, 0, []),
  (391, .iconst 2, 0, 0, 0, 0, 2, []),
  (392, .iadd, 0, 0, 0, 0, 0, []),
  (393, .iaload, 0, 0, 0, 0, 0, []),
  (394, .invokevirtual 51, 60, 2, 10, 650, 0, []),
  (397, .aload_n 2, 0, 0, 0, 0, 0, []),
  (398, .aload_n 0, 0, 0, 0, 0, 0, []),
  (399, .iload_n 3, 0, 0, 0, 0, 0, []),
  (400, .iconst 1, 0, 0, 0, 0, 1, []),
  (401, .iadd, 0, 0, 0, 0, 0, []),
  (402, .iaload, 0, 0, 0, 0, 0, []),
  (403, .aload_n 0, 0, 0, 0, 0, 0, []),
  (404, .iload_n 3, 0, 0, 0, 0, 0, []),
  (405, .iconst 2, 0, 0, 0, 0, 2, []),
  (406, .iadd, 0, 0, 0, 0, 0, []),
  (407, .iaload, 0, 0, 0, 0, 0, []),
  (408, .invokevirtual 54, 118, 2, 11, 1016, 0, []),
  (411, .if_icmp .eq 221, 632, 0, 0, 0, 0, []),
  (414, .iconst 0, 0, 0, 0, 0, 0, []),
  (415, .ireturn, 0, 0, 0, 0, 0, []),
  (416, .aload_n 1, 0, 0, 0, 0, 0, []),
  (417, .aload_n 0, 0, 0, 0, 0, 0, []),
  (418, .iload_n 3, 0, 0, 0, 0, 0, []),
  (419, .iconst 1, 0, 0, 0, 0, 1, []),
  (420, .iadd, 0, 0, 0, 0, 0, []),
  (421, .iaload, 0, 0, 0, 0, 0, []),
  (422, .aload_n 0, 0, 0, 0, 0, 0, []),
  (423, .iload_n 3, 0, 0, 0, 0, 0, []),
  (424, .iconst 2, 0, 0, 0, 0, 2, []),
  (425, .iadd, 0, 0, 0, 0, 0, []),
  (426, .iaload, 0, 0, 0, 0, 0, []),
  (427, .invokevirtual 55, 61, 2, 10, 654, 0, []),
  (430, .aload_n 2, 0, 0, 0, 0, 0, []),
  (431, .aload_n 0, 0, 0, 0, 0, 0, []),
  (432, .iload_n 3, 0, 0, 0, 0, 0, []),
  (433, .iconst 1, 0, 0, 0, 0, 1, []),
  (434, .iadd, 0, 0, 0, 0, 0, []),
  (435, .iaload, 0, 0, 0, 0, 0, []),
  (436, .aload_n 0, 0, 0, 0, 0, 0, []),
  (437, .iload_n 3, 0, 0, 0, 0, 0, []),
  (438, .iconst 2, 0, 0, 0, 0, 2, []),
  (439, .iadd, 0, 0, 0, 0, 0, []),
  (440, .iaload, 0, 0, 0, 0, 0, []),
  (441, .invokevirtual 58, 119, 2, 11, 1020, 0, []),
  (444, .if_icmp .eq 188, 632, 0, 0, 0, 0, []),
  (447, .iconst 0, 0, 0, 0, 0, 0, []),
  (448, .ireturn, 0, 0, 0, 0, 0, []),
  (449, .aload_n 1, 0, 0, 0, 0, 0, []),
  (450, .aload_n 0, 0, 0, 0, 0, 0, []),
  (451, .iload_n 3, 0, 0, 0, 0, 0, []),
  (452, .iconst 1, 0, 0, 0, 0, 1, []),
  (453, .iadd, 0, 0, 0, 0, 0, []),
  (454, .iaload, 0, 0, 0, 0, 0, []),
  (455, .invokevirtual 59, 62, 1, 10, 659, 0, []),
  (458, .aload_n 2, 0, 0, 0, 0, 0, []),
  (459, .aload_n 0, 0, 0, 0, 0, 0, []),
  (460, .iload_n 3, 0, 0, 0, 0, 0, []),
  (461, .iconst 1, 0, 0, 0, 0, 1, []),
  (462, .iadd, 0, 0, 0, 0, 0, []),
  (463, .iaload, 0, 0, 0, 0, 0, []),
  (464, .invokevirtual 62, 120, 1, 11, 1024, 0, []),
  (467, .if_icmp .eq 165, 632, 0, 0, 0, 0, []),
  (470, .iconst 0, 0, 0, 0, 0, 0, []),
  (471, .ireturn, 0, 0, 0, 0, 0, []),
  (472, .aload_n 1, 0, 0, 0, 0, 0, []),
  (473, .aload_n 0, 0, 0, 0, 0, 0, []),
  (474, .iload_n 3, 0, 0, 0, 0, 0, []),
  (475, .iconst 1, 0, 0, 0, 0, 1, []),
  (476, .iadd, 0, 0, 0, 0, 0, []),
  (477, .iaload, 0, 0, 0, 0, 0, []),
  (478, .aload_n 0, 0, 0, 0, 0, 0, []),
  (479, .iload_n 3, 0, 0, 0, 0, 0, []),
  (480, .iconst 2, 0, 0, 0, 0, 2, []),
  (481, .iadd, 0, 0, 0, 0, 0, []),
  (482, .iaload, 0, 0, 0, 0, 0, []),
  (483, .aload_n 0, 0, 0, 0, 0, 0, []),
  (484, .iload_n 3, 0, 0, 0, 0, 0, []),
  (485, .iconst 3, 0, 0, 0, 0, 3, []),
  (486, .iadd, 0, 0, 0, 0, 0, []),
  (487, .iaload, 0, 0, 0, 0, 0, []),
  (488, .aload_n 0, 0, 0, 0, 0, 0, []),
  (489, .iload_n 3, 0, 0, 0, 0, 0, []),
  (490, .iconst 4, 0, 0, 0, 0, 4, []),
  (491, .iadd, 0, 0, 0, 0, 0, []),
  (492, .iaload, 0, 0, 0, 0, 0, []),
  (493, .invokevirtual 63, 63, 4, 10, 663, 0, []),
  (496, .aload_n 2, 0, 0, 0, 0, 0, []),
  (497, .aload_n 0, 0, 0, 0, 0, 0, []),
  (498, .iload_n 3, 0, 0, 0, 0, 0, []),
  (499, .iconst 1, 0, 0, 0, 0, 1, []),
  (500, .iadd, 0, 0, 0, 0, 0, []),
  (501, .iaload, 0, 0, 0, 0, 0, []),
  (502, .aload_n 0, 0, 0, 0, 0, 0, []),
  (503, .iload_n 3, 0, 0, 0, 0, 0, []),
  (504, .iconst 2, 0, 0, 0, 0, 2, []),
  (505, .iadd, 0, 0, 0, 0, 0, []),
  (506, .iaload, 0, 0, 0, 0, 0, []),
  (507, .aload_n 0, 0, 0, 0, 0, 0, []),
  (508, .iload_n 3, 0, 0, 0, 0, 0, []),
  (509, .iconst 3, 0, 0, 0, 0, 3, []),
  (510, .iadd, 0, 0, 0, 0, 0, []),
  (511, .iaload, 0, 0, 0, 0, 0, []),
  (512, .aload_n 0, 0, 0, 0, 0, 0, []),
  (513, .iload_n 3, 0, 0, 0, 0, 0, []),
  (514, .iconst 4, 0, 0, 0, 0, 4, []),
  (515, .iadd, 0, 0, 0, 0, 0, []),
  (516, .iaload, 0, 0, 0, 0, 0, []),
  (517, .invokevirtual 67, 121, 4, 11, 1028, 0, []),
  (520, .lcmp, 0, 0, 0, 0, 0, []),
  (521, .ifCond .eq 111, 632, 0, 0, 0, 0, []),
  (524, .iconst 0, 0, 0, 0, 0, 0, []),
  (525, .ireturn, 0, 0, 0, 0, 0, []),
  (526, .aload_n 1, 0, 0, 0, 0, 0, []),
  (527, .aload_n 0, 0, 0, 0, 0, 0, []),
  (528, .iload_n 3, 0, 0, 0, 0, 0, []),
  (529, .iconst 1, 0, 0, 0, 0, 1, []),
  (530, .iadd, 0, 0, 0, 0, 0, []),
  (531, .iaload, 0, 0, 0, 0, 0, []),
  (532, .aload_n 0, 0, 0, 0, 0, 0, []),
  (533, .iload_n 3, 0, 0, 0, 0, 0, []),
  (534, .iconst 2, 0, 0, 0, 0, 2, []),
  (535, .iadd, 0, 0, 0, 0, 0, []),
  (536, .iaload, 0, 0, 0, 0, 0, []),
  (537, .ifCond .eq 7, 544, 0, 0, 0, 0, []),
  (540, .iconst 1, 0, 0, 0, 0, 1, []),
  (541, .goto 4, 545, 0, 0, 0, 0, []),
  (544, .iconst 0, 0, 0, 0, 0, 0, []),
  (545, .invokevirtual 68, 64, 2, 10, 673, 0, []),
  (548, .aload_n 2, 0, 0, 0, 0, 0, []),
  (549, .aload_n 0, 0, 0, 0, 0, 0, []),
  (550, .iload_n 3, 0, 0, 0, 0, 0, []),
  (551, .iconst 1, 0, 0, 0, 0, 1, []),
  (552, .iadd, 0, 0, 0, 0, 0, []),
  (553, .iaload, 0, 0, 0, 0, 0, []),
  (554, .aload_n 0, 0, 0, 0, 0, 0, []),
  (555, .iload_n 3, 0, 0, 0, 0, 0, []),
  (556, .iconst 2, 0, 0, 0, 0, 2, []),
  (557, .iadd, 0, 0, 0, 0, 0, []),
  (558, .iaload, 0, 0, 0, 0, 0, []),
  (559, .ifCond .eq 7, 566, 0, 0, 0, 0, []),
  (562, .iconst 1, 0, 0, 0, 0, 1, []),
  (563, .goto 4, 567, 0, 0, 0, 0, []),
  (566, .iconst 0, 0, 0, 0, 0, 0, []),
  (567, .invokevirtual 72, 125, 2, 11, 1032, 0, []),
  (570, .if_icmp .eq 62, 632, 0, 0, 0, 0, []),
  (573, .iconst 0, 0, 0, 0, 0, 0, []),
  (574, .ireturn, 0, 0, 0, 0, 0, []),
  (575, .aload_n 1, 0, 0, 0, 0, 0, []),
  (576, .aload_n 0, 0, 0, 0, 0, 0, []),
  (577, .iload_n 3, 0, 0, 0, 0, 0, []),
  (578, .iconst 1, 0, 0, 0, 0, 1, []),
  (579, .iadd, 0, 0, 0, 0, 0, []),
  (580, .iaload, 0, 0, 0, 0, 0, []),
  (581, .aload_n 0, 0, 0, 0, 0, 0, []),
  (582, .iload_n 3, 0, 0, 0, 0, 0, []),
  (583, .iconst 2, 0, 0, 0, 0, 2, []),
  (584, .iadd, 0, 0, 0, 0, 0, []),
  (585, .iaload, 0, 0, 0, 0, 0, []),
  (586, .invokevirtual 73, 65, 2, 10, 721, 0, []),
  (589, .aload_n 2, 0, 0, 0, 0, 0, []),
  (590, .aload_n 0, 0, 0, 0, 0, 0, []),
  (591, .iload_n 3, 0, 0, 0, 0, 0, []),
  (592, .iconst 1, 0, 0, 0, 0, 1, []),
  (593, .iadd, 0, 0, 0, 0, 0, []),
  (594, .iaload, 0, 0, 0, 0, 0, []),
  (595, .aload_n 0, 0, 0, 0, 0, 0, []),
  (596, .iload_n 3, 0, 0, 0, 0, 0, []),
  (597, .iconst 2, 0, 0, 0, 0, 2, []),
  (598, .iadd, 0, 0, 0, 0, 0, []),
  (599, .iaload, 0, 0, 0, 0, 0, []),
  (600, .invokevirtual 76, 126, 2, 11, 1048, 0, []),
  (603, .lcmp, 0, 0, 0, 0, 0, []),
  (604, .ifCond .eq 28, 632, 0, 0, 0, 0, []),
  (607, .iconst 0, 0, 0, 0, 0, 0, []),
  (608, .ireturn, 0, 0, 0, 0, 0, []),
  (609, .aload_n 1, 0, 0, 0, 0, 0, []),
  (610, .aload_n 0, 0, 0, 0, 0, 0, []),
  (611, .iload_n 3, 0, 0, 0, 0, 0, []),
  (612, .iconst 1, 0, 0, 0, 0, 1, []),
  (613, .iadd, 0, 0, 0, 0, 0, []),
  (614, .iaload, 0, 0, 0, 0, 0, []),
  (615, .invokevirtual 77, 66, 1, 10, 726, 0, []),
  (618, .aload_n 2, 0, 0, 0, 0, 0, []),
  (619, .aload_n 0, 0, 0, 0, 0, 0, []),
  (620, .iload_n 3, 0, 0, 0, 0, 0, []),
  (621, .iconst 1, 0, 0, 0, 0, 1, []),
  (622, .iadd, 0, 0, 0, 0, 0, []),
  (623, .iaload, 0, 0, 0, 0, 0, []),
  (624, .invokevirtual 80, 127, 1, 11, 1052, 0, []),
  (627, .if_icmp .eq 5, 632, 0, 0, 0, 0, []),
  (630, .iconst 0, 0, 0, 0, 0, 0, []),
  (631, .ireturn, 0, 0, 0, 0, 0, []),
  (632, .iinc 3 6, 0, 0, 0, 0, 6, []),
  (635, .goto (-617), 18, 0, 0, 0, 0, []),
  (638, .iconst 1, 0, 0, 0, 0, 1, []),
  (639, .ireturn, 0, 0, 0, 0, 0, [])])
def rv_all : List rv_M := [m_Join_init, m_Join_start, m_Join_add, m_OnePass_init, m_OnePass_clear, m_OnePass_add, m_OnePass_get, m_OnePass_addToGaps, m_OnePass_addToGrid, m_OnePass_find, m_OnePass_open, m_OnePass_comeInto, m_Operator_init, m_Operator_hasReached, m_Operator_closes, m_Operator_firstBegin, m_Ring_init, m_Ring_open, m_Ring_set, m_Ring_get, m_Ring_dropEldest, m_Ring_clear, m_Row_init, m_Row_standsAfter, m_RowLog_init, m_RowLog_add, m_RowLog_inOrder, m_Source_init, m_Source_noteRow, m_Tally_init, m_Tally_clear, m_Tally_copy, m_Tally_add, m_Tally_addAll, m_Window_init, m_Window_start, m_Window_belongsTo, m_Window_standsBefore, m_WindowList_init, m_WindowList_at, m_WindowList_find, m_WindowList_has, m_WindowList_findOrOpen, m_WindowList_remove, m_WindowList_nextDue, m_WindowList_nextClosed, m_WindowList_gather, m_WindowList_endsBefore, m_WindowList_holds, m_WindowList_placeOf, m_WindowList_open, m_Late_init, m_Late_operator, m_Late_source, m_Late_promise, m_Late_end, m_Late_row, m_Late_result, m_Late_aside, m_Late_take, m_Late_bound, m_Late_of, m_Late_mark, m_Late_window, m_Late_pass, m_Late_passed, m_Late_count, m_Late_isWithin, m_Late_operatorAt, m_Late_sourceAt, m_Late_moveMark, m_Late_leastPromise, m_Late_tellAllDue, m_Late_letClosedGo, m_Late_tell, m_Late_keepResult, m_Late_judge, m_Late_judgeInGaps, m_Late_judgeInGrid, m_Late_layAside, m_Late_keepAside, m_Late_countNewWindows, m_Late_useInGrid, m_Late_useInGaps, m_Late_takeBackJoined, m_Late_mergeJoined, m_Late_comeInto, m_Model_in, m_Model_down, m_Model_init, m_Model_isOp, m_Model_isSource, m_Model_operator, m_Model_source, m_Model_result_IIIJIIV, m_Model_tell, m_Model_takeBack, m_Model_remove, m_Model_isAhead, m_Model_isClosed, m_Model_due, m_Model_moves, m_Model_promise, m_Model_end, m_Model_found, m_Model_made, m_Model_into, m_Model_follows, m_Model_meets, m_Model_joined, m_Model_beginOf, m_Model_putAside, m_Model_came, m_Model_row, m_Model_gap, m_Model_result_IIJ, m_Model_aside, m_Model_take, m_Model_bound, m_Model_of, m_Model_mark, m_Model_window, m_Model_passInto, m_Model_isTaken, m_Model_edge, m_Model_pass, m_Model_passed, m_Model_count, m_Math_floorDiv, m_Math_max_III, m_Math_max_JJJ, m_Math_min_III, m_Math_min_JJJ, m_Law_law]
abbrev i_Join_init : Nat := 0
abbrev i_Join_start : Nat := 1
abbrev i_Join_add : Nat := 2
abbrev i_OnePass_init : Nat := 3
abbrev i_OnePass_clear : Nat := 4
abbrev i_OnePass_add : Nat := 5
abbrev i_OnePass_get : Nat := 6
abbrev i_OnePass_addToGaps : Nat := 7
abbrev i_OnePass_addToGrid : Nat := 8
abbrev i_OnePass_find : Nat := 9
abbrev i_OnePass_open : Nat := 10
abbrev i_OnePass_comeInto : Nat := 11
abbrev i_Operator_init : Nat := 12
abbrev i_Operator_hasReached : Nat := 13
abbrev i_Operator_closes : Nat := 14
abbrev i_Operator_firstBegin : Nat := 15
abbrev i_Ring_init : Nat := 16
abbrev i_Ring_open : Nat := 17
abbrev i_Ring_set : Nat := 18
abbrev i_Ring_get : Nat := 19
abbrev i_Ring_dropEldest : Nat := 20
abbrev i_Ring_clear : Nat := 21
abbrev i_Row_init : Nat := 22
abbrev i_Row_standsAfter : Nat := 23
abbrev i_RowLog_init : Nat := 24
abbrev i_RowLog_add : Nat := 25
abbrev i_RowLog_inOrder : Nat := 26
abbrev i_Source_init : Nat := 27
abbrev i_Source_noteRow : Nat := 28
abbrev i_Tally_init : Nat := 29
abbrev i_Tally_clear : Nat := 30
abbrev i_Tally_copy : Nat := 31
abbrev i_Tally_add : Nat := 32
abbrev i_Tally_addAll : Nat := 33
abbrev i_Window_init : Nat := 34
abbrev i_Window_start : Nat := 35
abbrev i_Window_belongsTo : Nat := 36
abbrev i_Window_standsBefore : Nat := 37
abbrev i_WindowList_init : Nat := 38
abbrev i_WindowList_at : Nat := 39
abbrev i_WindowList_find : Nat := 40
abbrev i_WindowList_has : Nat := 41
abbrev i_WindowList_findOrOpen : Nat := 42
abbrev i_WindowList_remove : Nat := 43
abbrev i_WindowList_nextDue : Nat := 44
abbrev i_WindowList_nextClosed : Nat := 45
abbrev i_WindowList_gather : Nat := 46
abbrev i_WindowList_endsBefore : Nat := 47
abbrev i_WindowList_holds : Nat := 48
abbrev i_WindowList_placeOf : Nat := 49
abbrev i_WindowList_open : Nat := 50
abbrev i_Late_init : Nat := 51
abbrev i_Late_operator : Nat := 52
abbrev i_Late_source : Nat := 53
abbrev i_Late_promise : Nat := 54
abbrev i_Late_end : Nat := 55
abbrev i_Late_row : Nat := 56
abbrev i_Late_result : Nat := 57
abbrev i_Late_aside : Nat := 58
abbrev i_Late_take : Nat := 59
abbrev i_Late_bound : Nat := 60
abbrev i_Late_of : Nat := 61
abbrev i_Late_mark : Nat := 62
abbrev i_Late_window : Nat := 63
abbrev i_Late_pass : Nat := 64
abbrev i_Late_passed : Nat := 65
abbrev i_Late_count : Nat := 66
abbrev i_Late_isWithin : Nat := 67
abbrev i_Late_operatorAt : Nat := 68
abbrev i_Late_sourceAt : Nat := 69
abbrev i_Late_moveMark : Nat := 70
abbrev i_Late_leastPromise : Nat := 71
abbrev i_Late_tellAllDue : Nat := 72
abbrev i_Late_letClosedGo : Nat := 73
abbrev i_Late_tell : Nat := 74
abbrev i_Late_keepResult : Nat := 75
abbrev i_Late_judge : Nat := 76
abbrev i_Late_judgeInGaps : Nat := 77
abbrev i_Late_judgeInGrid : Nat := 78
abbrev i_Late_layAside : Nat := 79
abbrev i_Late_keepAside : Nat := 80
abbrev i_Late_countNewWindows : Nat := 81
abbrev i_Late_useInGrid : Nat := 82
abbrev i_Late_useInGaps : Nat := 83
abbrev i_Late_takeBackJoined : Nat := 84
abbrev i_Late_mergeJoined : Nat := 85
abbrev i_Late_comeInto : Nat := 86
abbrev i_Model_in : Nat := 87
abbrev i_Model_down : Nat := 88
abbrev i_Model_init : Nat := 89
abbrev i_Model_isOp : Nat := 90
abbrev i_Model_isSource : Nat := 91
abbrev i_Model_operator : Nat := 92
abbrev i_Model_source : Nat := 93
abbrev i_Model_result_IIIJIIV : Nat := 94
abbrev i_Model_tell : Nat := 95
abbrev i_Model_takeBack : Nat := 96
abbrev i_Model_remove : Nat := 97
abbrev i_Model_isAhead : Nat := 98
abbrev i_Model_isClosed : Nat := 99
abbrev i_Model_due : Nat := 100
abbrev i_Model_moves : Nat := 101
abbrev i_Model_promise : Nat := 102
abbrev i_Model_end : Nat := 103
abbrev i_Model_found : Nat := 104
abbrev i_Model_made : Nat := 105
abbrev i_Model_into : Nat := 106
abbrev i_Model_follows : Nat := 107
abbrev i_Model_meets : Nat := 108
abbrev i_Model_joined : Nat := 109
abbrev i_Model_beginOf : Nat := 110
abbrev i_Model_putAside : Nat := 111
abbrev i_Model_came : Nat := 112
abbrev i_Model_row : Nat := 113
abbrev i_Model_gap : Nat := 114
abbrev i_Model_result_IIJ : Nat := 115
abbrev i_Model_aside : Nat := 116
abbrev i_Model_take : Nat := 117
abbrev i_Model_bound : Nat := 118
abbrev i_Model_of : Nat := 119
abbrev i_Model_mark : Nat := 120
abbrev i_Model_window : Nat := 121
abbrev i_Model_passInto : Nat := 122
abbrev i_Model_isTaken : Nat := 123
abbrev i_Model_edge : Nat := 124
abbrev i_Model_pass : Nat := 125
abbrev i_Model_passed : Nat := 126
abbrev i_Model_count : Nat := 127
abbrev i_Math_floorDiv : Nat := 128
abbrev i_Math_max_III : Nat := 129
abbrev i_Math_max_JJJ : Nat := 130
abbrev i_Math_min_III : Nat := 131
abbrev i_Math_min_JJJ : Nat := 132
abbrev i_Law_law : Nat := 133
end
section
/-! WHAT IS CHECKED OF A LISTING (by the kernel, a method at a time) -/
def rv_tag : FieldType := .object "#"
def rv_nth {α : Type} : List α → Nat → Option α
  | [], _ => none
  | x :: _, 0 => some x
  | _ :: l, i + 1 => rv_nth l i
theorem rv_nth_eq {α : Type} : ∀ (l : List α) (i : Nat), rv_nth l i = l[i]?
  | [], i => by simp [rv_nth]
  | x :: l, 0 => by simp [rv_nth]
  | x :: l, i + 1 => by simp [rv_nth, rv_nth_eq l i]
def rv_md (i : Nat) : rv_M := (rv_nth rv_all i).getD m_Law_law
abbrev rv_bt (M : rv_M) : ByteArray := M.2.1
abbrev rv_ml (M : rv_M) : Nat := M.2.2.1
abbrev rv_rt (M : rv_M) : Option FieldType := M.2.2.2.1
abbrev rv_ow (M : rv_M) : String := M.2.2.2.2.1
abbrev rv_rk (M : rv_M) : Nat := M.2.2.2.2.2.1
abbrev rv_nd (M : rv_M) : Nat := M.2.2.2.2.2.2.1
abbrev rv_pl (M : rv_M) : Nat × Nat × Nat × Nat := M.2.2.2.2.2.2.2.1
abbrev rv_li (M : rv_M) : List rv_I := M.2.2.2.2.2.2.2.2
def rv_gl : List Cond := lw_tbl.filter goodWord
def rv_has (p : Nat) (w : Cond) : Bool := decide (lw_tbl[p]? = some w)
def rv_hasG (p : Nat) (w : Cond) : Bool := rv_has p w && goodWord w
theorem rv_has_mem {p : Nat} {w : Cond} (h : rv_has p w = true) : w ∈ lw_tbl := List.mem_of_getElem? (of_decide_eq_true h)
theorem rv_hasG_mem {p : Nat} {w : Cond} (h : rv_hasG p w = true) : w ∈ rv_gl := by
  simp only [rv_hasG, Bool.and_eq_true] at h
  exact List.mem_filter.mpr ⟨rv_has_mem h.1, h.2⟩
def rv_len (b : Nat) : Instr → Nat
  | .aload _ | .astore _ | .bipush _ | .iload _ | .istore _ | .ldc _ | .lload _ | .lstore _ | .newarray _ => 2
  | .anewarray _ | .getfield _ | .putfield _ | .goto _ | .ifCond _ _ | .if_icmp _ _ | .if_acmp _ _ | .ifnull _ | .ifnonnull _ | .iinc _ _ | .invokevirtual _ | .invokespecial _ | .invokestatic _ | .ldc2_w _ | .new _ | .sipush _ => 3
  | .tableswitch _ _ _ _ => b
  | _ => 1
def rv_okc (M : rv_M) (a b : Nat) : Bool := decide (a < i_Law_law) && decide (rv_rk (rv_md a) + 1 ≤ rv_rk M) && decide (8 + (rv_ml (rv_md a) + 11) + rv_nd (rv_md a) ≤ rv_nd M) && decide ((parseMethodDescriptor (rv_md a).1.desc).map (fun d => d.parameters.length) = some b) && decide ((rv_md a).1.cls ≠ "java/lang/invoke/MethodHandle") && decide ((rv_md a).1.cls ≠ "java/lang/invoke/VarHandle") && rv_hasG (rv_pl (rv_md a)).2.1 (.initialized (rv_md a).1.cls)
def rv_oksw (pc a : Nat) (d lo hi : Int) (offs : Array Int) (sw : List (Int32 × Nat)) : Bool :=
  decide ((sw.length : Int) = hi - lo + 1) && decide ((pc : Int) + d = (a : Int)) && (List.range sw.length).all (fun i => match sw[i]?, offs[i]? with
    | some (key, t), some off => decide (key.toInt = lo + i) && decide ((pc : Int) + off = (t : Int))
    | _, _ => false)
def rv_lk (M : rv_M) (pc a b k p : Nat) (v : Int32) (sw : List (Int32 × Nat)) : Instr → Bool
  | .iconst n => decide (Int32.ofInt n = v)
  | .bipush n => decide ((Int8.ofInt n).toInt32 = v)
  | .sipush n => decide ((Int16.ofInt n).toInt32 = v)
  | .iinc i n => decide (Int32.ofInt n = v) && decide (i < rv_ml M)
  | .istore i => decide (i < rv_ml M)
  | .istore_n i => decide (i.val < rv_ml M)
  | .astore i => decide (i < rv_ml M)
  | .astore_n i => decide (i.val < rv_ml M)
  | .lstore i => decide (i + 1 < rv_ml M)
  | .ldc idx => rv_hasG p (.constant (rv_ow M) idx v)
  | .ldc2_w idx => rv_hasG p (.constantLong (rv_ow M) idx (-99999999))
  | .goto off => decide ((pc : Int) + off = (a : Int))
  | .ifCond _ off => decide ((pc : Int) + off = (a : Int))
  | .if_icmp _ off => decide ((pc : Int) + off = (a : Int))
  | .if_acmp _ off => decide ((pc : Int) + off = (a : Int))
  | .ifnull off => decide ((pc : Int) + off = (a : Int))
  | .ifnonnull off => decide ((pc : Int) + off = (a : Int))
  | .tableswitch d lo hi offs => rv_oksw pc a d lo hi offs sw
  | .getfield idx => match classes[a]? with
    | some r => decide (b < r.2.2) && rv_hasG p (.fieldLink (rv_ow M) idx (r.2.1 b).1 (r.2.1 b).2.1 (r.2.1 b).2.2.1)
    | none => false
  | .putfield idx => match classes[a]? with
    | some r => decide (b < r.2.2) && rv_hasG p (.fieldLink (rv_ow M) idx (r.2.1 b).1 (r.2.1 b).2.1 (r.2.1 b).2.2.1) && (!(r.2.1 b).2.2.2 || (decide (M.1.name = "<init>") && decide ((r.2.1 b).1 = rv_ow M)))
    | none => false
  | .new idx => match classes[a]? with
    | some r => rv_hasG p (.classLink (rv_ow M) idx r.1)
    | none => false
  | .anewarray idx => match classes[a]? with
    | some r => rv_hasG p (.classLink (rv_ow M) idx r.1) && rv_has b (.arrayOver (.object r.1))
    | none => false
  | .newarray t => rv_hasG p (.arrayClass (newarray.typeOf t)) && decide (¬ newarray.typeOf t = rv_tag)
  | .invokevirtual idx => rv_okc M a b && rv_hasG p (.methodLink (rv_ow M) idx (rv_md a).1) && rv_hasG (rv_pl (rv_md a)).2.2.1 (.instanceMethod (rv_md a).1) && rv_hasG (rv_pl (rv_md a)).2.2.2 (.selects (rv_md a).1.cls (rv_md a).1 (rv_md a).1) && (match classes[k]? with
    | some r => decide (r.1 = (rv_md a).1.cls)
    | none => false)
  | .invokestatic idx => rv_okc M a b && rv_hasG p (.methodLink (rv_ow M) idx (rv_md a).1) && rv_hasG (rv_pl (rv_md a)).2.2.1 (.static (rv_md a).1)
  | .invokespecial idx => match k with
    | 2 => rv_hasG p (.methodLink (rv_ow M) idx objectInit) && decide (1 ≤ rv_rk M) && decide (20 ≤ rv_nd M)
    | 1 => rv_okc M a b && rv_has p (.methodLinkNest (rv_ow M) idx (rv_md a).1 "LateRows") && rv_hasG (rv_pl (rv_md a)).2.2.1 (.instanceMethod (rv_md a).1) && decide ((rv_md a).1.name = "<init>") && decide (rv_rt (rv_md a) = none)
    | _ => rv_okc M a b && rv_hasG p (.methodLink (rv_ow M) idx (rv_md a).1) && rv_hasG (rv_pl (rv_md a)).2.2.1 (.instanceMethod (rv_md a).1) && decide ((rv_md a).1.name = "<init>") && decide (rv_rt (rv_md a) = none)
  | _ => true
def rv_ok (M : rv_M) (x : rv_I) : Bool := decide (decode (rv_bt M) x.1 = .ok (x.2.1, rv_len x.2.2.2.1 x.2.1)) && rv_lk M x.1 x.2.2.1 x.2.2.2.1 x.2.2.2.2.1 x.2.2.2.2.2.1 x.2.2.2.2.2.2.1 x.2.2.2.2.2.2.2 x.2.1
def rv_good (M : rv_M) : Prop := ∀ x ∈ rv_li M, rv_ok M x = true
theorem rv_good_of {M : rv_M} (h : (rv_li M).all (rv_ok M) = true) : rv_good M := fun x hx => List.all_eq_true.mp h x hx
end
section
set_option maxRecDepth 100000 in
theorem rv_gd_Join_init : rv_good m_Join_init := rv_good_of (by decide +kernel)
set_option maxRecDepth 100000 in
theorem rv_gd_Join_start : rv_good m_Join_start := rv_good_of (by decide +kernel)
set_option maxRecDepth 100000 in
theorem rv_gd_Join_add : rv_good m_Join_add := rv_good_of (by decide +kernel)
set_option maxRecDepth 100000 in
theorem rv_gd_OnePass_init : rv_good m_OnePass_init := rv_good_of (by decide +kernel)
set_option maxRecDepth 100000 in
theorem rv_gd_OnePass_clear : rv_good m_OnePass_clear := rv_good_of (by decide +kernel)
set_option maxRecDepth 100000 in
theorem rv_gd_OnePass_add : rv_good m_OnePass_add := rv_good_of (by decide +kernel)
set_option maxRecDepth 100000 in
theorem rv_gd_OnePass_get : rv_good m_OnePass_get := rv_good_of (by decide +kernel)
set_option maxRecDepth 100000 in
theorem rv_gd_OnePass_addToGaps : rv_good m_OnePass_addToGaps := rv_good_of (by decide +kernel)
set_option maxRecDepth 100000 in
theorem rv_gd_OnePass_addToGrid : rv_good m_OnePass_addToGrid := rv_good_of (by decide +kernel)
set_option maxRecDepth 100000 in
theorem rv_gd_OnePass_find : rv_good m_OnePass_find := rv_good_of (by decide +kernel)
set_option maxRecDepth 100000 in
theorem rv_gd_OnePass_open : rv_good m_OnePass_open := rv_good_of (by decide +kernel)
set_option maxRecDepth 100000 in
theorem rv_gd_OnePass_comeInto : rv_good m_OnePass_comeInto := rv_good_of (by decide +kernel)
set_option maxRecDepth 100000 in
theorem rv_gd_Operator_init : rv_good m_Operator_init := rv_good_of (by decide +kernel)
set_option maxRecDepth 100000 in
theorem rv_gd_Operator_hasReached : rv_good m_Operator_hasReached := rv_good_of (by decide +kernel)
set_option maxRecDepth 100000 in
theorem rv_gd_Operator_closes : rv_good m_Operator_closes := rv_good_of (by decide +kernel)
set_option maxRecDepth 100000 in
theorem rv_gd_Operator_firstBegin : rv_good m_Operator_firstBegin := rv_good_of (by decide +kernel)
set_option maxRecDepth 100000 in
theorem rv_gd_Ring_init : rv_good m_Ring_init := rv_good_of (by decide +kernel)
set_option maxRecDepth 100000 in
theorem rv_gd_Ring_open : rv_good m_Ring_open := rv_good_of (by decide +kernel)
set_option maxRecDepth 100000 in
theorem rv_gd_Ring_set : rv_good m_Ring_set := rv_good_of (by decide +kernel)
set_option maxRecDepth 100000 in
theorem rv_gd_Ring_get : rv_good m_Ring_get := rv_good_of (by decide +kernel)
set_option maxRecDepth 100000 in
theorem rv_gd_Ring_dropEldest : rv_good m_Ring_dropEldest := rv_good_of (by decide +kernel)
set_option maxRecDepth 100000 in
theorem rv_gd_Ring_clear : rv_good m_Ring_clear := rv_good_of (by decide +kernel)
set_option maxRecDepth 100000 in
theorem rv_gd_Row_init : rv_good m_Row_init := rv_good_of (by decide +kernel)
set_option maxRecDepth 100000 in
theorem rv_gd_Row_standsAfter : rv_good m_Row_standsAfter := rv_good_of (by decide +kernel)
set_option maxRecDepth 100000 in
theorem rv_gd_RowLog_init : rv_good m_RowLog_init := rv_good_of (by decide +kernel)
set_option maxRecDepth 100000 in
theorem rv_gd_RowLog_add : rv_good m_RowLog_add := rv_good_of (by decide +kernel)
set_option maxRecDepth 100000 in
theorem rv_gd_RowLog_inOrder : rv_good m_RowLog_inOrder := rv_good_of (by decide +kernel)
set_option maxRecDepth 100000 in
theorem rv_gd_Source_init : rv_good m_Source_init := rv_good_of (by decide +kernel)
set_option maxRecDepth 100000 in
theorem rv_gd_Source_noteRow : rv_good m_Source_noteRow := rv_good_of (by decide +kernel)
set_option maxRecDepth 100000 in
theorem rv_gd_Tally_init : rv_good m_Tally_init := rv_good_of (by decide +kernel)
set_option maxRecDepth 100000 in
theorem rv_gd_Tally_clear : rv_good m_Tally_clear := rv_good_of (by decide +kernel)
set_option maxRecDepth 100000 in
theorem rv_gd_Tally_copy : rv_good m_Tally_copy := rv_good_of (by decide +kernel)
set_option maxRecDepth 100000 in
theorem rv_gd_Tally_add : rv_good m_Tally_add := rv_good_of (by decide +kernel)
set_option maxRecDepth 100000 in
theorem rv_gd_Tally_addAll : rv_good m_Tally_addAll := rv_good_of (by decide +kernel)
set_option maxRecDepth 100000 in
theorem rv_gd_Window_init : rv_good m_Window_init := rv_good_of (by decide +kernel)
set_option maxRecDepth 100000 in
theorem rv_gd_Window_start : rv_good m_Window_start := rv_good_of (by decide +kernel)
set_option maxRecDepth 100000 in
theorem rv_gd_Window_belongsTo : rv_good m_Window_belongsTo := rv_good_of (by decide +kernel)
set_option maxRecDepth 100000 in
theorem rv_gd_Window_standsBefore : rv_good m_Window_standsBefore := rv_good_of (by decide +kernel)
set_option maxRecDepth 100000 in
theorem rv_gd_WindowList_init : rv_good m_WindowList_init := rv_good_of (by decide +kernel)
set_option maxRecDepth 100000 in
theorem rv_gd_WindowList_at : rv_good m_WindowList_at := rv_good_of (by decide +kernel)
set_option maxRecDepth 100000 in
theorem rv_gd_WindowList_find : rv_good m_WindowList_find := rv_good_of (by decide +kernel)
set_option maxRecDepth 100000 in
theorem rv_gd_WindowList_has : rv_good m_WindowList_has := rv_good_of (by decide +kernel)
set_option maxRecDepth 100000 in
theorem rv_gd_WindowList_findOrOpen : rv_good m_WindowList_findOrOpen := rv_good_of (by decide +kernel)
set_option maxRecDepth 100000 in
theorem rv_gd_WindowList_remove : rv_good m_WindowList_remove := rv_good_of (by decide +kernel)
set_option maxRecDepth 100000 in
theorem rv_gd_WindowList_nextDue : rv_good m_WindowList_nextDue := rv_good_of (by decide +kernel)
set_option maxRecDepth 100000 in
theorem rv_gd_WindowList_nextClosed : rv_good m_WindowList_nextClosed := rv_good_of (by decide +kernel)
set_option maxRecDepth 100000 in
theorem rv_gd_WindowList_gather : rv_good m_WindowList_gather := rv_good_of (by decide +kernel)
set_option maxRecDepth 100000 in
theorem rv_gd_WindowList_endsBefore : rv_good m_WindowList_endsBefore := rv_good_of (by decide +kernel)
set_option maxRecDepth 100000 in
theorem rv_gd_WindowList_holds : rv_good m_WindowList_holds := rv_good_of (by decide +kernel)
set_option maxRecDepth 100000 in
theorem rv_gd_WindowList_placeOf : rv_good m_WindowList_placeOf := rv_good_of (by decide +kernel)
set_option maxRecDepth 100000 in
theorem rv_gd_WindowList_open : rv_good m_WindowList_open := rv_good_of (by decide +kernel)
set_option maxRecDepth 100000 in
theorem rv_gd_Late_init : rv_good m_Late_init := rv_good_of (by decide +kernel)
set_option maxRecDepth 100000 in
theorem rv_gd_Late_operator : rv_good m_Late_operator := rv_good_of (by decide +kernel)
set_option maxRecDepth 100000 in
theorem rv_gd_Late_source : rv_good m_Late_source := rv_good_of (by decide +kernel)
set_option maxRecDepth 100000 in
theorem rv_gd_Late_promise : rv_good m_Late_promise := rv_good_of (by decide +kernel)
set_option maxRecDepth 100000 in
theorem rv_gd_Late_end : rv_good m_Late_end := rv_good_of (by decide +kernel)
set_option maxRecDepth 100000 in
theorem rv_gd_Late_row : rv_good m_Late_row := rv_good_of (by decide +kernel)
set_option maxRecDepth 100000 in
theorem rv_gd_Late_result : rv_good m_Late_result := rv_good_of (by decide +kernel)
set_option maxRecDepth 100000 in
theorem rv_gd_Late_aside : rv_good m_Late_aside := rv_good_of (by decide +kernel)
set_option maxRecDepth 100000 in
theorem rv_gd_Late_take : rv_good m_Late_take := rv_good_of (by decide +kernel)
set_option maxRecDepth 100000 in
theorem rv_gd_Late_bound : rv_good m_Late_bound := rv_good_of (by decide +kernel)
set_option maxRecDepth 100000 in
theorem rv_gd_Late_of : rv_good m_Late_of := rv_good_of (by decide +kernel)
set_option maxRecDepth 100000 in
theorem rv_gd_Late_mark : rv_good m_Late_mark := rv_good_of (by decide +kernel)
set_option maxRecDepth 100000 in
theorem rv_gd_Late_window : rv_good m_Late_window := rv_good_of (by decide +kernel)
set_option maxRecDepth 100000 in
theorem rv_gd_Late_pass : rv_good m_Late_pass := rv_good_of (by decide +kernel)
set_option maxRecDepth 100000 in
theorem rv_gd_Late_passed : rv_good m_Late_passed := rv_good_of (by decide +kernel)
set_option maxRecDepth 100000 in
theorem rv_gd_Late_count : rv_good m_Late_count := rv_good_of (by decide +kernel)
end
section
set_option maxRecDepth 100000 in
theorem rv_gd_Late_isWithin : rv_good m_Late_isWithin := rv_good_of (by decide +kernel)
set_option maxRecDepth 100000 in
theorem rv_gd_Late_operatorAt : rv_good m_Late_operatorAt := rv_good_of (by decide +kernel)
set_option maxRecDepth 100000 in
theorem rv_gd_Late_sourceAt : rv_good m_Late_sourceAt := rv_good_of (by decide +kernel)
set_option maxRecDepth 100000 in
theorem rv_gd_Late_moveMark : rv_good m_Late_moveMark := rv_good_of (by decide +kernel)
set_option maxRecDepth 100000 in
theorem rv_gd_Late_leastPromise : rv_good m_Late_leastPromise := rv_good_of (by decide +kernel)
set_option maxRecDepth 100000 in
theorem rv_gd_Late_tellAllDue : rv_good m_Late_tellAllDue := rv_good_of (by decide +kernel)
set_option maxRecDepth 100000 in
theorem rv_gd_Late_letClosedGo : rv_good m_Late_letClosedGo := rv_good_of (by decide +kernel)
set_option maxRecDepth 100000 in
theorem rv_gd_Late_tell : rv_good m_Late_tell := rv_good_of (by decide +kernel)
set_option maxRecDepth 100000 in
theorem rv_gd_Late_keepResult : rv_good m_Late_keepResult := rv_good_of (by decide +kernel)
set_option maxRecDepth 100000 in
theorem rv_gd_Late_judge : rv_good m_Late_judge := rv_good_of (by decide +kernel)
set_option maxRecDepth 100000 in
theorem rv_gd_Late_judgeInGaps : rv_good m_Late_judgeInGaps := rv_good_of (by decide +kernel)
set_option maxRecDepth 100000 in
theorem rv_gd_Late_judgeInGrid : rv_good m_Late_judgeInGrid := rv_good_of (by decide +kernel)
set_option maxRecDepth 100000 in
theorem rv_gd_Late_layAside : rv_good m_Late_layAside := rv_good_of (by decide +kernel)
set_option maxRecDepth 100000 in
theorem rv_gd_Late_keepAside : rv_good m_Late_keepAside := rv_good_of (by decide +kernel)
set_option maxRecDepth 100000 in
theorem rv_gd_Late_countNewWindows : rv_good m_Late_countNewWindows := rv_good_of (by decide +kernel)
set_option maxRecDepth 100000 in
theorem rv_gd_Late_useInGrid : rv_good m_Late_useInGrid := rv_good_of (by decide +kernel)
set_option maxRecDepth 100000 in
theorem rv_gd_Late_useInGaps : rv_good m_Late_useInGaps := rv_good_of (by decide +kernel)
set_option maxRecDepth 100000 in
theorem rv_gd_Late_takeBackJoined : rv_good m_Late_takeBackJoined := rv_good_of (by decide +kernel)
set_option maxRecDepth 100000 in
theorem rv_gd_Late_mergeJoined : rv_good m_Late_mergeJoined := rv_good_of (by decide +kernel)
set_option maxRecDepth 100000 in
theorem rv_gd_Late_comeInto : rv_good m_Late_comeInto := rv_good_of (by decide +kernel)
set_option maxRecDepth 100000 in
theorem rv_gd_Model_in : rv_good m_Model_in := rv_good_of (by decide +kernel)
set_option maxRecDepth 100000 in
theorem rv_gd_Model_down : rv_good m_Model_down := rv_good_of (by decide +kernel)
set_option maxRecDepth 100000 in
theorem rv_gd_Model_init : rv_good m_Model_init := rv_good_of (by decide +kernel)
set_option maxRecDepth 100000 in
theorem rv_gd_Model_isOp : rv_good m_Model_isOp := rv_good_of (by decide +kernel)
set_option maxRecDepth 100000 in
theorem rv_gd_Model_isSource : rv_good m_Model_isSource := rv_good_of (by decide +kernel)
set_option maxRecDepth 100000 in
theorem rv_gd_Model_operator : rv_good m_Model_operator := rv_good_of (by decide +kernel)
set_option maxRecDepth 100000 in
theorem rv_gd_Model_source : rv_good m_Model_source := rv_good_of (by decide +kernel)
set_option maxRecDepth 100000 in
theorem rv_gd_Model_result_IIIJIIV : rv_good m_Model_result_IIIJIIV := rv_good_of (by decide +kernel)
set_option maxRecDepth 100000 in
theorem rv_gd_Model_tell : rv_good m_Model_tell := rv_good_of (by decide +kernel)
set_option maxRecDepth 100000 in
theorem rv_gd_Model_takeBack : rv_good m_Model_takeBack := rv_good_of (by decide +kernel)
set_option maxRecDepth 100000 in
theorem rv_gd_Model_remove : rv_good m_Model_remove := rv_good_of (by decide +kernel)
set_option maxRecDepth 100000 in
theorem rv_gd_Model_isAhead : rv_good m_Model_isAhead := rv_good_of (by decide +kernel)
set_option maxRecDepth 100000 in
theorem rv_gd_Model_isClosed : rv_good m_Model_isClosed := rv_good_of (by decide +kernel)
set_option maxRecDepth 100000 in
theorem rv_gd_Model_due : rv_good m_Model_due := rv_good_of (by decide +kernel)
set_option maxRecDepth 100000 in
theorem rv_gd_Model_moves : rv_good m_Model_moves := rv_good_of (by decide +kernel)
set_option maxRecDepth 100000 in
theorem rv_gd_Model_promise : rv_good m_Model_promise := rv_good_of (by decide +kernel)
set_option maxRecDepth 100000 in
theorem rv_gd_Model_end : rv_good m_Model_end := rv_good_of (by decide +kernel)
set_option maxRecDepth 100000 in
theorem rv_gd_Model_found : rv_good m_Model_found := rv_good_of (by decide +kernel)
set_option maxRecDepth 100000 in
theorem rv_gd_Model_made : rv_good m_Model_made := rv_good_of (by decide +kernel)
set_option maxRecDepth 100000 in
theorem rv_gd_Model_into : rv_good m_Model_into := rv_good_of (by decide +kernel)
set_option maxRecDepth 100000 in
theorem rv_gd_Model_follows : rv_good m_Model_follows := rv_good_of (by decide +kernel)
set_option maxRecDepth 100000 in
theorem rv_gd_Model_meets : rv_good m_Model_meets := rv_good_of (by decide +kernel)
set_option maxRecDepth 100000 in
theorem rv_gd_Model_joined : rv_good m_Model_joined := rv_good_of (by decide +kernel)
set_option maxRecDepth 100000 in
theorem rv_gd_Model_beginOf : rv_good m_Model_beginOf := rv_good_of (by decide +kernel)
set_option maxRecDepth 100000 in
theorem rv_gd_Model_putAside : rv_good m_Model_putAside := rv_good_of (by decide +kernel)
set_option maxRecDepth 100000 in
theorem rv_gd_Model_came : rv_good m_Model_came := rv_good_of (by decide +kernel)
set_option maxRecDepth 100000 in
theorem rv_gd_Model_row : rv_good m_Model_row := rv_good_of (by decide +kernel)
set_option maxRecDepth 100000 in
theorem rv_gd_Model_gap : rv_good m_Model_gap := rv_good_of (by decide +kernel)
set_option maxRecDepth 100000 in
theorem rv_gd_Model_result_IIJ : rv_good m_Model_result_IIJ := rv_good_of (by decide +kernel)
set_option maxRecDepth 100000 in
theorem rv_gd_Model_aside : rv_good m_Model_aside := rv_good_of (by decide +kernel)
set_option maxRecDepth 100000 in
theorem rv_gd_Model_take : rv_good m_Model_take := rv_good_of (by decide +kernel)
set_option maxRecDepth 100000 in
theorem rv_gd_Model_bound : rv_good m_Model_bound := rv_good_of (by decide +kernel)
set_option maxRecDepth 100000 in
theorem rv_gd_Model_of : rv_good m_Model_of := rv_good_of (by decide +kernel)
set_option maxRecDepth 100000 in
theorem rv_gd_Model_mark : rv_good m_Model_mark := rv_good_of (by decide +kernel)
set_option maxRecDepth 100000 in
theorem rv_gd_Model_window : rv_good m_Model_window := rv_good_of (by decide +kernel)
set_option maxRecDepth 100000 in
theorem rv_gd_Model_passInto : rv_good m_Model_passInto := rv_good_of (by decide +kernel)
set_option maxRecDepth 100000 in
theorem rv_gd_Model_isTaken : rv_good m_Model_isTaken := rv_good_of (by decide +kernel)
set_option maxRecDepth 100000 in
theorem rv_gd_Model_edge : rv_good m_Model_edge := rv_good_of (by decide +kernel)
set_option maxRecDepth 100000 in
theorem rv_gd_Model_pass : rv_good m_Model_pass := rv_good_of (by decide +kernel)
set_option maxRecDepth 100000 in
theorem rv_gd_Model_passed : rv_good m_Model_passed := rv_good_of (by decide +kernel)
set_option maxRecDepth 100000 in
theorem rv_gd_Model_count : rv_good m_Model_count := rv_good_of (by decide +kernel)
set_option maxRecDepth 100000 in
theorem rv_gd_Math_floorDiv : rv_good m_Math_floorDiv := rv_good_of (by decide +kernel)
set_option maxRecDepth 100000 in
theorem rv_gd_Math_max_III : rv_good m_Math_max_III := rv_good_of (by decide +kernel)
set_option maxRecDepth 100000 in
theorem rv_gd_Math_max_JJJ : rv_good m_Math_max_JJJ := rv_good_of (by decide +kernel)
set_option maxRecDepth 100000 in
theorem rv_gd_Math_min_III : rv_good m_Math_min_III := rv_good_of (by decide +kernel)
set_option maxRecDepth 100000 in
theorem rv_gd_Math_min_JJJ : rv_good m_Math_min_JJJ := rv_good_of (by decide +kernel)
set_option maxRecDepth 100000 in
theorem rv_gd_Law_law : rv_good m_Law_law := rv_good_of (by decide +kernel)
end
section
/-! THE ABSTRACT MACHINE: a heap as a map from addresses to cells; one instruction as a proposition; its soundness over the kit's rows, once for all methods. -/
/-- a cell: an object (the number of its class, its fields), or an array (its elements' type, length, elements) -/
abbrev rv_E : Type := (Nat × List Value) ⊕ (FieldType × Nat × (Nat → Value))
/-- the heap: the next address, the cells -/
abbrev rv_S : Type := Nat × (Nat → Option rv_E)
abbrev rv_L : Type := List (Option Value)
/-- the launch, the tables' numbers, which addresses may be written -/
abbrev rv_G : Type := Launch × va_G × (Nat → Prop)
def rv_up (g : Nat → Option rv_E) (a : Nat) (x : rv_E) : Nat → Option rv_E := fun q => if q = a then some x else g q
theorem rv_up_s {g : Nat → Option rv_E} {a : Nat} {x : rv_E} : rv_up g a x a = some x := by simp [rv_up]
theorem rv_up_n {g : Nat → Option rv_E} {a q : Nat} {x : rv_E} (h : q ≠ a) : rv_up g a x q = g q := by simp [rv_up, h]
theorem rv_up_up {g : Nat → Option rv_E} {a : Nat} {x y : rv_E} : rv_up (rv_up g a x) a y = rv_up g a y := by
  funext q
  by_cases h : q = a <;> simp [rv_up, h]
theorem rv_up_comm {g : Nat → Option rv_E} {a b : Nat} {x y : rv_E} (h : a ≠ b) : rv_up (rv_up g a x) b y = rv_up (rv_up g b y) a x := by
  funext q
  by_cases h1 : q = a
  · subst h1
    simp [rv_up, h]
  · by_cases h2 : q = b
    · subst h2
      simp [rv_up, h1]
    · simp [rv_up, h1, h2]
theorem rv_up_id {g : Nat → Option rv_E} {a : Nat} {x : rv_E} (h : g a = some x) : rv_up g a x = g := by
  funext q
  by_cases h1 : q = a <;> simp [rv_up, h1, h]
/-- what a cell of the machine's heap is -/
def rv_at (D : va_G) (A : Nat → Prop) (U : State) (H : Heap) (a : Nat) : rv_E → Prop
  | .inl (ci, fs) => A a ∧ ∃ r : vw_C, classes[ci]? = some r ∧ fs.length = r.2.2 ∧ t_OB a (D.1 ci) r.2.2 (D.2 ci) H (vp_V fs)
  | .inr (ty, n, f) => (ty = rv_tag ∧ ∃ xs : Nat → Int32, f = (fun j => Value.int (xs j)) ∧ va_X a n xs U H) ∨
      (¬ ty = rv_tag ∧ A a ∧ ∃ cA : ClassId, H[a]? = some (arrV cA n f) ∧ ArrOfT U cA ty ∧ va_RA U cA ty)
def rv_Rep (G : rv_G) (σ : rv_S) (U : State) (H : Heap) : Prop := (H.size = σ.1 ∧ ∀ q : Nat, σ.1 ≤ q → G.2.2 q) ∧ ∀ (a : Nat) (x : rv_E), σ.2 a = some x → rv_at G.2.1 G.2.2 U H a x
theorem rv_at.kept {D : va_G} {A : Nat → Prop} {U : State} {H H1 : Heap} {a : Nat} {x : rv_E} (h : rv_at D A U H a x) (hq : H1[a]? = H[a]?) : rv_at D A U H1 a x := by
  obtain ⟨ci, fs⟩ | ⟨ty, n, f⟩ := x
  · obtain ⟨h0, r, h1, h2, h3⟩ := h
    exact ⟨h0, r, h1, h2, h3.kept hq⟩
  · rcases h with ⟨h1, xs, h2, h3⟩ | ⟨hg, h0, cA, h1, h2⟩
    · exact Or.inl ⟨h1, xs, h2, h3.kept hq⟩
    · exact Or.inr ⟨hg, h0, cA, hq.trans h1, h2⟩
theorem rv_at.moved {D : va_G} {A : Nat → Prop} {u U : State} {H : Heap} {a : Nat} {x : rv_E} (hvm : u.vm.Alike U.vm) (h : rv_at D A u H a x) : rv_at D A U H a x := by
  obtain ⟨ci, fs⟩ | ⟨ty, n, f⟩ := x
  · exact h
  · rcases h with ⟨h1, xs, h2, h3⟩ | ⟨hg, h0, cA, h1, h2, h3⟩
    · exact Or.inl ⟨h1, xs, h2, h3.moved hvm⟩
    · exact Or.inr ⟨hg, h0, cA, h1, arrOfT_moved hvm h2, h3.moved hvm⟩
theorem rv_at.lt {D : va_G} {A : Nat → Prop} {U : State} {H : Heap} {a : Nat} {x : rv_E} (h : rv_at D A U H a x) : a < H.size := by
  obtain ⟨ci, fs⟩ | ⟨ty, n, f⟩ := x
  · obtain ⟨h0, r, h1, h2, cell, h3, -⟩ := h
    exact (Array.getElem?_eq_some_iff.mp h3).1
  · rcases h with ⟨h1, xs, h2, scr, h3, -⟩ | ⟨hg, h0, cA, h1, h2, h3⟩
    · exact (Array.getElem?_eq_some_iff.mp h3).1
    · exact (Array.getElem?_eq_some_iff.mp h1).1
theorem rv_Rep.moved {G : rv_G} {σ : rv_S} {u U : State} {H : Heap} (hvm : u.vm.Alike U.vm) (h : rv_Rep G σ u H) : rv_Rep G σ U H := ⟨h.1, fun a x hx => (h.2 a x hx).moved hvm⟩
/-- one cell is written -/
theorem rv_Rep.set {G : rv_G} {σ : rv_S} {U : State} {H H1 : Heap} (h : rv_Rep G σ U H) {a : Nat} {x : rv_E} (hx : rv_at G.2.1 G.2.2 U H1 a x) (hz : H1.size = H.size) (ho : ∀ q : Nat, q ≠ a → H1[q]? = H[q]?) : rv_Rep G (σ.1, rv_up σ.2 a x) U H1 := by
  refine ⟨⟨hz.trans h.1.1, h.1.2⟩, fun q y hy => ?_⟩
  by_cases hq : q = a
  · subst hq
    rw [show (σ.1, rv_up σ.2 q x).2 q = some x from rv_up_s] at hy
    cases hy
    exact hx
  · rw [show (σ.1, rv_up σ.2 a x).2 q = σ.2 q from rv_up_n hq] at hy
    exact (h.2 q y hy).kept (ho q hq)
/-- one cell is made -/
theorem rv_Rep.new {G : rv_G} {σ : rv_S} {U : State} {H H1 : Heap} (h : rv_Rep G σ U H) {x : rv_E} (hx : rv_at G.2.1 G.2.2 U H1 σ.1 x) (hz : H1.size = σ.1 + 1) (ho : ∀ q : Nat, q < H.size → H1[q]? = H[q]?) : rv_Rep G (σ.1 + 1, rv_up σ.2 σ.1 x) U H1 := by
  refine ⟨⟨hz, fun q hq => h.1.2 q (Nat.le_of_succ_le hq)⟩, fun q y hy => ?_⟩
  by_cases hq : q = σ.1
  · subst hq
    rw [show (σ.1 + 1, rv_up σ.2 σ.1 x).2 σ.1 = some x from rv_up_s] at hy
    cases hy
    exact hx
  · rw [show (σ.1 + 1, rv_up σ.2 σ.1 x).2 q = σ.2 q from rv_up_n hq] at hy
    exact (h.2 q y hy).kept (ho q (h.2 q y hy).lt)
/-! locals -/
def rv_lr (ls : Array Slot) (n : Nat) (l : rv_L) : Prop := ls.size = n ∧ lv_wf ls ∧ ∀ (i : Nat) (v : Value), l[i]? = some (some v) → ls[i]? = some (.val v)
def rv_clob : Option Value → Option Value
  | some (.long _) => none
  | some (.double _) => none
  | o => o
/-- a value of one slot is stored -/
def rv_st1 : rv_L → Nat → Value → rv_L
  | [], _, _ => []
  | _ :: l, 0, v => some v :: l
  | o :: l, i + 1, v => (match i with | 0 => rv_clob o | _ => o) :: rv_st1 l i v
/-- a value of two slots is stored -/
def rv_st2 : rv_L → Nat → Value → rv_L
  | [], _, _ => []
  | _ :: l, 0, v => some v :: (match l with | [] => [] | _ :: l => none :: l)
  | o :: l, i + 1, v => (match i with | 0 => rv_clob o | _ => o) :: rv_st2 l i v
theorem rv_clob_some {o : Option Value} {v : Value} (h : rv_clob o = some v) : o = some v ∧ v.category = 1 := by
  cases o with
  | none => cases h
  | some w => cases w <;> simp [rv_clob] at h <;> subst h <;> simp [Value.category]
theorem rv_st1_at : ∀ (l : rv_L) (i : Nat) (v : Value) (j : Nat) (w : Value), (rv_st1 l i v)[j]? = some (some w) → (j = i ∧ w = v) ∨ (j ≠ i ∧ l[j]? = some (some w) ∧ (j + 1 = i → w.category = 1))
  | [], i, v, j, w, h => by simp [rv_st1] at h
  | o :: l, 0, v, j, w, h => by
    cases j with
    | zero => simp [rv_st1] at h; exact Or.inl ⟨rfl, h.symm⟩
    | succ j => simp [rv_st1] at h; exact Or.inr ⟨by omega, by simpa using h, by omega⟩
  | o :: l, i + 1, v, j, w, h => by
    cases j with
    | zero =>
      cases i with
      | zero =>
        simp [rv_st1] at h
        obtain ⟨h1, h2⟩ := rv_clob_some h
        exact Or.inr ⟨by omega, by simp [h1], fun _ => h2⟩
      | succ i =>
        simp [rv_st1] at h
        exact Or.inr ⟨by omega, by simp [h], by omega⟩
    | succ j =>
      simp only [rv_st1, List.getElem?_cons_succ] at h
      rcases rv_st1_at l i v j w h with ⟨h1, h2⟩ | ⟨h1, h2, h3⟩
      · exact Or.inl ⟨by omega, h2⟩
      · exact Or.inr ⟨by omega, by simpa using h2, fun q => h3 (by omega)⟩
theorem rv_st2_at : ∀ (l : rv_L) (i : Nat) (v : Value) (j : Nat) (w : Value), (rv_st2 l i v)[j]? = some (some w) → (j = i ∧ w = v) ∨ (j ≠ i ∧ j ≠ i + 1 ∧ l[j]? = some (some w) ∧ (j + 1 = i → w.category = 1))
  | [], i, v, j, w, h => by simp [rv_st2] at h
  | o :: l, 0, v, j, w, h => by
    cases j with
    | zero => simp [rv_st2] at h; exact Or.inl ⟨rfl, h.symm⟩
    | succ j =>
      cases l with
      | nil => simp [rv_st2] at h
      | cons o2 l =>
        cases j with
        | zero => simp [rv_st2] at h
        | succ j => simp [rv_st2] at h; exact Or.inr ⟨by omega, by omega, by simpa using h, by omega⟩
  | o :: l, i + 1, v, j, w, h => by
    cases j with
    | zero =>
      cases i with
      | zero =>
        simp [rv_st2] at h
        obtain ⟨h1, h2⟩ := rv_clob_some h
        exact Or.inr ⟨by omega, by omega, by simp [h1], fun _ => h2⟩
      | succ i =>
        simp [rv_st2] at h
        exact Or.inr ⟨by omega, by omega, by simp [h], by omega⟩
    | succ j =>
      simp only [rv_st2, List.getElem?_cons_succ] at h
      rcases rv_st2_at l i v j w h with ⟨h1, h2⟩ | ⟨h1, h0, h2, h3⟩
      · exact Or.inl ⟨by omega, h2⟩
      · exact Or.inr ⟨by omega, by omega, by simpa using h2, fun q => h3 (by omega)⟩
/-- the listed values, as the kit's rows want them -/
def rv_ps (l : rv_L) : List (Nat × Value) := (List.range l.length).filterMap (fun i => match l[i]? with | some (some v) => some (i, v) | _ => none)
theorem rv_ps_mem {l : rv_L} {i : Nat} {v : Value} : (i, v) ∈ rv_ps l ↔ l[i]? = some (some v) := by
  constructor
  · intro h
    obtain ⟨j, -, hj⟩ := List.mem_filterMap.mp h
    split at hj
    · rename_i w hw
      cases hj
      exact hw
    · cases hj
  · intro h
    refine List.mem_filterMap.mpr ⟨i, List.mem_range.mpr (List.getElem?_eq_some_iff.mp h).1, ?_⟩
    rw [h]
theorem rv_lr.has {ls : Array Slot} {n : Nat} {l : rv_L} (h : rv_lr ls n l) : lv_has ls n (rv_ps l) := ⟨h.1, h.2.1, fun q hq => h.2.2 q.1 q.2 (rv_ps_mem.mp hq)⟩
theorem rv_lr.st1 {ls : Array Slot} {n : Nat} {l : rv_L} {i : Nat} {v : Value} (h : lv_has ls n ((i, v) :: (rv_ps l).filter (fun q => !(q.1 == i) && !(q.1 + 1 == i && q.2.category == 2)))) : rv_lr ls n (rv_st1 l i v) := by
  refine ⟨h.1, h.2.1, fun j w hj => ?_⟩
  rcases rv_st1_at l i v j w hj with ⟨h1, h2⟩ | ⟨h1, h2, h3⟩
  · subst h1; subst h2
    exact h.2.2 (j, w) List.mem_cons_self
  · refine h.2.2 (j, w) (List.mem_cons_of_mem _ (List.mem_filter.mpr ⟨rv_ps_mem.mpr h2, ?_⟩))
    have h4 : (j == i) = false := by simp [h1]
    by_cases h5 : j + 1 = i
    · simp [h4, h3 h5]
    · simp [h4, h5]
theorem rv_lr.st2 {ls : Array Slot} {n : Nat} {l : rv_L} {i : Nat} {v : Value} (h : lv_has ls n ((i, v) :: (rv_ps l).filter (fun q => !(q.1 == i) && (!(q.1 == i + 1) && !(q.1 + 1 == i && q.2.category == 2))))) : rv_lr ls n (rv_st2 l i v) := by
  refine ⟨h.1, h.2.1, fun j w hj => ?_⟩
  rcases rv_st2_at l i v j w hj with ⟨h1, h2⟩ | ⟨h1, h0, h2, h3⟩
  · subst h1; subst h2
    exact h.2.2 (j, w) List.mem_cons_self
  · refine h.2.2 (j, w) (List.mem_cons_of_mem _ (List.mem_filter.mpr ⟨rv_ps_mem.mpr h2, ?_⟩))
    have h4 : (j == i) = false := by simp [h1]
    have h6 : (j == i + 1) = false := by simp [h0]
    by_cases h5 : j + 1 = i
    · simp [h4, h6, h3 h5]
    · simp [h4, h6, h5]
theorem rv_lr.get {ls : Array Slot} {n : Nat} {l : rv_L} (h : rv_lr ls n l) {i : Nat} {v : Value} (hi : rv_nth l i = some (some v)) : ls[i]? = some (.val v) := h.2.2 i v (by rw [← rv_nth_eq]; exact hi)
theorem rv_lr.weak {ls : Array Slot} {n : Nat} {l l' : rv_L} (h : rv_lr ls n l) (hw : ∀ (i : Nat) (v : Value), l'[i]? = some (some v) → l[i]? = some (some v)) : rv_lr ls n l' := ⟨h.1, h.2.1, fun i v hi => h.2.2 i v (hw i v hi)⟩
/-! arrays by their kinds -/
def rv_b : Bool → Int32
  | true => 1
  | false => 0
theorem rv_b01 (b : Bool) : rv_b b = 0 ∨ rv_b b = 1 := by cases b <;> simp [rv_b]
theorem rv_b0 {b : Bool} : rv_b b = 0 ↔ b = false := by cases b <;> simp [rv_b]
theorem rv_b1 {b : Bool} : rv_b b = 1 ↔ b = true := by cases b <;> simp [rv_b]
theorem rv_b_inj {a b : Bool} : rv_b a = rv_b b ↔ a = b := by cases a <;> cases b <;> simp [rv_b]
def rv_aI (n : Nat) (f : Nat → Int32) : rv_E := .inr (.int, n, fun j => .int (f j))
def rv_aJ (n : Nat) (f : Nat → Int64) : rv_E := .inr (.long, n, fun j => .long (f j))
def rv_aZ (n : Nat) (f : Nat → Bool) : rv_E := .inr (.boolean, n, fun j => .int (rv_b (f j)))
def rv_aO (C : String) (n : Nat) (f : Nat → Option Nat) : rv_E := .inr (.object C, n, fun j => va_rf (f j))
def rv_aT (n : Nat) (f : Nat → Int32) : rv_E := .inr (rv_tag, n, fun j => .int (f j))
theorem rv_updI (f : Nat → Int32) (i : Nat) (x : Int32) : updV (fun j => .int (f j)) i (.int x) = fun j => Value.int (upd f i x j) := by
  funext j
  by_cases h : j = i <;> simp [updV, upd, h]
theorem rv_updJ (f : Nat → Int64) (i : Nat) (x : Int64) : updV (fun j => .long (f j)) i (.long x) = fun j => Value.long (vp_updL f i x j) := by
  funext j
  by_cases h : j = i <;> simp [updV, vp_updL, h]
theorem rv_updZ (f : Nat → Bool) (i : Nat) (x : Bool) : updV (fun j => .int (rv_b (f j))) i (.int (rv_b x)) = fun j => Value.int (rv_b (va_up f i x j)) := by
  funext j
  by_cases h : j = i <;> simp [updV, va_up, h]
theorem rv_updO (f : Nat → Option Nat) (i a : Nat) : updV (fun j => va_rf (f j)) i (.ref a) = fun j => va_rf (va_up f i (some a) j) := by
  funext j
  by_cases h : j = i <;> simp [updV, va_up, va_rf, h]
end
section
/-! ONE INSTRUCTION AS A PROPOSITION -/
def rv_W (M : rv_M) : List Cond := .code M.1 (rv_bt M) (rv_ml M) (rv_rt M) :: rv_gl
def rv_rm (M : rv_M) (mc ms : Nat) : Room := { frames := rv_rk M, cells := mc, slots := ms, locals := rv_nd M }
def rv_NW (U : State) : Prop := (∀ (own : String) (idx : Nat) (y : MethodName) (host : String), Cond.methodLinkNest own idx y host ∈ lw_tbl → va_Nw (.methodLinkNest own idx y host) U) ∧ ∀ C : String, Cond.arrayOver (.object C) ∈ lw_tbl → va_AO C U
def rv_Q (G : rv_G) (Rt : Option Value → rv_S → Prop) : Array Value → State → Outcome → State → Prop := fun _ st o t => (∃ (r : Option Value) (σ : rv_S), o = .returned r ∧ Rt r σ ∧ rv_Rep G σ t t.heap) ∧ va_F G.2.2 st t
/-- A METHOD'S CONTRACT at these arguments and this heap: it returns, with an answer and a heap that Rt has; at most mc cells of ms slots are new -/
def rv_Ct (G : rv_G) (i mc ms : Nat) (av : List Value) (σ : rv_S) (Rt : Option Value → rv_S → Prop) : Prop :=
  Met G.1 (rv_md i).1 (rv_W (rv_md i)) (rv_rm (rv_md i) mc ms) (va_Pc av (fun U => rv_Rep G σ U U.heap ∧ va_K G.2.1 classes [] U ∧ rv_NW U)) (rv_Q G Rt) mc ms G.2.2
/-- which values a field or an element of a type may hold -/
def rv_fit : FieldType → Value → Prop
  | .int, .int _ => True
  | .long, .long _ => True
  | .boolean, .int x => x = 0 ∨ x = 1
  | .object _, .ref _ => True
  | .object _, .null => True
  | .array _, .ref _ => True
  | .array _, .null => True
  | _, _ => False
def rv_br (P A B : Prop) : Prop := (P → A) ∧ (¬ P → B)
def rv_sw (x : Int32) (nx : Nat → Prop) : List (Int32 × Nat) → Nat → Prop
  | [], d => nx d
  | (k, t) :: l, d => (x = k → nx t) ∧ (¬ x = k → rv_sw x nx l d)
def rv_find : List rv_I → Nat → Option rv_I
  | [], _ => none
  | x :: r, pc => match Nat.beq x.1 pc with
    | true => some x
    | false => rv_find r pc
def rv_c1 : Value → Bool
  | .long _ => false
  | .double _ => false
  | _ => true
def rv_ty (ci k : Nat) : FieldType := match rv_nth rv_tys ci with
  | some f => f k
  | none => .int
def rv_df (ci : Nat) : List Value := (rv_nth rv_dfs ci).getD []
def rv_cn (ci : Nat) : Option String := match rv_nth classes ci with
  | some r => some r.1
  | none => none
def rv_call (G : rv_G) (mc ms : Nat) (nx : Nat → rv_L → List Value → rv_S → Nat → Nat → Prop) (pc : Nat) (ls : rv_L) (rest : List Value) (σ : rv_S) (ce sl i : Nat) (av : List Value) : Prop :=
  ∃ (mc' ms' : Nat) (Rt' : Option Value → rv_S → Prop), rv_Ct G i mc' ms' av σ Rt' ∧ ce + mc' ≤ mc ∧ sl + ms' ≤ ms ∧ Nat.ble (rest.map fun v => v.category).sum 8 = true ∧ ∀ (r : Option Value) (σ' : rv_S), Rt' r σ' → nx (pc + 3) ls (r.toList ++ rest) σ' (ce + mc') (sl + ms')
def rv_ex (G : rv_G) (M : rv_M) (mc ms : Nat) (Rt : Option Value → rv_S → Prop) (nx : Nat → rv_L → List Value → rv_S → Nat → Nat → Prop) (pc : Nat) (ls : rv_L) (st : List Value) (σ : rv_S) (ce sl : Nat) (a b k : Nat) (v : Int32) (sw : List (Int32 × Nat)) : Instr → Prop
  | .iconst _ => nx (pc + 1) ls (.int v :: st) σ ce sl
  | .bipush _ => nx (pc + 2) ls (.int v :: st) σ ce sl
  | .sipush _ => nx (pc + 3) ls (.int v :: st) σ ce sl
  | .ldc _ => nx (pc + 2) ls (.int v :: st) σ ce sl
  | .ldc2_w _ => nx (pc + 3) ls (.long (-99999999) :: st) σ ce sl
  | .lconst n => match n with
    | 0 => nx (pc + 1) ls (.long 0 :: st) σ ce sl
    | 1 => nx (pc + 1) ls (.long 1 :: st) σ ce sl
  | .aconst_null => nx (pc + 1) ls (.null :: st) σ ce sl
  | .iload i => match rv_nth ls i with
    | some (some (.int x)) => nx (pc + 2) ls (.int x :: st) σ ce sl
    | _ => False
  | .iload_n i => match rv_nth ls i.val with
    | some (some (.int x)) => nx (pc + 1) ls (.int x :: st) σ ce sl
    | _ => False
  | .lload i => match rv_nth ls i with
    | some (some (.long x)) => nx (pc + 2) ls (.long x :: st) σ ce sl
    | _ => False
  | .lload_n i => match rv_nth ls i.val with
    | some (some (.long x)) => nx (pc + 1) ls (.long x :: st) σ ce sl
    | _ => False
  | .aload i => match rv_nth ls i with
    | some (some (.ref x)) => nx (pc + 2) ls (.ref x :: st) σ ce sl
    | some (some .null) => nx (pc + 2) ls (.null :: st) σ ce sl
    | _ => False
  | .aload_n i => match rv_nth ls i.val with
    | some (some (.ref x)) => nx (pc + 1) ls (.ref x :: st) σ ce sl
    | some (some .null) => nx (pc + 1) ls (.null :: st) σ ce sl
    | _ => False
  | .istore i => match st with
    | .int x :: st => nx (pc + 2) (rv_st1 ls i (.int x)) st σ ce sl
    | _ => False
  | .istore_n i => match st with
    | .int x :: st => nx (pc + 1) (rv_st1 ls i.val (.int x)) st σ ce sl
    | _ => False
  | .lstore i => match st with
    | .long x :: st => nx (pc + 2) (rv_st2 ls i (.long x)) st σ ce sl
    | _ => False
  | .astore i => match st with
    | .ref x :: st => nx (pc + 2) (rv_st1 ls i (.ref x)) st σ ce sl
    | .null :: st => nx (pc + 2) (rv_st1 ls i .null) st σ ce sl
    | _ => False
  | .astore_n i => match st with
    | .ref x :: st => nx (pc + 1) (rv_st1 ls i.val (.ref x)) st σ ce sl
    | .null :: st => nx (pc + 1) (rv_st1 ls i.val .null) st σ ce sl
    | _ => False
  | .iinc i _ => match rv_nth ls i with
    | some (some (.int x)) => nx (pc + 3) (rv_st1 ls i (.int (x + v))) st σ ce sl
    | _ => False
  | .iadd => match st with
    | .int y :: .int x :: st => nx (pc + 1) ls (.int (x + y) :: st) σ ce sl
    | _ => False
  | .isub => match st with
    | .int y :: .int x :: st => nx (pc + 1) ls (.int (x - y) :: st) σ ce sl
    | _ => False
  | .imul => match st with
    | .int y :: .int x :: st => nx (pc + 1) ls (.int (x * y) :: st) σ ce sl
    | _ => False
  | .idiv => match st with
    | .int y :: .int x :: st => ¬ y = 0 ∧ nx (pc + 1) ls (.int (x / y) :: st) σ ce sl
    | _ => False
  | .iand => match st with
    | .int y :: .int x :: st => nx (pc + 1) ls (.int (x &&& y) :: st) σ ce sl
    | _ => False
  | .ixor => match st with
    | .int y :: .int x :: st => nx (pc + 1) ls (.int (x ^^^ y) :: st) σ ce sl
    | _ => False
  | .ladd => match st with
    | .long y :: .long x :: st => nx (pc + 1) ls (.long (x + y) :: st) σ ce sl
    | _ => False
  | .i2l => match st with
    | .int x :: st => nx (pc + 1) ls (.long x.toInt64 :: st) σ ce sl
    | _ => False
  | .l2i => match st with
    | .long x :: st => nx (pc + 1) ls (.int x.toInt32 :: st) σ ce sl
    | _ => False
  | .lcmp => match st with
    | .long y :: .long x :: st => nx (pc + 1) ls (.int (lg_cmp x y) :: st) σ ce sl
    | _ => False
  | .dup => match st with
    | w :: st => match rv_c1 w with
      | true => nx (pc + 1) ls (w :: w :: st) σ ce sl
      | false => False
    | _ => False
  | .dup2 => match st with
    | .long x :: st => nx (pc + 1) ls (.long x :: .long x :: st) σ ce sl
    | .int x :: .ref y :: st => nx (pc + 1) ls (.int x :: .ref y :: .int x :: .ref y :: st) σ ce sl
    | _ => False
  | .goto _ => nx a ls st σ ce sl
  | .ifCond c _ => match st with
    | .int x :: st => match c with
      | .eq => rv_br (x = 0) (nx a ls st σ ce sl) (nx (pc + 3) ls st σ ce sl)
      | .ne => rv_br (x = 0) (nx (pc + 3) ls st σ ce sl) (nx a ls st σ ce sl)
      | .lt => rv_br (x < 0) (nx a ls st σ ce sl) (nx (pc + 3) ls st σ ce sl)
      | .ge => rv_br (0 ≤ x) (nx a ls st σ ce sl) (nx (pc + 3) ls st σ ce sl)
      | .gt => rv_br (0 < x) (nx a ls st σ ce sl) (nx (pc + 3) ls st σ ce sl)
      | .le => rv_br (x ≤ 0) (nx a ls st σ ce sl) (nx (pc + 3) ls st σ ce sl)
    | _ => False
  | .if_icmp c _ => match st with
    | .int y :: .int x :: st => match c with
      | .eq => rv_br (x = y) (nx a ls st σ ce sl) (nx (pc + 3) ls st σ ce sl)
      | .ne => rv_br (x = y) (nx (pc + 3) ls st σ ce sl) (nx a ls st σ ce sl)
      | .lt => rv_br (x < y) (nx a ls st σ ce sl) (nx (pc + 3) ls st σ ce sl)
      | .ge => rv_br (y ≤ x) (nx a ls st σ ce sl) (nx (pc + 3) ls st σ ce sl)
      | .gt => rv_br (y < x) (nx a ls st σ ce sl) (nx (pc + 3) ls st σ ce sl)
      | .le => rv_br (x ≤ y) (nx a ls st σ ce sl) (nx (pc + 3) ls st σ ce sl)
    | _ => False
  | .if_acmp c _ => match st with
    | .ref y :: .ref x :: st => match c with
      | .eq => rv_br (x = y) (nx a ls st σ ce sl) (nx (pc + 3) ls st σ ce sl)
      | .ne => rv_br (x = y) (nx (pc + 3) ls st σ ce sl) (nx a ls st σ ce sl)
    | _ => False
  | .ifnull _ => match st with
    | .null :: st => nx a ls st σ ce sl
    | .ref _ :: st => nx (pc + 3) ls st σ ce sl
    | _ => False
  | .ifnonnull _ => match st with
    | .null :: st => nx (pc + 3) ls st σ ce sl
    | .ref _ :: st => nx a ls st σ ce sl
    | _ => False
  | .tableswitch _ _ _ _ => match st with
    | .int x :: st => rv_sw x (fun t => nx t ls st σ ce sl) sw a
    | _ => False
  | .getfield _ => match st with
    | .ref o :: st => ∃ fs : List Value, σ.2 o = some (.inl (a, fs)) ∧ match rv_nth fs b with
      | some w => nx (pc + 3) ls (w :: st) σ ce sl
      | none => False
    | _ => False
  | .putfield _ => match st with
    | w :: .ref o :: st => ∃ fs : List Value, σ.2 o = some (.inl (a, fs)) ∧ rv_fit (rv_ty a b) w ∧ nx (pc + 3) ls st (σ.1, rv_up σ.2 o (.inl (a, fs.set b w))) ce sl
    | _ => False
  | .new _ => ce + 1 ≤ mc ∧ sl + (rv_df a).length ≤ ms ∧ nx (pc + 3) ls (.ref σ.1 :: st) (σ.1 + 1, rv_up σ.2 σ.1 (.inl (a, rv_df a))) (ce + 1) (sl + (rv_df a).length)
  | .newarray t => match st with
    | .int n :: st => ∃ N : Nat, n.toNatClampNeg = N ∧ ¬ n < 0 ∧ N * componentBytes (newarray.typeOf t) ≤ 536870912 ∧ ce + 1 ≤ mc ∧ sl + N ≤ ms ∧ match t with
      | .int => nx (pc + 2) ls (.ref σ.1 :: st) (σ.1 + 1, rv_up σ.2 σ.1 (rv_aI N (fun _ => 0))) (ce + 1) (sl + N)
      | .long => nx (pc + 2) ls (.ref σ.1 :: st) (σ.1 + 1, rv_up σ.2 σ.1 (rv_aJ N (fun _ => 0))) (ce + 1) (sl + N)
      | .boolean => nx (pc + 2) ls (.ref σ.1 :: st) (σ.1 + 1, rv_up σ.2 σ.1 (rv_aZ N (fun _ => false))) (ce + 1) (sl + N)
      | _ => False
    | _ => False
  | .anewarray _ => match st with
    | .int n :: st => ∃ (C : String) (N : Nat), rv_cn a = some C ∧ n.toNatClampNeg = N ∧ ¬ n < 0 ∧ N * 4 ≤ 536870912 ∧ ce + 1 ≤ mc ∧ sl + N ≤ ms ∧ nx (pc + 3) ls (.ref σ.1 :: st) (σ.1 + 1, rv_up σ.2 σ.1 (rv_aO C N (fun _ => none))) (ce + 1) (sl + N)
    | _ => False
  | .arraylength => match st with
    | .ref o :: st => ∃ (ty : FieldType) (n : Nat) (f : Nat → Value), σ.2 o = some (.inr (ty, n, f)) ∧ nx (pc + 1) ls (.int (nI n) :: st) σ ce sl
    | _ => False
  | .iaload => match st with
    | .int i :: .ref o :: st => ∃ (n : Nat) (f : Nat → Int32), (σ.2 o = some (rv_aI n f) ∨ σ.2 o = some (rv_aT n f)) ∧ vp_in i n ∧ nx (pc + 1) ls (.int (f i.toNatClampNeg) :: st) σ ce sl
    | _ => False
  | .laload => match st with
    | .int i :: .ref o :: st => ∃ (n : Nat) (f : Nat → Int64), σ.2 o = some (rv_aJ n f) ∧ vp_in i n ∧ nx (pc + 1) ls (.long (f i.toNatClampNeg) :: st) σ ce sl
    | _ => False
  | .baload => match st with
    | .int i :: .ref o :: st => ∃ (n : Nat) (f : Nat → Bool), σ.2 o = some (rv_aZ n f) ∧ vp_in i n ∧ nx (pc + 1) ls (.int (rv_b (f i.toNatClampNeg)) :: st) σ ce sl
    | _ => False
  | .aaload => match st with
    | .int i :: .ref o :: st => ∃ (C : String) (n : Nat) (f : Nat → Option Nat) (r : Option Nat), σ.2 o = some (rv_aO C n f) ∧ ¬ C = "#" ∧ vp_in i n ∧ f i.toNatClampNeg = r ∧ match r with
      | some q => nx (pc + 1) ls (.ref q :: st) σ ce sl
      | none => nx (pc + 1) ls (.null :: st) σ ce sl
    | _ => False
  | .iastore => match st with
    | .int x :: .int i :: .ref o :: st => ∃ (n : Nat) (f : Nat → Int32), σ.2 o = some (rv_aI n f) ∧ vp_in i n ∧ nx (pc + 1) ls st (σ.1, rv_up σ.2 o (rv_aI n (upd f i.toNatClampNeg x))) ce sl
    | _ => False
  | .lastore => match st with
    | .long x :: .int i :: .ref o :: st => ∃ (n : Nat) (f : Nat → Int64), σ.2 o = some (rv_aJ n f) ∧ vp_in i n ∧ nx (pc + 1) ls st (σ.1, rv_up σ.2 o (rv_aJ n (vp_updL f i.toNatClampNeg x))) ce sl
    | _ => False
  | .bastore => match st with
    | .int x :: .int i :: .ref o :: st => ∃ (n : Nat) (f : Nat → Bool) (b : Bool), σ.2 o = some (rv_aZ n f) ∧ x = rv_b b ∧ vp_in i n ∧ nx (pc + 1) ls st (σ.1, rv_up σ.2 o (rv_aZ n (va_up f i.toNatClampNeg b))) ce sl
    | _ => False
  | .aastore => match st with
    | .ref w :: .int i :: .ref o :: st => ∃ (ci : Nat) (fs : List Value) (C : String) (n : Nat) (f : Nat → Option Nat), σ.2 w = some (.inl (ci, fs)) ∧ rv_cn ci = some C ∧ σ.2 o = some (rv_aO C n f) ∧ ¬ C = "#" ∧ vp_in i n ∧ nx (pc + 1) ls st (σ.1, rv_up σ.2 o (rv_aO C n (va_up f i.toNatClampNeg (some w)))) ce sl
    | _ => False
  | .ireturn => match st with
    | [.int x] => match rv_rt M with
      | some ty => rv_fit ty (.int x) ∧ Rt (some (.int x)) σ
      | none => False
    | _ => False
  | .lreturn => match st with
    | [.long x] => match rv_rt M with
      | some .long => Rt (some (.long x)) σ
      | _ => False
    | _ => False
  | .areturn => match st with
    | [.ref x] => match rv_rt M with
      | some (.object _) => Rt (some (.ref x)) σ
      | _ => False
    | [.null] => match rv_rt M with
      | some (.object _) => Rt (some .null) σ
      | _ => False
    | _ => False
  | .return_ => match st with
    | [] => match rv_rt M with
      | none => Rt none σ
      | _ => False
    | _ => False
  | .invokevirtual _ => match st.drop b with
    | .ref o :: rest => (∃ fs : List Value, σ.2 o = some (.inl (k, fs))) ∧ rv_call G mc ms nx pc ls rest σ ce sl a (.ref o :: (st.take b).reverse)
    | _ => False
  | .invokestatic _ => match Nat.ble b st.length with
    | true => rv_call G mc ms nx pc ls (st.drop b) σ ce sl a (st.take b).reverse
    | false => False
  | .invokespecial _ => match k with
    | 2 => match st with
      | [.ref _] => nx (pc + 3) ls [] σ ce sl
      | _ => False
    | _ => match st.drop b with
      | .ref o :: rest => rv_call G mc ms nx pc ls rest σ ce sl a (.ref o :: (st.take b).reverse)
      | _ => False
  | _ => False
def rv_step (G : rv_G) (M : rv_M) (mc ms : Nat) (Rt : Option Value → rv_S → Prop) (nx : Nat → rv_L → List Value → rv_S → Nat → Nat → Prop) (pc : Nat) (ls : rv_L) (st : List Value) (σ : rv_S) (ce sl : Nat) : Prop :=
  match rv_find (rv_li M) pc with
  | none => False
  | some (_, i, a, b, k, _, v, sw) => rv_ex G M mc ms Rt nx pc ls st σ ce sl a b k v sw i
/-- at most k instructions, up to a place where one of 'stops' stands -/
def rv_bx (G : rv_G) (M : rv_M) (mc ms : Nat) (Rt : Option Value → rv_S → Prop) (stops : List Nat) (K : Nat → rv_L → List Value → rv_S → Nat → Nat → Prop) : Nat → Nat → rv_L → List Value → rv_S → Nat → Nat → Prop
  | 0, pc, ls, st, σ, ce, sl => K pc ls st σ ce sl
  | k + 1, pc, ls, st, σ, ce, sl => match stops.any (fun q => Nat.beq q pc) with
    | true => K pc ls st σ ce sl
    | false => rv_step G M mc ms Rt (rv_bx G M mc ms Rt stops K k) pc ls st σ ce sl
end
section
/-! WHAT IS CHECKED OF A LISTING (by the kernel, a method at a time), AND THE STEP'S SOUNDNESS -/
theorem rv_find_mem : ∀ (l : List rv_I) (pc : Nat) (x : rv_I), rv_find l pc = some x → x ∈ l ∧ x.1 = pc
  | [], pc, x, h => by cases h
  | y :: l, pc, x, h => by
    unfold rv_find at h
    split at h
    · rename_i hb
      cases h
      exact ⟨List.mem_cons_self, Nat.eq_of_beq_eq_true hb⟩
    · obtain ⟨h1, h2⟩ := rv_find_mem l pc x h
      exact ⟨List.mem_cons_of_mem _ h1, h2⟩
theorem rv_fit_ok {ty : FieldType} {v : Value} (h : rv_fit ty v) : narrow ty v = v ∧ fits ty v = true := by
  cases ty <;> cases v <;> simp only [rv_fit] at h <;> first | exact h.elim | exact ⟨rfl, rfl⟩ | (rcases h with rfl | rfl <;> exact ⟨by decide, by decide⟩)
theorem rv_NW.warm {s U : State} (hW : s.WarmedH U.vm) (h : rv_NW s) : rv_NW U := ⟨fun o i y ho hm => va_Nw.warmM hW (h.1 o i y ho hm), fun C hC => (h.2 C hC).moved hW.alike⟩
theorem rv_NW.same {s U : State} (hv : s.vm = U.vm) (h : rv_NW s) : rv_NW U := ⟨fun o i y ho hm => va_Nw.same rfl hv (h.1 o i y ho hm), fun C hC => (h.2 C hC).moved (by rw [hv]; exact Vm.Alike.refl _)⟩
theorem rv_sw_or {x : Int32} {nx : Nat → Prop} : ∀ (sw : List (Int32 × Nat)) (d : Nat), rv_sw x nx sw d → (∃ (i : Nat) (t : Nat), sw[i]? = some (x, t) ∧ nx t) ∨ ((∀ (i : Nat) (k : Int32) (t : Nat), sw[i]? = some (k, t) → ¬ x = k) ∧ nx d)
  | [], d, h => Or.inr ⟨fun i k t hi => by simp at hi, h⟩
  | (k, t) :: sw, d, h => by
    by_cases hk : x = k
    · subst hk
      exact Or.inl ⟨0, t, rfl, h.1 rfl⟩
    · rcases rv_sw_or sw d (h.2 hk) with ⟨i, t', h1, h2⟩ | ⟨h1, h2⟩
      · exact Or.inl ⟨i + 1, t', by simpa using h1, h2⟩
      · refine Or.inr ⟨fun i k' t' hi => ?_, h2⟩
        cases i with
        | zero => simp at hi; rw [← hi.1]; exact hk
        | succ i => exact h1 i k' t' (by simpa using hi)
/-- what a class's rows of the tables say -/
def rv_cfP (ci : Nat) (r : vw_C) : Prop := (∀ w ∈ u_ws r.1 r.2.1 r.2.2, w ∈ rv_gl) ∧ (∀ k, k < r.2.2 → parseFieldDescriptor (r.2.1 k).2.2.1 = some (rv_ty ci k)) ∧ (∀ a, a < r.2.2 → ∀ b, b < r.2.2 → a ≠ b → (r.2.1 a).2.1 ≠ (r.2.1 b).2.1) ∧ Cond.instantiable r.1 r.2.2 ∈ rv_gl ∧ Cond.initialized r.1 ∈ rv_gl ∧ (∀ j, j < r.2.2 → defaultValue (rv_ty ci j) = vp_V (rv_df ci) j) ∧ (rv_df ci).length = r.2.2 ∧ ¬ r.1 = "#"
/-- an activation of a method: the machine, the code, the words, the room, the classes -/
def rv_Act (G : rv_G) (M : rv_M) (mc ms : Nat) (R : Room) (p : Program) (s : State) (m : MethodId) (args : Array Value) (meth : Method) (c : Code) : Prop :=
  (p.tables.exec = Jvm.exec ∧ c.code = rv_bt M ∧ c.maxLocals = rv_ml M ∧ s.vm.findClass (rv_ow M) = some m.cls ∧ ∀ w ∈ rv_gl, w.before args s = true) ∧ meth.locks = false ∧ meth.sig.returnType = rv_rt M ∧ meth.name = M.1.name ∧ (R.cells = mc ∧ R.slots = ms ∧ rv_rk M ≤ R.frames ∧ rv_nd M ≤ R.locals) ∧ va_K G.2.1 classes [] s ∧ rv_NW s
/-- from this place of the method, with these locals, this stack and this heap, the machine comes to the method's end as Rt says -/
def rv_V (G : rv_G) (M : rv_M) (mc ms : Nat) (Rt : Option Value → rv_S → Prop) (pc : Nat) (ls : rv_L) (st : List Value) (σ : rv_S) (ce sl : Nat) : Prop :=
  ce ≤ mc → sl ≤ ms → ∀ (R : Room) (p : Program) (e : Env) (s : State) (m : MethodId) (args : Array Value) (below : List Frame) (meth : Method) (c : Code), rv_Act G M mc ms R p s m args meth c →
    ∀ (H : Heap) (locs : List Loc) (la : Array Slot), rv_lr la (rv_ml M) ls → rv_Rep G σ s H → va_S G.2.2 s.heap H locs →
      W p G.1 e R s m args below meth c H locs ce sl (MQ below (rv_Q G Rt) args s mc ms G.2.2) (F0 m pc la st)
theorem rv_back {G : rv_G} {Rt : Option Value → rv_S → Prop} {p : Program} {l : Launch} {e : Env} {R : Room} {s : State} {m : MethodId} {args : Array Value} {below : List Frame} {meth : Method} {c : Code} {H : Heap} {locs : List Loc} {ce sl mc ms pc : Nat} {la : Array Slot} {st0 rest : List Value} {a : Array Value} {Q : State → Prop}
    (hr : va_Run p l e R s m args below meth c H locs ce sl mc ms (F0 m pc la st0) rest (rv_Q G Rt a) G.2.2) (hlo : va_S G.2.2 s.heap H locs)
    (kk : ∀ (r : Option Value) (σ : rv_S) (H1 : Heap) (locs1 : List Loc), Rt r σ → rv_Rep G σ s H1 → va_S G.2.2 s.heap H1 locs1 → W p l e R s m args below meth c H1 locs1 (ce + mc) (sl + ms) Q (F0 m (pc + 3) la (r.toList ++ rest))) : W p l e R s m args below meth c H locs ce sl Q (F0 m pc la st0) := by
  intro T hT X
  obtain ⟨v, st₀, t, T', L, h0, X', hL, e1, e2, ⟨⟨r, σ, hv, hp, hb⟩, hz, hk⟩, st⟩ := hr T hT X
  cases hv
  rw [h0] at hz hk
  have hal : t.vm.Alike s.vm := by rw [← e2]; exact X'.warmed.alike.symm
  obtain ⟨t2, a1, b1⟩ := kk v σ T'.heap (locs ++ L) hp (by rw [e1]; exact hb.moved hal) ⟨Nat.le_trans hlo.1 (by rw [e1]; exact hz), fun q h1 h2 => by rw [e1, hk q (Nat.lt_of_lt_of_le h1 hlo.1) h2]; exact hlo.2.1 q h1 h2, fun q hq => by
    rcases List.mem_append.mp hq with h | h
    · exact hlo.2.2 q h
    · exact hL q h⟩ T' rfl X'
  exact ⟨t2, st t2 a1, b1⟩
/-- a store into an object's field -/
theorem rv_put {G : rv_G} {p : Program} {l : Launch} {e : Env} {R : Room} {s : State} {m : MethodId} {args : Array Value} {below : List Frame} {meth : Method} {c : Code} {H : Heap} {locs : List Loc} {ce sl pc idx : Nat} {la : Array Slot} {rest : List Value} {Q : State → Prop} {cc : ByteArray} {own : String} {ci o k : Nat} {fs : List Value} {v : Value} {r : vw_C} {σ : rv_S}
    (hexec : p.tables.exec = Jvm.exec) (hb : c.code = cc) (hown : s.vm.findClass own = some m.cls) (hts : ∀ w ∈ rv_gl, w.before args s = true) (hK : va_K G.2.1 classes [] s) (hc : classes[ci]? = some r) (hcf : rv_cfP ci r) (hk : k < r.2.2) (hlink : (Cond.fieldLink own idx (r.2.1 k).1 (r.2.1 k).2.1 (r.2.1 k).2.2.1).before args s = true)
    (hfin : (r.2.1 k).2.2.2 = false ∨ (meth.name = "<init>" ∧ (r.2.1 k).1 = own)) (hfit : rv_fit (rv_ty ci k) v) (hR : rv_Rep G σ s H) (ho : σ.2 o = some (.inl (ci, fs))) (hlo : va_S G.2.2 s.heap H locs) (hdg : decode cc pc = .ok (.putfield idx, 3))
    (kk : ∀ (H1 : Heap) (locs1 : List Loc), rv_Rep G (σ.1, rv_up σ.2 o (.inl (ci, fs.set k v))) s H1 → va_S G.2.2 s.heap H1 locs1 → W p l e R s m args below meth c H1 locs1 ce sl Q (F0 m (pc + 3) la rest)) : W p l e R s m args below meth c H locs ce sl Q (F0 m pc la (v :: .ref o :: rest)) := by
  obtain ⟨hlo1, r', hc', hlen, cell, q1, q2, q3, q4⟩ := hR.2 o _ ho
  have hr : r' = r := Option.some.inj (hc'.symm.trans hc)
  subst hr
  obtain ⟨hin, hty, hnm, -⟩ := hcf
  obtain ⟨hn, hf⟩ := rv_fit_ok hfit
  have hap := va_apart (own := own) (D := G.2.1) (cl := classes) (tys := []) (ci := ci) (C := r'.1) (T := r'.2.1) (N := r'.2.2) hts hin (rv_ty ci) hty hnm hK hc
  obtain ⟨hS, hfc, kC, hkC, hkind⟩ := hK.1 ci _ hc
  obtain ⟨cf, kf, fi, f, hi, hsl⟩ := hS k hk
  have hst := (u_facts hfc hkC (u_lays hts hin hk) hi).1
  have fin : ∀ H' : Heap, H'[o]? = some (cell.setSlot f.slot v) → H'.size = H.size → (∀ q, q ≠ o → H'[q]? = H[q]?) → W p l e R s m args below meth c H' (locs ++ [⟨o, f.slot⟩]) ce sl Q (F0 m (pc + 3) la rest) := by
    intro H' e1 e2 e3
    rw [hsl] at e1 ⊢
    refine kk H' _ (hR.set (x := .inl (ci, fs.set k v)) ⟨hlo1, r', hc, by rw [List.length_set]; exact hlen, t_OB.to (V := updV (vp_V fs) k v) ⟨_, e1, q2, q3, t_set q4 hap hk v⟩ (fun j _ => vp_updV_set (by rw [hlen]; exact hk) v j)⟩ e2 e3) (hlo.put e2 e3 hlo1)
  have hlay := hts _ (hin _ (u_in_lay hk))
  unfold u_lay at hlay
  cases hfl : (r'.2.1 k).2.2.2 with
  | false =>
    rw [if_neg (by rw [hfl]; decide)] at hlay
    have h6 := u_store hfc hkC hkind hlay hi (hty k hk) hn hf
    exact W.putK hexec hb (f := f) ⟨hown, hlink, ⟨_, _, _, hi⟩, hst⟩ (by rw [q2]; exact h6) q1 q3 (by rw [hsl]; exact k2_hasslot (q4 k hk)) rfl rfl hdg fin
  | true =>
    rw [if_pos hfl] at hlay
    rcases hfin with h | ⟨hin2, hdecl⟩
    · rw [hfl] at h; cases h
    · have hcf : m.cls = cf := by
        obtain ⟨_, _, c', _, _, _, -, -, hf', -, -, -, hown2, -⟩ := Cond.laysFinal_spec hlay
        have e1 : c' = cf := by have := hi.symm.trans hf'; simp at this; exact this.1.symm
        rw [hdecl] at hown2
        rw [← e1]; exact Option.some.inj (hown.symm.trans hown2)
      have h6 := u_fits hfc hkC hkind (Or.inr hlay) hi (hty k hk) hn hf
      exact W.putFinK hexec hb hown hlink hi hst hcf hin2 (by rw [q2]; exact h6) q1 q3 (by rw [hsl]; exact k2_hasslot (q4 k hk)) rfl rfl hdg fin
/-- the places of Object's constructor -/
def rv_obj : Prop := Cond.instanceMethod objectInit ∈ rv_gl ∧ Cond.code objectInit ⟨#[0xb1]⟩ 1 none ∈ rv_gl
theorem rv_c1_cat {w : Value} (h : rv_c1 w = true) : w.category = 1 := by cases w <;> simp [rv_c1, Value.category] at h ⊢
def rv_cm (N : rv_M) : Prop := Cond.code N.1 (rv_bt N) (rv_ml N) (rv_rt N) ∈ rv_gl
theorem rv_goodW {N : rv_M} (h : rv_cm N) : GoodIn rv_gl (rv_W N) := by
  intro w hw
  rcases List.mem_cons.mp hw with rfl | hw
  · exact ⟨h, good_of_word (List.mem_filter.mp h).2⟩
  · exact ⟨hw, good_of_word (List.mem_filter.mp hw).2⟩
theorem rv_blind {G : rv_G} {σ : rv_S} {av : List Value} : FrameBlind (va_Pc av (fun U => rv_Rep G σ U U.heap ∧ va_K G.2.1 classes [] U ∧ rv_NW U)) := by
  intro a U g mk q
  obtain ⟨q0, q1, q2, q3⟩ := q
  exact ⟨q0, rv_Rep.moved (u := U) (U := U.calling g mk a) (Vm.Alike.refl U.vm) q1, va_K.moved (u := U) (U := U.calling g mk a) (Vm.Alike.refl U.vm) q2, rv_NW.same (s := U) (U := U.calling g mk a) rfl q3⟩
theorem rv_ntag_long : ¬ FieldType.long = rv_tag := by unfold rv_tag; intro h; cases h
theorem rv_ntag_int : ¬ FieldType.int = rv_tag := by unfold rv_tag; intro h; cases h
theorem rv_ntag_boolean : ¬ FieldType.boolean = rv_tag := by unfold rv_tag; intro h; cases h
theorem rv_ntag_obj {C : String} (hC : ¬ C = "#") : ¬ FieldType.object C = rv_tag := by
  unfold rv_tag
  intro h
  cases h
  exact hC rfl
theorem rv_arr {G : rv_G} {U : State} {H : Heap} {a n : Nat} {ty : FieldType} {f : Nat → Value} (h : rv_at G.2.1 G.2.2 U H a (.inr (ty, n, f))) (ht : ¬ ty = rv_tag) : G.2.2 a ∧ ∃ cA : ClassId, H[a]? = some (arrV cA n f) ∧ ArrOfT U cA ty ∧ va_RA U cA ty := by
  rcases h with ⟨h1, -⟩ | ⟨-, h0, h1⟩
  · exact absurd h1 ht
  · exact ⟨h0, h1⟩
theorem rv_grow {A : Nat → Prop} {H0 H H1 : Heap} {locs : List Loc} {n : Nat} (h : va_S A H0 H locs) (hz : H1.size = n + 1) (hn : H.size = n) (ho : ∀ q : Nat, q < H.size → H1[q]? = H[q]?) : va_S A H0 H1 locs :=
  ⟨Nat.le_trans h.1 (by omega), fun q h1 h2 => (ho q (Nat.lt_of_lt_of_le h1 h.1)).trans (h.2.1 q h1 h2), h.2.2⟩
set_option maxHeartbeats 4000000 in
set_option maxRecDepth 100000 in
theorem rv_sound {G : rv_G} {M : rv_M} {mc ms : Nat} {Rt : Option Value → rv_S → Prop} {nx : Nat → rv_L → List Value → rv_S → Nat → Nat → Prop} (hM : rv_good M) (hcf : ∀ (ci : Nat) (r : vw_C), classes[ci]? = some r → rv_cfP ci r) (hcm : ∀ a, a < i_Law_law → rv_cm (rv_md a)) (hobj : rv_obj)
    (hn : ∀ pc ls st σ ce sl, nx pc ls st σ ce sl → rv_V G M mc ms Rt pc ls st σ ce sl) {pc : Nat} {ls : rv_L} {st : List Value} {σ : rv_S} {ce sl : Nat} (h : rv_step G M mc ms Rt nx pc ls st σ ce sl) : rv_V G M mc ms Rt pc ls st σ ce sl := by
  unfold rv_step at h
  split at h
  · exact h.elim
  rename_i pc' i a b k p0 v sw hx0
  obtain ⟨hmem, hpc⟩ := rv_find_mem _ _ _ hx0
  have hok := hM _ hmem
  simp only [rv_ok, Bool.and_eq_true, decide_eq_true_eq] at hok
  obtain ⟨hd, hlk⟩ := hok
  dsimp only at hd hlk h hpc
  subst hpc
  clear hx0 hmem
  intro hce hsl R p e s m args below meth c A H locs la hl hR hlo
  obtain ⟨⟨hx, hb, hml, hown, hts⟩, hlocks, hret, hnm, ⟨hRc, hRs, hRf, hRl⟩, hK, hN⟩ := id A
  have go : ∀ pc ls st σ ce sl, nx pc ls st σ ce sl → ce ≤ mc → sl ≤ ms → ∀ (H : Heap) (locs : List Loc) (la : Array Slot), rv_lr la (rv_ml M) ls → rv_Rep G σ s H → va_S G.2.2 s.heap H locs → W p G.1 e R s m args below meth c H locs ce sl (MQ below (rv_Q G Rt) args s mc ms G.2.2) (F0 m pc la st) :=
    fun pc ls st σ ce sl h h1 h2 H locs la hl hR hlo => hn pc ls st σ ce sl h h1 h2 R p e s m args below meth c A H locs la hl hR hlo
  cases i with
  | iconst n => exact lv_iconst hx hb hd (show Int32.ofInt n = v from of_decide_eq_true hlk) (go _ _ _ _ _ _ h hce hsl H locs la hl hR hlo)
  | bipush n => exact lv_bipush hx hb hd (show (Int8.ofInt n).toInt32 = v from of_decide_eq_true hlk) (go _ _ _ _ _ _ h hce hsl H locs la hl hR hlo)
  | sipush n => exact lv_sipush hx hb hd (show (Int16.ofInt n).toInt32 = v from of_decide_eq_true hlk) (go _ _ _ _ _ _ h hce hsl H locs la hl hR hlo)
  | ldc idx => exact lv_ldc hx hb hown (hts _ (rv_hasG_mem (show rv_hasG p0 (.constant (rv_ow M) idx v) = true from hlk))) hd (go _ _ _ _ _ _ h hce hsl H locs la hl hR hlo)
  | ldc2_w idx => exact lv_ldc2 hx hb hown (hts _ (rv_hasG_mem (show rv_hasG p0 (.constantLong (rv_ow M) idx (-99999999)) = true from hlk))) hd (go _ _ _ _ _ _ h hce hsl H locs la hl hR hlo)
  | lconst n =>
    match n, h, hd with
    | 0, h, hd => exact lv_lconst hx hb hd rfl (go _ _ _ _ _ _ h hce hsl H locs la hl hR hlo)
    | 1, h, hd => exact lv_lconst hx hb hd rfl (go _ _ _ _ _ _ h hce hsl H locs la hl hR hlo)
  | aconst_null => exact lv_null hx hb hd (go _ _ _ _ _ _ h hce hsl H locs la hl hR hlo)
  | iload i =>
    simp only [rv_ex] at h
    split at h
    · rename_i x hq
      exact lv_iload hx hb hd (hl.get hq) (go _ _ _ _ _ _ h hce hsl H locs la hl hR hlo)
    · exact h.elim
  | iload_n i =>
    simp only [rv_ex] at h
    split at h
    · rename_i x hq
      exact lv_iload_n hx hb hd rfl (hl.get hq) (go _ _ _ _ _ _ h hce hsl H locs la hl hR hlo)
    · exact h.elim
  | lload i =>
    simp only [rv_ex] at h
    split at h
    · rename_i x hq
      exact lv_lload hx hb hd (hl.get hq) (go _ _ _ _ _ _ h hce hsl H locs la hl hR hlo)
    · exact h.elim
  | lload_n i =>
    simp only [rv_ex] at h
    split at h
    · rename_i x hq
      exact lv_lload_n hx hb hd rfl (hl.get hq) (go _ _ _ _ _ _ h hce hsl H locs la hl hR hlo)
    · exact h.elim
  | aload i =>
    simp only [rv_ex] at h
    split at h
    · rename_i x hq
      exact lv_aload hx hb hd (hl.get hq) (go _ _ _ _ _ _ h hce hsl H locs la hl hR hlo)
    · rename_i hq
      exact lv_aloadN hx hb hd (hl.get hq) (go _ _ _ _ _ _ h hce hsl H locs la hl hR hlo)
    · exact h.elim
  | aload_n i =>
    simp only [rv_ex] at h
    split at h
    · rename_i x hq
      exact lv_aload_n hx hb hd rfl (hl.get hq) (go _ _ _ _ _ _ h hce hsl H locs la hl hR hlo)
    · rename_i hq
      exact lv_aload_nN hx hb hd rfl (hl.get hq) (go _ _ _ _ _ _ h hce hsl H locs la hl hR hlo)
    · exact h.elim
  | istore i =>
    simp only [rv_ex] at h
    split at h
    · exact lv_istore hx hb hd hl.has (show i < rv_ml M from of_decide_eq_true hlk) rfl (fun la' hl' => go _ _ _ _ _ _ h hce hsl H locs la' (rv_lr.st1 hl') hR hlo)
    · exact h.elim
  | istore_n i =>
    simp only [rv_ex] at h
    split at h
    · exact lv_istore_n hx hb hd rfl hl.has (show i.val < rv_ml M from of_decide_eq_true hlk) rfl (fun la' hl' => go _ _ _ _ _ _ h hce hsl H locs la' (rv_lr.st1 hl') hR hlo)
    · exact h.elim
  | lstore i =>
    simp only [rv_ex] at h
    split at h
    · exact lv_lstore hx hb hd hl.has (show i + 1 < rv_ml M from of_decide_eq_true hlk) rfl (fun la' hl' => go _ _ _ _ _ _ h hce hsl H locs la' (rv_lr.st2 hl') hR hlo)
    · exact h.elim
  | astore i =>
    simp only [rv_ex] at h
    split at h
    · exact lv_astore hx hb hd hl.has (show i < rv_ml M from of_decide_eq_true hlk) rfl (fun la' hl' => go _ _ _ _ _ _ h hce hsl H locs la' (rv_lr.st1 hl') hR hlo)
    · exact lv_astoreN hx hb hd hl.has (show i < rv_ml M from of_decide_eq_true hlk) rfl (fun la' hl' => go _ _ _ _ _ _ h hce hsl H locs la' (rv_lr.st1 hl') hR hlo)
    · exact h.elim
  | astore_n i =>
    simp only [rv_ex] at h
    split at h
    · exact lv_astore_n hx hb hd rfl hl.has (show i.val < rv_ml M from of_decide_eq_true hlk) rfl (fun la' hl' => go _ _ _ _ _ _ h hce hsl H locs la' (rv_lr.st1 hl') hR hlo)
    · exact lv_astore_nN hx hb hd rfl hl.has (show i.val < rv_ml M from of_decide_eq_true hlk) rfl (fun la' hl' => go _ _ _ _ _ _ h hce hsl H locs la' (rv_lr.st1 hl') hR hlo)
    · exact h.elim
  | iinc i n =>
    simp only [rv_lk, Bool.and_eq_true, decide_eq_true_eq] at hlk
    simp only [rv_ex] at h
    split at h
    · rename_i x hq
      obtain ⟨kq, hkq⟩ := List.getElem?_of_mem (rv_ps_mem.mpr (by rw [← rv_nth_eq]; exact hq))
      exact lv_iinc (v := x + v) hx hb hd hl.has hkq (by rw [hlk.1]) hlk.2 rfl (fun la' hl' => go _ _ _ _ _ _ h hce hsl H locs la' (rv_lr.st1 hl') hR hlo)
    · exact h.elim
  | iadd =>
    simp only [rv_ex] at h
    split at h
    · exact lv_iadd hx hb hd (go _ _ _ _ _ _ h hce hsl H locs la hl hR hlo)
    · exact h.elim
  | isub =>
    simp only [rv_ex] at h
    split at h
    · exact lv_isub hx hb hd (go _ _ _ _ _ _ h hce hsl H locs la hl hR hlo)
    · exact h.elim
  | imul =>
    simp only [rv_ex] at h
    split at h
    · exact lv_imul hx hb hd (go _ _ _ _ _ _ h hce hsl H locs la hl hR hlo)
    · exact h.elim
  | idiv =>
    simp only [rv_ex] at h
    split at h
    · exact lv_idiv hx hb hd h.1 (go _ _ _ _ _ _ h.2 hce hsl H locs la hl hR hlo)
    · exact h.elim
  | iand =>
    simp only [rv_ex] at h
    split at h
    · exact lv_iand hx hb hd (go _ _ _ _ _ _ h hce hsl H locs la hl hR hlo)
    · exact h.elim
  | ixor =>
    simp only [rv_ex] at h
    split at h
    · exact lv_ixor hx hb hd (go _ _ _ _ _ _ h hce hsl H locs la hl hR hlo)
    · exact h.elim
  | ladd =>
    simp only [rv_ex] at h
    split at h
    · exact lv_ladd hx hb hd (go _ _ _ _ _ _ h hce hsl H locs la hl hR hlo)
    · exact h.elim
  | i2l =>
    simp only [rv_ex] at h
    split at h
    · exact lv_i2l hx hb hd rfl (go _ _ _ _ _ _ h hce hsl H locs la hl hR hlo)
    · exact h.elim
  | l2i =>
    simp only [rv_ex] at h
    split at h
    · exact lv_l2i hx hb hd rfl (go _ _ _ _ _ _ h hce hsl H locs la hl hR hlo)
    · exact h.elim
  | lcmp =>
    simp only [rv_ex] at h
    split at h
    · exact W.lcmp hx hb hd (go _ _ _ _ _ _ h hce hsl H locs la hl hR hlo)
    · exact h.elim
  | dup =>
    simp only [rv_ex] at h
    split at h
    · split at h
      · rename_i hc
        exact lv_dup hx hb hd (rv_c1_cat hc) (go _ _ _ _ _ _ h hce hsl H locs la hl hR hlo)
      · exact h.elim
    · exact h.elim
  | dup2 =>
    simp only [rv_ex] at h
    split at h
    · exact lv_dup2_2 hx hb hd rfl (go _ _ _ _ _ _ h hce hsl H locs la hl hR hlo)
    · exact lv_dup2_11 hx hb hd rfl rfl (go _ _ _ _ _ _ h hce hsl H locs la hl hR hlo)
    · exact h.elim
  | goto off => exact lv_goto hx hb hd (show (pc' : Int) + off = (a : Int) from of_decide_eq_true hlk) (go _ _ _ _ _ _ h hce hsl H locs la hl hR hlo)
  | ifCond cd off =>
    have ht : (pc' : Int) + off = (a : Int) := of_decide_eq_true hlk
    simp only [rv_ex] at h
    split at h
    · cases cd with
      | eq => exact lv_if_eq hx hb hd ht (fun q => go _ _ _ _ _ _ (h.1 q) hce hsl H locs la hl hR hlo) (fun q => go _ _ _ _ _ _ (h.2 q) hce hsl H locs la hl hR hlo)
      | ne => exact lv_if_ne hx hb hd ht (fun q => go _ _ _ _ _ _ (h.2 q) hce hsl H locs la hl hR hlo) (fun q => go _ _ _ _ _ _ (h.1 q) hce hsl H locs la hl hR hlo)
      | lt => exact lv_if_lt hx hb hd ht (fun q => go _ _ _ _ _ _ (h.1 q) hce hsl H locs la hl hR hlo) (fun q => go _ _ _ _ _ _ (h.2 q) hce hsl H locs la hl hR hlo)
      | ge => exact lv_if_ge hx hb hd ht (fun q => go _ _ _ _ _ _ (h.1 q) hce hsl H locs la hl hR hlo) (fun q => go _ _ _ _ _ _ (h.2 q) hce hsl H locs la hl hR hlo)
      | gt => exact lv_if_gt hx hb hd ht (fun q => go _ _ _ _ _ _ (h.1 q) hce hsl H locs la hl hR hlo) (fun q => go _ _ _ _ _ _ (h.2 q) hce hsl H locs la hl hR hlo)
      | le => exact lv_if_le hx hb hd ht (fun q => go _ _ _ _ _ _ (h.1 q) hce hsl H locs la hl hR hlo) (fun q => go _ _ _ _ _ _ (h.2 q) hce hsl H locs la hl hR hlo)
    · exact h.elim
  | if_icmp cd off =>
    have ht : (pc' : Int) + off = (a : Int) := of_decide_eq_true hlk
    simp only [rv_ex] at h
    split at h
    · cases cd with
      | eq => exact lv_icmp_eq hx hb hd ht (fun q => go _ _ _ _ _ _ (h.1 q) hce hsl H locs la hl hR hlo) (fun q => go _ _ _ _ _ _ (h.2 q) hce hsl H locs la hl hR hlo)
      | ne => exact lv_icmp_ne hx hb hd ht (fun q => go _ _ _ _ _ _ (h.2 q) hce hsl H locs la hl hR hlo) (fun q => go _ _ _ _ _ _ (h.1 q) hce hsl H locs la hl hR hlo)
      | lt => exact lv_icmp_lt hx hb hd ht (fun q => go _ _ _ _ _ _ (h.1 q) hce hsl H locs la hl hR hlo) (fun q => go _ _ _ _ _ _ (h.2 q) hce hsl H locs la hl hR hlo)
      | ge => exact lv_icmp_ge hx hb hd ht (fun q => go _ _ _ _ _ _ (h.1 q) hce hsl H locs la hl hR hlo) (fun q => go _ _ _ _ _ _ (h.2 q) hce hsl H locs la hl hR hlo)
      | gt => exact lv_icmp_gt hx hb hd ht (fun q => go _ _ _ _ _ _ (h.1 q) hce hsl H locs la hl hR hlo) (fun q => go _ _ _ _ _ _ (h.2 q) hce hsl H locs la hl hR hlo)
      | le => exact lv_icmp_le hx hb hd ht (fun q => go _ _ _ _ _ _ (h.1 q) hce hsl H locs la hl hR hlo) (fun q => go _ _ _ _ _ _ (h.2 q) hce hsl H locs la hl hR hlo)
    · exact h.elim
  | if_acmp cd off =>
    have ht : (pc' : Int) + off = (a : Int) := of_decide_eq_true hlk
    simp only [rv_ex] at h
    split at h
    · rename_i y x st
      cases cd with
      | eq => exact lv_acmp_eq (rx := some x) (ry := some y) hx hb hd ht (fun q => go _ _ _ _ _ _ (h.1 (Option.some.inj q)) hce hsl H locs la hl hR hlo) (fun q => go _ _ _ _ _ _ (h.2 (fun z => q (congrArg some z))) hce hsl H locs la hl hR hlo)
      | ne => exact lv_acmp_ne (rx := some x) (ry := some y) hx hb hd ht (fun q => go _ _ _ _ _ _ (h.2 (fun z => q (congrArg some z))) hce hsl H locs la hl hR hlo) (fun q => go _ _ _ _ _ _ (h.1 (Option.some.inj q)) hce hsl H locs la hl hR hlo)
    · exact h.elim
  | ifnull off =>
    have ht : (pc' : Int) + off = (a : Int) := of_decide_eq_true hlk
    simp only [rv_ex] at h
    split at h
    · exact lv_ifnullN hx hb hd ht (go _ _ _ _ _ _ h hce hsl H locs la hl hR hlo)
    · exact lv_ifnull hx hb hd (go _ _ _ _ _ _ h hce hsl H locs la hl hR hlo)
    · exact h.elim
  | ifnonnull off =>
    have ht : (pc' : Int) + off = (a : Int) := of_decide_eq_true hlk
    simp only [rv_ex] at h
    split at h
    · exact lv_ifnonnullN hx hb hd (go _ _ _ _ _ _ h hce hsl H locs la hl hR hlo)
    · exact lv_ifnonnull hx hb hd ht (go _ _ _ _ _ _ h hce hsl H locs la hl hR hlo)
    · exact h.elim
  | tableswitch d lo hi offs =>
    simp only [rv_lk, rv_oksw, Bool.and_eq_true, decide_eq_true_eq] at hlk
    obtain ⟨⟨k1, k2⟩, k3⟩ := hlk
    have k3' : ∀ i, i < sw.length → ∃ key t off, sw[i]? = some (key, t) ∧ offs[i]? = some off ∧ key.toInt = lo + i ∧ (pc' : Int) + off = (t : Int) := by
      intro i hi
      have := List.all_eq_true.mp k3 i (List.mem_range.mpr hi)
      split at this
      · rename_i key t off h1 h2
        simp only [Bool.and_eq_true, decide_eq_true_eq] at this
        exact ⟨key, t, off, h1, h2, this.1, this.2⟩
      · cases this
    simp only [rv_ex] at h
    split at h
    · rename_i x st
      rcases rv_sw_or _ _ h with ⟨i, t, h1, h2⟩ | ⟨h1, h2⟩
      · have hi : i < sw.length := (List.getElem?_eq_some_iff.mp h1).1
        obtain ⟨key, t', off, g1, g2, g3, g4⟩ := k3' i hi
        rw [h1] at g1
        cases g1
        exact lv_tableIn (off := off) hx hb hd (by omega) (by omega) (by rw [show (x.toInt - lo).toNat = i by omega]; exact g2) g4 (go _ _ _ _ _ _ h2 hce hsl H locs la hl hR hlo)
      · refine lv_tableOut hx hb hd ?_ k2 (go _ _ _ _ _ _ h2 hce hsl H locs la hl hR hlo)
        by_cases hlo1 : x.toInt < lo
        · exact Or.inl hlo1
        · by_cases hhi : hi < x.toInt
          · exact Or.inr hhi
          · exfalso
            obtain ⟨key, t', off, g1, g2, g3, g4⟩ := k3' (x.toInt - lo).toNat (by omega)
            exact h1 _ key t' g1 (Int32.toInt_inj.mp (by omega))
    · exact h.elim
  | getfield idx =>
    simp only [rv_ex] at h
    split at h
    · rename_i o st
      obtain ⟨fs, ho, h⟩ := h
      obtain ⟨hlo1, r, hc, hlen, cell, q1, q2, q3, q4⟩ := hR.2 o _ ho
      simp only [rv_lk, hc, Bool.and_eq_true, decide_eq_true_eq] at hlk
      split at h
      · rename_i w hw
        obtain ⟨hin, -⟩ := hcf a r hc
        obtain ⟨hS, hfc, kC, hkC, hkind⟩ := hK.1 a _ hc
        obtain ⟨cf, kf, fi, f, hi, hsl1⟩ := hS b hlk.1
        refine W.getf hx hb hown (hts _ (rv_hasG_mem hlk.2)) hi (u_facts hfc hkC (u_lays hts hin hlk.1) hi).1 q1 (by rw [q3]; exact fun h => by cases h) (v := w) ?_ rfl rfl hd (go _ _ _ _ _ _ h hce hsl H locs la hl hR hlo)
        rw [hsl1, q4 b hlk.1]
        rw [rv_nth_eq] at hw
        simp [vp_V, hw]
      · exact h.elim
    · exact h.elim
  | putfield idx =>
    simp only [rv_ex] at h
    split at h
    · rename_i w o st
      obtain ⟨fs, ho, hfit, h⟩ := h
      obtain ⟨hlo1, r, hc, hlen, -⟩ := hR.2 o _ ho
      simp only [rv_lk, hc, Bool.and_eq_true, decide_eq_true_eq, Bool.or_eq_true, Bool.not_eq_true'] at hlk
      refine rv_put hx hb hown hts hK hc (hcf a r hc) hlk.1.1 (hts _ (rv_hasG_mem hlk.1.2)) ?_ hfit hR ho hlo hd (fun H1 locs1 hR1 hlo1 => go _ _ _ _ _ _ h hce hsl H1 locs1 la hl hR1 hlo1)
      rcases hlk.2 with q | q
      · exact Or.inl q
      · exact Or.inr ⟨hnm.trans q.1, q.2⟩
    · exact h.elim
  | new idx =>
    simp only [rv_ex] at h
    obtain ⟨h1, h2, h⟩ := h
    cases hc : classes[a]? with
    | none => simp only [rv_lk, hc] at hlk; cases hlk
    | some r =>
      simp only [rv_lk, hc] at hlk
      obtain ⟨hin, hty, hnm2, hins, hini, hdf, hlen, -⟩ := hcf a r hc
      rw [hlen] at h2 h
      have hKn := hK.1 a _ hc
      exact W.newcK hx hb hown (hts _ (rv_hasG_mem hlk)) (hts _ hins) (hts _ hini) rfl hd (by rw [hRc]; exact h1) (by rw [hRs]; exact h2) hKn.2.1 hR.1.1 (fun H1 kC hkC e1 z1 o1 => go _ _ _ _ _ _ h h1 h2 H1 locs la hl (hR.new (x := .inl (a, rv_df a)) ⟨hR.1.2 _ (Nat.le_refl _), r, hc, hlen, (u_born (rv_ty a) hts hin hKn hkC e1 hty).to hdf⟩ z1 (fun q hq => o1 q (by rw [← hR.1.1]; exact hq))) (rv_grow hlo z1 hR.1.1 (fun q hq => o1 q (by rw [← hR.1.1]; exact hq))))
  | newarray t =>
    simp only [rv_lk, Bool.and_eq_true, decide_eq_true_eq] at hlk
    simp only [rv_ex] at h
    split at h
    · rename_i xn stn
      obtain ⟨N, hN, hn0, hby, h1, h2, h⟩ := h
      have h : nx (pc' + 2) ls (.ref σ.1 :: stn) (σ.1 + 1, rv_up σ.2 σ.1 (.inr (newarray.typeOf t, N, fun _ => defaultValue (newarray.typeOf t)))) (ce + 1) (sl + N) := by cases t <;> first | exact h | exact h.elim
      exact va_newaK hx hb (hts _ (rv_hasG_mem hlk.1)) rfl hd rfl hn0 hN hby (by rw [hRc]; exact h1) (by rw [hRs]; exact h2) hR.1.1 (fun H1 cA e1 z1 o1 hAr hNm => go _ _ _ _ _ _ h h1 h2 H1 locs la hl (hR.new (x := .inr (newarray.typeOf t, N, fun _ => defaultValue (newarray.typeOf t))) (Or.inr ⟨hlk.2, hR.1.2 _ (Nat.le_refl _), cA, e1, hAr, by cases t <;> exact hNm⟩) z1 (fun q hq => o1 q (by rw [← hR.1.1]; exact hq))) (rv_grow hlo z1 hR.1.1 (fun q hq => o1 q (by rw [← hR.1.1]; exact hq))))
    · exact h.elim
  | anewarray idx =>
    simp only [rv_ex] at h
    split at h
    · obtain ⟨C, N, hC, hN, hn0, hby, h1, h2, h⟩ := h
      cases hc : classes[a]? with
      | none => simp only [rv_lk, hc] at hlk; cases hlk
      | some r =>
        simp only [rv_lk, hc, Bool.and_eq_true] at hlk
        unfold rv_cn at hC
        rw [rv_nth_eq, hc] at hC
        cases hC
        obtain ⟨-, -, -, -, -, -, -, hnt⟩ := hcf a r hc
        subst hN
        refine W.anew hx hb hown (hts _ (rv_hasG_mem hlk.1)) (va_AO.use (hN.2 _ (rv_has_mem hlk.2))) rfl hd rfl hn0 hby (by rw [hRc]; exact h1) (by rw [hRs]; exact h2) fun cA kA comp f1 f2 f3 f4 => ?_
        rw [hR.1.1]
        have z1 : ∀ x : Cell, (H.push x).size = σ.1 + 1 := fun x => by rw [Array.size_push, hR.1.1]
        have o1 : ∀ (x : Cell) (q : Nat), q < H.size → (H.push x)[q]? = H[q]? := fun x q hq => by rw [Array.getElem?_push, if_neg (Nat.ne_of_lt hq)]
        refine go _ _ _ _ _ _ h h1 h2 _ locs la hl (hR.new (x := rv_aO _ _ _) (Or.inr ⟨rv_ntag_obj hnt, hR.1.2 _ (Nat.le_refl _), cA, ?_, fun N z => ⟨(fun k h => by cases h), kA, f2, comp, f3⟩, kA, comp, f2, f3, f4, f1⟩) (z1 _) (o1 _)) (rv_grow hlo (z1 _) hR.1.1 (o1 _))
        show (H.push _)[σ.1]? = some (arrV _ _ (fun _ => .null))
        rw [← hR.1.1, Array.getElem?_push_size, ← arrV_new]
    · exact h.elim
  | arraylength =>
    simp only [rv_ex] at h
    split at h
    · obtain ⟨ty, n, f, ho, h⟩ := h
      rcases hR.2 _ _ ho with ⟨h1, xs, h2, scr, g1, g2, g3, g4, g5⟩ | ⟨-, h0, cA, h1, h2, h3⟩
      · exact W.alen (n := nI n) hx hb g1 g2 (by rw [g4]; rfl) rfl rfl hd (go _ _ _ _ _ _ h hce hsl H locs la hl hR hlo)
      · exact W.alen (n := nI n) hx hb h1 (h2 n f) (by rw [arrV_size]; rfl) rfl rfl hd (go _ _ _ _ _ _ h hce hsl H locs la hl hR hlo)
    · exact h.elim
  | iaload =>
    simp only [rv_ex] at h
    split at h
    · obtain ⟨n, f, ho, hin, h⟩ := h
      have hlt := Nat.not_le.mp fun q => hin (Or.inr q)
      rcases ho with ho | ho
      · obtain ⟨h0, cA, h1, h2, h3⟩ := rv_arr (hR.2 _ _ ho) rv_ntag_int
        exact W.iald hx hb h1 (h2 n _) (fun q => by cases q) (by rw [arrV_size]; exact hin) (arrV_read _ _ hlt) rfl rfl hd (go _ _ _ _ _ _ h hce hsl H locs la hl hR hlo)
      · rcases hR.2 _ _ ho with ⟨h1, xs, h2, scr, g1, g2, g3, g4, g5⟩ | ⟨hng, -⟩
        · refine W.iald hx hb g1 g2 g3 (by rw [g4]; exact hin) (v := .int (f _)) ?_ rfl rfl hd (go _ _ _ _ _ _ h hce hsl H locs la hl hR hlo)
          rw [g5 _ hlt, ← congrFun h2 _]
        · exact absurd rfl hng
    · exact h.elim
  | laload =>
    simp only [rv_ex] at h
    split at h
    · obtain ⟨n, f, ho, hin, h⟩ := h
      have hlt := Nat.not_le.mp fun q => hin (Or.inr q)
      obtain ⟨h0, cA, h1, h2, h3⟩ := rv_arr (hR.2 _ _ ho) rv_ntag_long
      exact W.lald hx hb h1 (h2 n _) (fun q => by cases q) (by rw [arrV_size]; exact hin) (arrV_read _ _ hlt) rfl rfl hd (go _ _ _ _ _ _ h hce hsl H locs la hl hR hlo)
    · exact h.elim
  | baload =>
    simp only [rv_ex] at h
    split at h
    · obtain ⟨n, f, ho, hin, h⟩ := h
      have hlt := Nat.not_le.mp fun q => hin (Or.inr q)
      obtain ⟨h0, cA, h1, h2, h3⟩ := rv_arr (hR.2 _ _ ho) rv_ntag_boolean
      exact W.zald hx hb h1 (h2 n _) (fun q => by cases q) (by rw [arrV_size]; exact hin) (arrV_read _ _ hlt) rfl rfl hd (go _ _ _ _ _ _ h hce hsl H locs la hl hR hlo)
    · exact h.elim
  | aaload =>
    simp only [rv_ex] at h
    split at h
    · obtain ⟨C, n, f, r, ho, hC, hin, hr, h⟩ := h
      have hlt := Nat.not_le.mp fun q => hin (Or.inr q)
      obtain ⟨h0, cA, h1, h2, h3⟩ := rv_arr (hR.2 _ _ ho) (rv_ntag_obj hC)
      cases r with
      | some q => exact W.aald (ty := .object C) hx hb h1 (h2 n _) rfl (fun q => by cases q) (by rw [arrV_size]; exact hin) ((arrV_read _ _ hlt).trans (by rw [hr]; rfl)) rfl rfl hd (go _ _ _ _ _ _ h hce hsl H locs la hl hR hlo)
      | none => exact W.aald (ty := .object C) hx hb h1 (h2 n _) rfl (fun q => by cases q) (by rw [arrV_size]; exact hin) ((arrV_read _ _ hlt).trans (by rw [hr]; rfl)) rfl rfl hd (go _ _ _ _ _ _ h hce hsl H locs la hl hR hlo)
    · exact h.elim
  | iastore =>
    simp only [rv_ex] at h
    split at h
    · obtain ⟨n, f, ho, hin, h⟩ := h
      obtain ⟨h0, cA, h1, h2, h3⟩ := rv_arr (hR.2 _ _ ho) rv_ntag_int
      exact W.iast hx hb h1 (h2 n _) (fun q => by cases q) (by rw [arrV_size]; exact hin) rfl rfl hd (fun H1 e1 z1 o1 => go _ _ _ _ _ _ h hce hsl H1 _ la hl (hR.set (Or.inr ⟨rv_ntag_int, h0, cA, by rw [e1, arrV_store, rv_updI], h2, h3⟩) z1 o1) (hlo.put z1 o1 h0))
    · exact h.elim
  | lastore =>
    simp only [rv_ex] at h
    split at h
    · obtain ⟨n, f, ho, hin, h⟩ := h
      obtain ⟨h0, cA, h1, h2, h3⟩ := rv_arr (hR.2 _ _ ho) rv_ntag_long
      exact W.last hx hb h1 (h2 n _) (fun q => by cases q) (by rw [arrV_size]; exact hin) rfl rfl hd (fun H1 e1 z1 o1 => go _ _ _ _ _ _ h hce hsl H1 _ la hl (hR.set (Or.inr ⟨rv_ntag_long, h0, cA, by rw [e1, arrV_store, rv_updJ], h2, h3⟩) z1 o1) (hlo.put z1 o1 h0))
    · exact h.elim
  | bastore =>
    simp only [rv_ex] at h
    split at h
    · rename_i x i o st
      obtain ⟨n, f, bb, ho, hxb, hin, h⟩ := h
      subst hxb
      obtain ⟨h0, cA, h1, h2, h3⟩ := rv_arr (hR.2 _ _ ho) rv_ntag_boolean
      have hnr : narrow .boolean (.int (rv_b bb)) = .int (rv_b bb) := (rv_fit_ok (ty := .boolean) (v := .int (rv_b bb)) (rv_b01 bb)).1
      exact W.zast hx hb h1 (h2 n _) (fun q => by cases q) (by rw [arrV_size]; exact hin) rfl rfl hd (fun H1 e1 z1 o1 => go _ _ _ _ _ _ h hce hsl H1 _ la hl (hR.set (Or.inr ⟨rv_ntag_boolean, h0, cA, by rw [e1, hnr, arrV_store, rv_updZ], h2, h3⟩) z1 o1) (hlo.put z1 o1 h0))
    · exact h.elim
  | aastore =>
    simp only [rv_ex] at h
    split at h
    · obtain ⟨ci, fs, C, n, f, hw, hcn, ho, hC, hin, h⟩ := h
      obtain ⟨h0, cA, h1, h2, h3⟩ := rv_arr (hR.2 _ _ ho) (rv_ntag_obj hC)
      obtain ⟨-, r, hc, -, cellV, g1, g2, g3, -⟩ := hR.2 _ _ hw
      unfold rv_cn at hcn
      rw [rv_nth_eq, hc] at hcn
      cases hcn
      have hcls := (hK.1 ci r hc).2
      have h3' := h3
      obtain ⟨kA, comp, k1, k2, k3, -⟩ := h3
      have hcomp : comp = G.2.1.1 ci := Option.some.inj (k3.symm.trans hcls.1)
      subst hcomp
      obtain ⟨kC, hkC, -⟩ := hcls.2
      have hlt := Nat.not_le.mp fun q => hin (Or.inr q)
      exact W.aast hx hb h1 (fun q h => by cases h) (fun h => by cases h) k1 k2 rfl hkC ⟨fun q => hin (Or.inl q), by rw [arrV_size]; exact hlt⟩ g1 (fun q h => by rw [g3] at h; cases h) (by rw [g2]; exact hkC) (by rw [g2]; exact va_assign hcls) rfl rfl hd (fun H1 e1 z1 o1 => go _ _ _ _ _ _ h hce hsl H1 _ la hl (hR.set (Or.inr ⟨rv_ntag_obj hC, h0, cA, by rw [e1, arrV_store, rv_updO], h2, h3'⟩) z1 o1) (hlo.put z1 o1 h0))
    · exact h.elim
  | ireturn =>
    simp only [rv_ex] at h
    split at h
    · rename_i x
      split at h
      · rename_i ty hty
        refine W.widen hce hsl ?_
        exact W.zret hx hb (hret.trans hty) (rv_fit_ok h.1).1 (fun t ht hW => ⟨⟨_, σ, rfl, h.2, by rw [ht]; exact hR.moved hW.alike⟩, hlo.F ht⟩) hlo.2.2 hd
      · exact h.elim
    · exact h.elim
  | lreturn =>
    simp only [rv_ex] at h
    split at h
    · rename_i x
      split at h
      · rename_i hty
        refine W.widen hce hsl ?_
        exact W.lret hx hb (hret.trans hty) (fun t ht hW => ⟨⟨_, σ, rfl, h, by rw [ht]; exact hR.moved hW.alike⟩, hlo.F ht⟩) hlo.2.2 hd
      · exact h.elim
    · exact h.elim
  | areturn =>
    simp only [rv_ex] at h
    split at h
    · split at h
      · rename_i C hty
        refine W.widen hce hsl ?_
        exact W.aret hx hb (hret.trans hty) (Or.inl ⟨_, rfl⟩) (Or.inr ⟨_, rfl⟩) (fun t ht hW => ⟨⟨_, σ, rfl, h, by rw [ht]; exact hR.moved hW.alike⟩, hlo.F ht⟩) hlo.2.2 hd
      · exact h.elim
    · split at h
      · rename_i C hty
        refine W.widen hce hsl ?_
        exact W.aret hx hb (hret.trans hty) (Or.inl ⟨_, rfl⟩) (Or.inl rfl) (fun t ht hW => ⟨⟨_, σ, rfl, h, by rw [ht]; exact hR.moved hW.alike⟩, hlo.F ht⟩) hlo.2.2 hd
      · exact h.elim
    · exact h.elim
  | return_ =>
    simp only [rv_ex] at h
    split at h
    · split at h
      · rename_i hty
        refine W.widen hce hsl ?_
        exact W.vret hx hb (hret.trans hty) (fun t ht hW => ⟨⟨_, σ, rfl, h, by rw [ht]; exact hR.moved hW.alike⟩, hlo.F ht⟩) hlo.2.2 hd
      · exact h.elim
    · exact h.elim
  | invokevirtual idx =>
    simp only [rv_lk, rv_okc, Bool.and_eq_true, decide_eq_true_eq] at hlk
    obtain ⟨⟨⟨⟨⟨⟨⟨⟨⟨⟨k0, k1⟩, k2⟩, k3⟩, k4⟩, k5⟩, k6⟩, k7⟩, k8⟩, k9⟩, k10⟩ := hlk
    simp only [rv_ex] at h
    split at h
    · rename_i o rest hdr
      obtain ⟨⟨fs, hfs⟩, mc', ms', Rt', hM', h1, h2, h3, h4⟩ := h
      obtain ⟨-, r, hc, -, cell, q1, q2, q3, -⟩ := hR.2 o _ hfs
      simp only [hc, decide_eq_true_eq] at k10
      have hcode := hcm a k0
      have hlen : (st.take b).reverse.length = b := by
        have h9 : (st.drop b).length = rest.length + 1 := by rw [hdr]; rfl
        rw [List.length_drop] at h9
        rw [List.length_reverse, List.length_take]
        omega
      exact rv_back (va_runV (C := r.1) (bytes := rv_bt (rv_md a)) (maxL := rv_ml (rv_md a)) (ret := rv_rt (rv_md a)) (n := b) (As := (st.take b).reverse) (rest := rest) (b := o) (nL := rv_ml M) (Ts := rv_gl) (own := rv_ow M) ⟨hx, hb, hml, hown, hts⟩ hM'
        ⟨callB_of b hts (rv_goodW hcode) rfl rfl rfl (hts _ (rv_hasG_mem k6)) (hts _ (rv_hasG_mem k7)) ⟨k4, k5, k3⟩ ⟨Nat.le_trans k1 hRf, Nat.le_trans k2 hRl⟩, hts _ (rv_hasG_mem k8), by rw [k10]; exact hts _ (rv_hasG_mem k9)⟩
        ⟨rv_blind, ⟨cell, q1, by rw [q3]; rfl, by rw [q2]; exact (hK.1 k r hc).2.1⟩, fun U hU hW => ⟨rfl, by rw [hU]; exact hR.moved hW.alike, va_K.moved hW.alike hK, hN.warm hW⟩⟩ rfl hlen hl.1 (by show st = _; rw [List.reverse_reverse, ← hdr, List.take_append_drop]) (lv_room (Nat.le_of_ble_eq_true h3)) hd ⟨by rw [hRc]; exact h1, by rw [hRs]; exact h2⟩) hlo
        (fun r' σ' H1 locs1 hq hR1 hlo1 => go _ _ _ _ _ _ (h4 r' σ' hq) h1 h2 H1 locs1 la hl hR1 hlo1)
    · exact h.elim
  | invokestatic idx =>
    simp only [rv_lk, rv_okc, Bool.and_eq_true, decide_eq_true_eq] at hlk
    obtain ⟨⟨⟨⟨⟨⟨⟨⟨k0, k1⟩, k2⟩, k3⟩, k4⟩, k5⟩, k6⟩, k7⟩, k8⟩ := hlk
    simp only [rv_ex] at h
    split at h
    · rename_i hble
      obtain ⟨mc', ms', Rt', hM', h1, h2, h3, h4⟩ := h
      have hcode := hcm a k0
      have hlen : (st.take b).reverse.length = b := by
        have h9 := Nat.le_of_ble_eq_true hble
        rw [List.length_reverse, List.length_take]
        omega
      exact rv_back (va_runS (bytes := rv_bt (rv_md a)) (maxL := rv_ml (rv_md a)) (ret := rv_rt (rv_md a)) (n := b) (As := (st.take b).reverse) (rest := st.drop b) (nL := rv_ml M) (Ts := rv_gl) (own := rv_ow M) ⟨hx, hb, hml, hown, hts⟩ hM'
        ⟨callB_of b hts (rv_goodW hcode) rfl rfl rfl (hts _ (rv_hasG_mem k6)) (hts _ (rv_hasG_mem k7)) ⟨k4, k5, k3⟩ ⟨Nat.le_trans k1 hRf, Nat.le_trans k2 hRl⟩, hts _ (rv_hasG_mem k8)⟩
        ⟨rv_blind, fun U hU hW => ⟨rfl, by rw [hU]; exact hR.moved hW.alike, va_K.moved hW.alike hK, hN.warm hW⟩⟩ rfl hlen hl.1 (by show st = _; rw [List.reverse_reverse, List.take_append_drop]) (lv_room (Nat.le_of_ble_eq_true h3)) hd ⟨by rw [hRc]; exact h1, by rw [hRs]; exact h2⟩) hlo
        (fun r' σ' H1 locs1 hq hR1 hlo1 => go _ _ _ _ _ _ (h4 r' σ' hq) h1 h2 H1 locs1 la hl hR1 hlo1)
    · exact h.elim
  | invokespecial idx =>
    simp only [rv_ex] at h
    split at h
    · simp only [rv_lk, Bool.and_eq_true, decide_eq_true_eq] at hlk
      split at h
      · exact W.objInit hx hb hown (hts _ (rv_hasG_mem hlk.1.1)) (hts _ hobj.1) (hts _ hobj.2) rfl (by rw [hml]; exact hl.1) rfl hd (Nat.le_trans hlk.1.2 hRf) (Nat.le_trans (m := 20) (by show 2 * 0 + 0 + 12 ≤ 20; decide) (Nat.le_trans hlk.2 hRl)) (go _ _ _ _ _ _ h hce hsl H locs la hl hR hlo)
      · exact h.elim
    · rename_i hk2
      split at h
      · rename_i o rest hdr
        obtain ⟨mc', ms', Rt', hM', h1, h2, h3, h4⟩ := h
        have hlen : (st.take b).reverse.length = b := by
          have h9 : (st.drop b).length = rest.length + 1 := by rw [hdr]; rfl
          rw [List.length_drop] at h9
          rw [List.length_reverse, List.length_take]
          omega
        have hstk : st = (st.take b).reverse.reverse ++ .ref o :: rest := by rw [List.reverse_reverse, ← hdr, List.take_append_drop]
        by_cases hk1 : k = 1
        · subst hk1
          simp only [rv_lk, rv_okc, Bool.and_eq_true, decide_eq_true_eq] at hlk
          obtain ⟨⟨⟨⟨⟨⟨⟨⟨⟨⟨k0, k1⟩, k2⟩, k3⟩, k4⟩, k5⟩, k6⟩, k7⟩, k8⟩, k9⟩, k10⟩ := hlk
          have hcode := hcm a k0
          unfold rv_cm at hcode
          have hG := rv_goodW (hcm a k0)
          unfold rv_Ct at hM'
          unfold rv_W at hM' hG
          rw [k10] at hM' hG hcode
          exact rv_back (va_runIN (host := "LateRows") (bytes := rv_bt (rv_md a)) (maxL := rv_ml (rv_md a)) (n := b) (As := (st.take b).reverse) (rest := rest) (b := o) (nL := rv_ml M) (Ts := rv_gl) (own := rv_ow M) ⟨hx, hb, hml, hown, hts⟩ hM'
            ⟨va_cnB b hts hG rfl rfl rfl (hN.1 _ _ _ _ (rv_has_mem k7)) (hts _ (rv_hasG_mem k6)) ⟨k4, k5, k3⟩ ⟨Nat.le_trans k1 hRf, Nat.le_trans k2 hRl⟩, k9, hts _ (rv_hasG_mem k8)⟩
            ⟨rv_blind, fun U hU hW => ⟨rfl, by rw [hU]; exact hR.moved hW.alike, va_K.moved hW.alike hK, hN.warm hW⟩⟩ rfl hlen hl.1 hstk (lv_room (Nat.le_of_ble_eq_true h3)) hd ⟨by rw [hRc]; exact h1, by rw [hRs]; exact h2⟩) hlo
            (fun r' σ' H1 locs1 hq hR1 hlo1 => go _ _ _ _ _ _ (h4 r' σ' hq) h1 h2 H1 locs1 la hl hR1 hlo1)
        · have hlk2 : (rv_okc M a b && rv_hasG p0 (.methodLink (rv_ow M) idx (rv_md a).1) && rv_hasG (rv_pl (rv_md a)).2.2.1 (.instanceMethod (rv_md a).1) && decide ((rv_md a).1.name = "<init>") && decide (rv_rt (rv_md a) = none)) = true := by
            unfold rv_lk at hlk
            dsimp only at hlk
            split at hlk
            · exact absurd rfl hk2
            · exact absurd rfl hk1
            · exact hlk
          simp only [rv_okc, Bool.and_eq_true, decide_eq_true_eq] at hlk2
          obtain ⟨⟨⟨⟨⟨⟨⟨⟨⟨⟨k0, k1⟩, k2⟩, k3⟩, k4⟩, k5⟩, k6⟩, k7⟩, k8⟩, k9⟩, k10⟩ := hlk2
          have hG := rv_goodW (hcm a k0)
          unfold rv_Ct at hM'
          unfold rv_W at hM' hG
          rw [k10] at hM' hG
          exact rv_back (va_runI (bytes := rv_bt (rv_md a)) (maxL := rv_ml (rv_md a)) (n := b) (As := (st.take b).reverse) (rest := rest) (b := o) (nL := rv_ml M) (Ts := rv_gl) (own := rv_ow M) ⟨hx, hb, hml, hown, hts⟩ hM'
            ⟨callB_of b hts hG rfl rfl rfl (hts _ (rv_hasG_mem k6)) (hts _ (rv_hasG_mem k7)) ⟨k4, k5, k3⟩ ⟨Nat.le_trans k1 hRf, Nat.le_trans k2 hRl⟩, k9, hts _ (rv_hasG_mem k8)⟩
            ⟨rv_blind, fun U hU hW => ⟨rfl, by rw [hU]; exact hR.moved hW.alike, va_K.moved hW.alike hK, hN.warm hW⟩⟩ rfl hlen hl.1 hstk (lv_room (Nat.le_of_ble_eq_true h3)) hd ⟨by rw [hRc]; exact h1, by rw [hRs]; exact h2⟩) hlo
            (fun r' σ' H1 locs1 hq hR1 hlo1 => go _ _ _ _ _ _ (h4 r' σ' hq) h1 h2 H1 locs1 la hl hR1 hlo1)
      · exact h.elim
  | _ => exact False.elim h
end
section
/-! WHAT THE TABLES SAY OF THE CLASSES AND METHODS (by places, printed by gen.py) -/
theorem rv_places (ws : List Cond) (ps : List Nat) (hp : ws = ps.filterMap (fun i => lw_tbl[i]?)) (h : ws.all goodWord = true) : ∀ w ∈ ws, w ∈ rv_gl := by
  intro w hw
  have h1 := List.all_eq_true.mp h w hw
  rw [hp] at hw
  obtain ⟨i, -, hi⟩ := List.mem_filterMap.mp hw
  exact List.mem_filter.mpr ⟨List.mem_of_getElem? hi, h1⟩
theorem rv_cmw {w : Cond} {p : Nat} (h : lw_tbl[p]? = some w) (hg : goodWord w = true) : w ∈ rv_gl := List.mem_filter.mpr ⟨List.mem_of_getElem? h, hg⟩
theorem rv_cm_of {N : rv_M} {p : Nat} (h : lw_tbl[p]? = some (Cond.code N.1 (rv_bt N) (rv_ml N) (rv_rt N))) (hg : goodWord (Cond.code N.1 (rv_bt N) (rv_ml N) (rv_rt N)) = true) : rv_cm N := rv_cmw h hg
theorem rv_cf_0 : rv_cfP 0 (RX0, TX0, 5) := ⟨rv_places _ [192, 194, 196, 198, 200] (by decide +kernel) (by decide +kernel), tyX0_ok, nmX0, rv_hasG_mem (p := 177) (by decide +kernel), rv_hasG_mem (p := 56) (by decide +kernel), by decide +kernel, rfl, by decide⟩
theorem rv_cf_1 : rv_cfP 1 (RX1, TX1, 2) := ⟨rv_places _ [242, 244] (by decide +kernel) (by decide +kernel), tyX1_ok, nmX1, rv_hasG_mem (p := 234) (by decide +kernel), rv_hasG_mem (p := 59) (by decide +kernel), by decide +kernel, rfl, by decide⟩
theorem rv_cf_2 : rv_cfP 2 (RX2, TX2, 7) := ⟨rv_places _ [321, 323, 325, 327, 329, 331, 333] (by decide +kernel) (by decide +kernel), tyX2_ok, nmX2, rv_hasG_mem (p := 298) (by decide +kernel), rv_hasG_mem (p := 61) (by decide +kernel), by decide +kernel, rfl, by decide⟩
theorem rv_cf_3 : rv_cfP 3 (RX3, TX3, 6) := ⟨rv_places _ [219, 221, 223, 225, 227, 229] (by decide +kernel) (by decide +kernel), tyX3_ok, nmX3, rv_hasG_mem (p := 204) (by decide +kernel), rv_hasG_mem (p := 57) (by decide +kernel), by decide +kernel, rfl, by decide⟩
theorem rv_cf_4 : rv_cfP 4 (RX4, TX4, 5) := ⟨rv_places _ [555, 557, 559, 561, 563] (by decide +kernel) (by decide +kernel), tyX4_ok, nmX4, rv_hasG_mem (p := 540) (by decide +kernel), rv_hasG_mem (p := 63) (by decide +kernel), by decide +kernel, rfl, by decide⟩
theorem rv_cf_5 : rv_cfP 5 (RX5, TX5, 2) := ⟨rv_places _ [87, 89] (by decide +kernel) (by decide +kernel), tyX5_ok, nmX5, rv_hasG_mem (p := 77) (by decide +kernel), rv_hasG_mem (p := 52) (by decide +kernel), by decide +kernel, rfl, by decide⟩
theorem rv_cf_6 : rv_cfP 6 (RX6, TX6, 9) := ⟨rv_places _ [369, 371, 373, 375, 377, 379, 381, 383, 385] (by decide +kernel) (by decide +kernel), tyX6_ok, nmX6, rv_hasG_mem (p := 345) (by decide +kernel), rv_hasG_mem (p := 62) (by decide +kernel), by decide +kernel, rfl, by decide⟩
theorem rv_cf_7 : rv_cfP 7 (RX7, TX7, 4) := ⟨rv_places _ [119, 121, 123, 125] (by decide +kernel) (by decide +kernel), tyX7_ok, nmX7, rv_hasG_mem (p := 106) (by decide +kernel), rv_hasG_mem (p := 55) (by decide +kernel), by decide +kernel, rfl, by decide⟩
theorem rv_cf_8 : rv_cfP 8 (RX8, TX8, 8) := ⟨rv_places _ [151, 153, 155, 157, 159, 161, 163, 165] (by decide +kernel) (by decide +kernel), tyX8_ok, nmX8, rv_hasG_mem (p := 100) (by decide +kernel), rv_hasG_mem (p := 54) (by decide +kernel), by decide +kernel, rfl, by decide⟩
theorem rv_cf_9 : rv_cfP 9 (RX9, TX9, 2) := ⟨rv_places _ [171, 173] (by decide +kernel) (by decide +kernel), tyX9_ok, nmX9, rv_hasG_mem (p := 93) (by decide +kernel), rv_hasG_mem (p := 53) (by decide +kernel), by decide +kernel, rfl, by decide⟩
theorem rv_cf_10 : rv_cfP 10 (RX10, TX10, 14) := ⟨rv_places _ [261, 263, 265, 267, 269, 271, 273, 275, 277, 279, 281, 283, 285, 287] (by decide +kernel) (by decide +kernel), tyX10_ok, nmX10, rv_hasG_mem (p := 65) (by decide +kernel), rv_hasG_mem (p := 51) (by decide +kernel), by decide +kernel, rfl, by decide⟩
theorem rv_cf_11 : rv_cfP 11 (RX11, TX11, 51) := ⟨rv_places _ [788, 790, 792, 794, 796, 798, 800, 802, 804, 806, 808, 810, 812, 814, 816, 818, 820, 822, 824, 826, 828, 830, 832, 834, 836, 838, 840, 842, 844, 846, 848, 850, 852, 854, 856, 858, 860, 862, 864, 866, 868, 870, 872, 874, 876, 878, 880, 882, 884, 886, 888] (by decide +kernel) (by decide +kernel), tyX11_ok, nmX11, rv_hasG_mem (p := 731) (by decide +kernel), rv_hasG_mem (p := 60) (by decide +kernel), by decide +kernel, rfl, by decide⟩
theorem rv_cf (ci : Nat) (r : vw_C) (h : classes[ci]? = some r) : rv_cfP ci r := by
  match ci, h with
  | 0, h => cases h; exact rv_cf_0
  | 1, h => cases h; exact rv_cf_1
  | 2, h => cases h; exact rv_cf_2
  | 3, h => cases h; exact rv_cf_3
  | 4, h => cases h; exact rv_cf_4
  | 5, h => cases h; exact rv_cf_5
  | 6, h => cases h; exact rv_cf_6
  | 7, h => cases h; exact rv_cf_7
  | 8, h => cases h; exact rv_cf_8
  | 9, h => cases h; exact rv_cf_9
  | 10, h => cases h; exact rv_cf_10
  | 11, h => cases h; exact rv_cf_11
  | n + 12, h => simp [classes] at h
set_option maxRecDepth 100000 in
theorem rv_cm_Join_init : rv_cm m_Join_init := rv_cm_of (p := 180) rfl rfl
set_option maxRecDepth 100000 in
theorem rv_cm_Join_start : rv_cm m_Join_start := rv_cm_of (p := 497) rfl rfl
set_option maxRecDepth 100000 in
theorem rv_cm_Join_add : rv_cm m_Join_add := rv_cm_of (p := 501) rfl rfl
set_option maxRecDepth 100000 in
theorem rv_cm_OnePass_init : rv_cm m_OnePass_init := rv_cm_of (p := 237) rfl rfl
set_option maxRecDepth 100000 in
theorem rv_cm_OnePass_clear : rv_cm m_OnePass_clear := rv_cm_of (p := 680) rfl rfl
set_option maxRecDepth 100000 in
theorem rv_cm_OnePass_add : rv_cm m_OnePass_add := rv_cm_of (p := 688) rfl rfl
set_option maxRecDepth 100000 in
theorem rv_cm_OnePass_get : rv_cm m_OnePass_get := rv_cm_of (p := 696) rfl rfl
set_option maxRecDepth 100000 in
theorem rv_cm_OnePass_addToGaps : rv_cm m_OnePass_addToGaps := rv_cm_of (p := 692) rfl rfl
set_option maxRecDepth 100000 in
theorem rv_cm_OnePass_addToGrid : rv_cm m_OnePass_addToGrid := rv_cm_of (p := 715) rfl rfl
set_option maxRecDepth 100000 in
theorem rv_cm_OnePass_find : rv_cm m_OnePass_find := rv_cm_of (p := 720) rfl rfl
set_option maxRecDepth 100000 in
theorem rv_cm_OnePass_open : rv_cm m_OnePass_open := rv_cm_of (p := 711) rfl rfl
set_option maxRecDepth 100000 in
theorem rv_cm_OnePass_comeInto : rv_cm m_OnePass_comeInto := rv_cm_of (p := 701) rfl rfl
set_option maxRecDepth 100000 in
theorem rv_cm_Operator_init : rv_cm m_Operator_init := rv_cm_of (p := 301) rfl rfl
set_option maxRecDepth 100000 in
theorem rv_cm_Operator_hasReached : rv_cm m_Operator_hasReached := rv_cm_of (p := 419) rfl rfl
set_option maxRecDepth 100000 in
theorem rv_cm_Operator_closes : rv_cm m_Operator_closes := rv_cm_of (p := 463) rfl rfl
set_option maxRecDepth 100000 in
theorem rv_cm_Operator_firstBegin : rv_cm m_Operator_firstBegin := rv_cm_of (p := 520) rfl rfl
set_option maxRecDepth 100000 in
theorem rv_cm_Ring_init : rv_cm m_Ring_init := rv_cm_of (p := 207) rfl rfl
set_option maxRecDepth 100000 in
theorem rv_cm_Ring_open : rv_cm m_Ring_open := rv_cm_of (p := 439) rfl rfl
set_option maxRecDepth 100000 in
theorem rv_cm_Ring_set : rv_cm m_Ring_set := rv_cm_of (p := 447) rfl rfl
set_option maxRecDepth 100000 in
theorem rv_cm_Ring_get : rv_cm m_Ring_get := rv_cm_of (p := 636) rfl rfl
set_option maxRecDepth 100000 in
theorem rv_cm_Ring_dropEldest : rv_cm m_Ring_dropEldest := rv_cm_of (p := 443) rfl rfl
set_option maxRecDepth 100000 in
theorem rv_cm_Ring_clear : rv_cm m_Ring_clear := rv_cm_of (p := 649) rfl rfl
set_option maxRecDepth 100000 in
theorem rv_cm_Row_init : rv_cm m_Row_init := rv_cm_of (p := 543) rfl rfl
set_option maxRecDepth 100000 in
theorem rv_cm_Row_standsAfter : rv_cm m_Row_standsAfter := rv_cm_of (p := 539) rfl rfl
set_option maxRecDepth 100000 in
theorem rv_cm_RowLog_init : rv_cm m_RowLog_init := rv_cm_of (p := 80) rfl rfl
set_option maxRecDepth 100000 in
theorem rv_cm_RowLog_add : rv_cm m_RowLog_add := rv_cm_of (p := 535) rfl rfl
set_option maxRecDepth 100000 in
theorem rv_cm_RowLog_inOrder : rv_cm m_RowLog_inOrder := rv_cm_of (p := 684) rfl rfl
set_option maxRecDepth 100000 in
theorem rv_cm_Source_init : rv_cm m_Source_init := rv_cm_of (p := 348) rfl rfl
set_option maxRecDepth 100000 in
theorem rv_cm_Source_noteRow : rv_cm m_Source_noteRow := rv_cm_of (p := 531) rfl rfl
set_option maxRecDepth 100000 in
theorem rv_cm_Tally_init : rv_cm m_Tally_init := rv_cm_of (p := 109) rfl rfl
set_option maxRecDepth 100000 in
theorem rv_cm_Tally_clear : rv_cm m_Tally_clear := rv_cm_of (p := 602) rfl rfl
set_option maxRecDepth 100000 in
theorem rv_cm_Tally_copy : rv_cm m_Tally_copy := rv_cm_of (p := 451) rfl rfl
set_option maxRecDepth 100000 in
theorem rv_cm_Tally_add : rv_cm m_Tally_add := rv_cm_of (p := 610) rfl rfl
set_option maxRecDepth 100000 in
theorem rv_cm_Tally_addAll : rv_cm m_Tally_addAll := rv_cm_of (p := 624) rfl rfl
set_option maxRecDepth 100000 in
theorem rv_cm_Window_init : rv_cm m_Window_init := rv_cm_of (p := 103) rfl rfl
set_option maxRecDepth 100000 in
theorem rv_cm_Window_start : rv_cm m_Window_start := rv_cm_of (p := 598) rfl rfl
set_option maxRecDepth 100000 in
theorem rv_cm_Window_belongsTo : rv_cm m_Window_belongsTo := rv_cm_of (p := 493) rfl rfl
set_option maxRecDepth 100000 in
theorem rv_cm_Window_standsBefore : rv_cm m_Window_standsBefore := rv_cm_of (p := 489) rfl rfl
set_option maxRecDepth 100000 in
theorem rv_cm_WindowList_init : rv_cm m_WindowList_init := rv_cm_of (p := 96) rfl rfl
set_option maxRecDepth 100000 in
theorem rv_cm_WindowList_at : rv_cm m_WindowList_at := rv_cm_of (p := 427) rfl rfl
set_option maxRecDepth 100000 in
theorem rv_cm_WindowList_find : rv_cm m_WindowList_find := rv_cm_of (p := 670) rfl rfl
set_option maxRecDepth 100000 in
theorem rv_cm_WindowList_has : rv_cm m_WindowList_has := rv_cm_of (p := 578) rfl rfl
set_option maxRecDepth 100000 in
theorem rv_cm_WindowList_findOrOpen : rv_cm m_WindowList_findOrOpen := rv_cm_of (p := 590) rfl rfl
set_option maxRecDepth 100000 in
theorem rv_cm_WindowList_remove : rv_cm m_WindowList_remove := rv_cm_of (p := 467) rfl rfl
set_option maxRecDepth 100000 in
theorem rv_cm_WindowList_nextDue : rv_cm m_WindowList_nextDue := rv_cm_of (p := 415) rfl rfl
set_option maxRecDepth 100000 in
theorem rv_cm_WindowList_nextClosed : rv_cm m_WindowList_nextClosed := rv_cm_of (p := 459) rfl rfl
set_option maxRecDepth 100000 in
theorem rv_cm_WindowList_gather : rv_cm m_WindowList_gather := rv_cm_of (p := 481) rfl rfl
set_option maxRecDepth 100000 in
theorem rv_cm_WindowList_endsBefore : rv_cm m_WindowList_endsBefore := rv_cm_of (p := 423) rfl rfl
set_option maxRecDepth 100000 in
theorem rv_cm_WindowList_holds : rv_cm m_WindowList_holds := rv_cm_of (p := 582) rfl rfl
set_option maxRecDepth 100000 in
theorem rv_cm_WindowList_placeOf : rv_cm m_WindowList_placeOf := rv_cm_of (p := 485) rfl rfl
set_option maxRecDepth 100000 in
theorem rv_cm_WindowList_open : rv_cm m_WindowList_open := rv_cm_of (p := 594) rfl rfl
set_option maxRecDepth 100000 in
theorem rv_cm_Late_init : rv_cm m_Late_init := rv_cm_of (p := 68) rfl rfl
set_option maxRecDepth 100000 in
theorem rv_cm_Late_operator : rv_cm m_Late_operator := rv_cm_of (p := 293) rfl rfl
set_option maxRecDepth 100000 in
theorem rv_cm_Late_source : rv_cm m_Late_source := rv_cm_of (p := 339) rfl rfl
set_option maxRecDepth 100000 in
theorem rv_cm_Late_promise : rv_cm m_Late_promise := rv_cm_of (p := 391) rfl rfl
set_option maxRecDepth 100000 in
theorem rv_cm_Late_end : rv_cm m_Late_end := rv_cm_of (p := 472) rfl rfl
set_option maxRecDepth 100000 in
theorem rv_cm_Late_row : rv_cm m_Late_row := rv_cm_of (p := 476) rfl rfl
set_option maxRecDepth 100000 in
theorem rv_cm_Late_result : rv_cm m_Late_result := rv_cm_of (p := 632) rfl rfl
set_option maxRecDepth 100000 in
theorem rv_cm_Late_aside : rv_cm m_Late_aside := rv_cm_of (p := 641) rfl rfl
set_option maxRecDepth 100000 in
theorem rv_cm_Late_take : rv_cm m_Late_take := rv_cm_of (p := 645) rfl rfl
set_option maxRecDepth 100000 in
theorem rv_cm_Late_bound : rv_cm m_Late_bound := rv_cm_of (p := 653) rfl rfl
set_option maxRecDepth 100000 in
theorem rv_cm_Late_of : rv_cm m_Late_of := rv_cm_of (p := 657) rfl rfl
set_option maxRecDepth 100000 in
theorem rv_cm_Late_mark : rv_cm m_Late_mark := rv_cm_of (p := 662) rfl rfl
set_option maxRecDepth 100000 in
theorem rv_cm_Late_window : rv_cm m_Late_window := rv_cm_of (p := 666) rfl rfl
set_option maxRecDepth 100000 in
theorem rv_cm_Late_pass : rv_cm m_Late_pass := rv_cm_of (p := 676) rfl rfl
set_option maxRecDepth 100000 in
theorem rv_cm_Late_passed : rv_cm m_Late_passed := rv_cm_of (p := 724) rfl rfl
set_option maxRecDepth 100000 in
theorem rv_cm_Late_count : rv_cm m_Late_count := rv_cm_of (p := 729) rfl rfl
set_option maxRecDepth 100000 in
theorem rv_cm_Late_isWithin : rv_cm m_Late_isWithin := rv_cm_of (p := 296) rfl rfl
set_option maxRecDepth 100000 in
theorem rv_cm_Late_operatorAt : rv_cm m_Late_operatorAt := rv_cm_of (p := 343) rfl rfl
set_option maxRecDepth 100000 in
theorem rv_cm_Late_sourceAt : rv_cm m_Late_sourceAt := rv_cm_of (p := 395) rfl rfl
set_option maxRecDepth 100000 in
theorem rv_cm_Late_moveMark : rv_cm m_Late_moveMark := rv_cm_of (p := 400) rfl rfl
set_option maxRecDepth 100000 in
theorem rv_cm_Late_leastPromise : rv_cm m_Late_leastPromise := rv_cm_of (p := 404) rfl rfl
set_option maxRecDepth 100000 in
theorem rv_cm_Late_tellAllDue : rv_cm m_Late_tellAllDue := rv_cm_of (p := 411) rfl rfl
set_option maxRecDepth 100000 in
theorem rv_cm_Late_letClosedGo : rv_cm m_Late_letClosedGo := rv_cm_of (p := 455) rfl rfl
set_option maxRecDepth 100000 in
theorem rv_cm_Late_tell : rv_cm m_Late_tell := rv_cm_of (p := 431) rfl rfl
set_option maxRecDepth 100000 in
theorem rv_cm_Late_keepResult : rv_cm m_Late_keepResult := rv_cm_of (p := 435) rfl rfl
set_option maxRecDepth 100000 in
theorem rv_cm_Late_judge : rv_cm m_Late_judge := rv_cm_of (p := 507) rfl rfl
set_option maxRecDepth 100000 in
theorem rv_cm_Late_judgeInGaps : rv_cm m_Late_judgeInGaps := rv_cm_of (p := 511) rfl rfl
set_option maxRecDepth 100000 in
theorem rv_cm_Late_judgeInGrid : rv_cm m_Late_judgeInGrid := rv_cm_of (p := 516) rfl rfl
set_option maxRecDepth 100000 in
theorem rv_cm_Late_layAside : rv_cm m_Late_layAside := rv_cm_of (p := 527) rfl rfl
set_option maxRecDepth 100000 in
theorem rv_cm_Late_keepAside : rv_cm m_Late_keepAside := rv_cm_of (p := 570) rfl rfl
set_option maxRecDepth 100000 in
theorem rv_cm_Late_countNewWindows : rv_cm m_Late_countNewWindows := rv_cm_of (p := 574) rfl rfl
set_option maxRecDepth 100000 in
theorem rv_cm_Late_useInGrid : rv_cm m_Late_useInGrid := rv_cm_of (p := 628) rfl rfl
set_option maxRecDepth 100000 in
theorem rv_cm_Late_useInGaps : rv_cm m_Late_useInGaps := rv_cm_of (p := 586) rfl rfl
set_option maxRecDepth 100000 in
theorem rv_cm_Late_takeBackJoined : rv_cm m_Late_takeBackJoined := rv_cm_of (p := 616) rfl rfl
set_option maxRecDepth 100000 in
theorem rv_cm_Late_mergeJoined : rv_cm m_Late_mergeJoined := rv_cm_of (p := 620) rfl rfl
set_option maxRecDepth 100000 in
theorem rv_cm_Late_comeInto : rv_cm m_Late_comeInto := rv_cm_of (p := 606) rfl rfl
set_option maxRecDepth 100000 in
theorem rv_cm_Model_in : rv_cm m_Model_in := rv_cm_of (p := 899) rfl rfl
set_option maxRecDepth 100000 in
theorem rv_cm_Model_down : rv_cm m_Model_down := rv_cm_of (p := 974) rfl rfl
set_option maxRecDepth 100000 in
theorem rv_cm_Model_init : rv_cm m_Model_init := rv_cm_of (p := 734) rfl rfl
set_option maxRecDepth 100000 in
theorem rv_cm_Model_isOp : rv_cm m_Model_isOp := rv_cm_of (p := 908) rfl rfl
set_option maxRecDepth 100000 in
theorem rv_cm_Model_isSource : rv_cm m_Model_isSource := rv_cm_of (p := 917) rfl rfl
set_option maxRecDepth 100000 in
theorem rv_cm_Model_operator : rv_cm m_Model_operator := rv_cm_of (p := 896) rfl rfl
set_option maxRecDepth 100000 in
theorem rv_cm_Model_source : rv_cm m_Model_source := rv_cm_of (p := 904) rfl rfl
set_option maxRecDepth 100000 in
theorem rv_cm_Model_result_IIIJIIV : rv_cm m_Model_result_IIIJIIV := rv_cm_of (p := 942) rfl rfl
set_option maxRecDepth 100000 in
theorem rv_cm_Model_tell : rv_cm m_Model_tell := rv_cm_of (p := 938) rfl rfl
set_option maxRecDepth 100000 in
theorem rv_cm_Model_takeBack : rv_cm m_Model_takeBack := rv_cm_of (p := 946) rfl rfl
set_option maxRecDepth 100000 in
theorem rv_cm_Model_remove : rv_cm m_Model_remove := rv_cm_of (p := 950) rfl rfl
set_option maxRecDepth 100000 in
theorem rv_cm_Model_isAhead : rv_cm m_Model_isAhead := rv_cm_of (p := 934) rfl rfl
set_option maxRecDepth 100000 in
theorem rv_cm_Model_isClosed : rv_cm m_Model_isClosed := rv_cm_of (p := 930) rfl rfl
set_option maxRecDepth 100000 in
theorem rv_cm_Model_due : rv_cm m_Model_due := rv_cm_of (p := 926) rfl rfl
set_option maxRecDepth 100000 in
theorem rv_cm_Model_moves : rv_cm m_Model_moves := rv_cm_of (p := 922) rfl rfl
set_option maxRecDepth 100000 in
theorem rv_cm_Model_promise : rv_cm m_Model_promise := rv_cm_of (p := 913) rfl rfl
set_option maxRecDepth 100000 in
theorem rv_cm_Model_end : rv_cm m_Model_end := rv_cm_of (p := 954) rfl rfl
set_option maxRecDepth 100000 in
theorem rv_cm_Model_found : rv_cm m_Model_found := rv_cm_of (p := 978) rfl rfl
set_option maxRecDepth 100000 in
theorem rv_cm_Model_made : rv_cm m_Model_made := rv_cm_of (p := 1002) rfl rfl
set_option maxRecDepth 100000 in
theorem rv_cm_Model_into : rv_cm m_Model_into := rv_cm_of (p := 994) rfl rfl
set_option maxRecDepth 100000 in
theorem rv_cm_Model_follows : rv_cm m_Model_follows := rv_cm_of (p := 998) rfl rfl
set_option maxRecDepth 100000 in
theorem rv_cm_Model_meets : rv_cm m_Model_meets := rv_cm_of (p := 967) rfl rfl
set_option maxRecDepth 100000 in
theorem rv_cm_Model_joined : rv_cm m_Model_joined := rv_cm_of (p := 963) rfl rfl
set_option maxRecDepth 100000 in
theorem rv_cm_Model_beginOf : rv_cm m_Model_beginOf := rv_cm_of (p := 971) rfl rfl
set_option maxRecDepth 100000 in
theorem rv_cm_Model_putAside : rv_cm m_Model_putAside := rv_cm_of (p := 982) rfl rfl
set_option maxRecDepth 100000 in
theorem rv_cm_Model_came : rv_cm m_Model_came := rv_cm_of (p := 986) rfl rfl
set_option maxRecDepth 100000 in
theorem rv_cm_Model_row : rv_cm m_Model_row := rv_cm_of (p := 958) rfl rfl
set_option maxRecDepth 100000 in
theorem rv_cm_Model_gap : rv_cm m_Model_gap := rv_cm_of (p := 990) rfl rfl
set_option maxRecDepth 100000 in
theorem rv_cm_Model_result_IIJ : rv_cm m_Model_result_IIJ := rv_cm_of (p := 1006) rfl rfl
set_option maxRecDepth 100000 in
theorem rv_cm_Model_aside : rv_cm m_Model_aside := rv_cm_of (p := 1011) rfl rfl
set_option maxRecDepth 100000 in
theorem rv_cm_Model_take : rv_cm m_Model_take := rv_cm_of (p := 1015) rfl rfl
set_option maxRecDepth 100000 in
theorem rv_cm_Model_bound : rv_cm m_Model_bound := rv_cm_of (p := 1019) rfl rfl
set_option maxRecDepth 100000 in
theorem rv_cm_Model_of : rv_cm m_Model_of := rv_cm_of (p := 1023) rfl rfl
set_option maxRecDepth 100000 in
theorem rv_cm_Model_mark : rv_cm m_Model_mark := rv_cm_of (p := 1027) rfl rfl
set_option maxRecDepth 100000 in
theorem rv_cm_Model_window : rv_cm m_Model_window := rv_cm_of (p := 1031) rfl rfl
set_option maxRecDepth 100000 in
theorem rv_cm_Model_passInto : rv_cm m_Model_passInto := rv_cm_of (p := 1047) rfl rfl
set_option maxRecDepth 100000 in
theorem rv_cm_Model_isTaken : rv_cm m_Model_isTaken := rv_cm_of (p := 1039) rfl rfl
set_option maxRecDepth 100000 in
theorem rv_cm_Model_edge : rv_cm m_Model_edge := rv_cm_of (p := 1043) rfl rfl
set_option maxRecDepth 100000 in
theorem rv_cm_Model_pass : rv_cm m_Model_pass := rv_cm_of (p := 1035) rfl rfl
set_option maxRecDepth 100000 in
theorem rv_cm_Model_passed : rv_cm m_Model_passed := rv_cm_of (p := 1051) rfl rfl
set_option maxRecDepth 100000 in
theorem rv_cm_Model_count : rv_cm m_Model_count := rv_cm_of (p := 1055) rfl rfl
set_option maxRecDepth 100000 in
theorem rv_cm_Math_floorDiv : rv_cm m_Math_floorDiv := rv_cm_of (p := 523) rfl rfl
set_option maxRecDepth 100000 in
theorem rv_cm_Math_max_III : rv_cm m_Math_max_III := rv_cm_of (p := 211) rfl rfl
set_option maxRecDepth 100000 in
theorem rv_cm_Math_max_JJJ : rv_cm m_Math_max_JJJ := rv_cm_of (p := 707) rfl rfl
set_option maxRecDepth 100000 in
theorem rv_cm_Math_min_III : rv_cm m_Math_min_III := rv_cm_of (p := 407) rfl rfl
set_option maxRecDepth 100000 in
theorem rv_cm_Math_min_JJJ : rv_cm m_Math_min_JJJ := rv_cm_of (p := 704) rfl rfl
theorem rv_cml_0 : ∀ N ∈ [m_Join_init, m_Join_start, m_Join_add, m_OnePass_init, m_OnePass_clear, m_OnePass_add, m_OnePass_get, m_OnePass_addToGaps, m_OnePass_addToGrid, m_OnePass_find, m_OnePass_open, m_OnePass_comeInto, m_Operator_init, m_Operator_hasReached, m_Operator_closes, m_Operator_firstBegin], rv_cm N := List.forall_mem_cons.mpr ⟨rv_cm_Join_init, List.forall_mem_cons.mpr ⟨rv_cm_Join_start, List.forall_mem_cons.mpr ⟨rv_cm_Join_add, List.forall_mem_cons.mpr ⟨rv_cm_OnePass_init, List.forall_mem_cons.mpr ⟨rv_cm_OnePass_clear, List.forall_mem_cons.mpr ⟨rv_cm_OnePass_add, List.forall_mem_cons.mpr ⟨rv_cm_OnePass_get, List.forall_mem_cons.mpr ⟨rv_cm_OnePass_addToGaps, List.forall_mem_cons.mpr ⟨rv_cm_OnePass_addToGrid, List.forall_mem_cons.mpr ⟨rv_cm_OnePass_find, List.forall_mem_cons.mpr ⟨rv_cm_OnePass_open, List.forall_mem_cons.mpr ⟨rv_cm_OnePass_comeInto, List.forall_mem_cons.mpr ⟨rv_cm_Operator_init, List.forall_mem_cons.mpr ⟨rv_cm_Operator_hasReached, List.forall_mem_cons.mpr ⟨rv_cm_Operator_closes, List.forall_mem_cons.mpr ⟨rv_cm_Operator_firstBegin, fun _ h => absurd h List.not_mem_nil⟩⟩⟩⟩⟩⟩⟩⟩⟩⟩⟩⟩⟩⟩⟩⟩
theorem rv_cml_1 : ∀ N ∈ [m_Ring_init, m_Ring_open, m_Ring_set, m_Ring_get, m_Ring_dropEldest, m_Ring_clear, m_Row_init, m_Row_standsAfter, m_RowLog_init, m_RowLog_add, m_RowLog_inOrder, m_Source_init, m_Source_noteRow, m_Tally_init, m_Tally_clear, m_Tally_copy], rv_cm N := List.forall_mem_cons.mpr ⟨rv_cm_Ring_init, List.forall_mem_cons.mpr ⟨rv_cm_Ring_open, List.forall_mem_cons.mpr ⟨rv_cm_Ring_set, List.forall_mem_cons.mpr ⟨rv_cm_Ring_get, List.forall_mem_cons.mpr ⟨rv_cm_Ring_dropEldest, List.forall_mem_cons.mpr ⟨rv_cm_Ring_clear, List.forall_mem_cons.mpr ⟨rv_cm_Row_init, List.forall_mem_cons.mpr ⟨rv_cm_Row_standsAfter, List.forall_mem_cons.mpr ⟨rv_cm_RowLog_init, List.forall_mem_cons.mpr ⟨rv_cm_RowLog_add, List.forall_mem_cons.mpr ⟨rv_cm_RowLog_inOrder, List.forall_mem_cons.mpr ⟨rv_cm_Source_init, List.forall_mem_cons.mpr ⟨rv_cm_Source_noteRow, List.forall_mem_cons.mpr ⟨rv_cm_Tally_init, List.forall_mem_cons.mpr ⟨rv_cm_Tally_clear, List.forall_mem_cons.mpr ⟨rv_cm_Tally_copy, fun _ h => absurd h List.not_mem_nil⟩⟩⟩⟩⟩⟩⟩⟩⟩⟩⟩⟩⟩⟩⟩⟩
theorem rv_cml_2 : ∀ N ∈ [m_Tally_add, m_Tally_addAll, m_Window_init, m_Window_start, m_Window_belongsTo, m_Window_standsBefore, m_WindowList_init, m_WindowList_at, m_WindowList_find, m_WindowList_has, m_WindowList_findOrOpen, m_WindowList_remove, m_WindowList_nextDue, m_WindowList_nextClosed, m_WindowList_gather, m_WindowList_endsBefore], rv_cm N := List.forall_mem_cons.mpr ⟨rv_cm_Tally_add, List.forall_mem_cons.mpr ⟨rv_cm_Tally_addAll, List.forall_mem_cons.mpr ⟨rv_cm_Window_init, List.forall_mem_cons.mpr ⟨rv_cm_Window_start, List.forall_mem_cons.mpr ⟨rv_cm_Window_belongsTo, List.forall_mem_cons.mpr ⟨rv_cm_Window_standsBefore, List.forall_mem_cons.mpr ⟨rv_cm_WindowList_init, List.forall_mem_cons.mpr ⟨rv_cm_WindowList_at, List.forall_mem_cons.mpr ⟨rv_cm_WindowList_find, List.forall_mem_cons.mpr ⟨rv_cm_WindowList_has, List.forall_mem_cons.mpr ⟨rv_cm_WindowList_findOrOpen, List.forall_mem_cons.mpr ⟨rv_cm_WindowList_remove, List.forall_mem_cons.mpr ⟨rv_cm_WindowList_nextDue, List.forall_mem_cons.mpr ⟨rv_cm_WindowList_nextClosed, List.forall_mem_cons.mpr ⟨rv_cm_WindowList_gather, List.forall_mem_cons.mpr ⟨rv_cm_WindowList_endsBefore, fun _ h => absurd h List.not_mem_nil⟩⟩⟩⟩⟩⟩⟩⟩⟩⟩⟩⟩⟩⟩⟩⟩
theorem rv_cml_3 : ∀ N ∈ [m_WindowList_holds, m_WindowList_placeOf, m_WindowList_open, m_Late_init, m_Late_operator, m_Late_source, m_Late_promise, m_Late_end, m_Late_row, m_Late_result, m_Late_aside, m_Late_take, m_Late_bound, m_Late_of, m_Late_mark, m_Late_window], rv_cm N := List.forall_mem_cons.mpr ⟨rv_cm_WindowList_holds, List.forall_mem_cons.mpr ⟨rv_cm_WindowList_placeOf, List.forall_mem_cons.mpr ⟨rv_cm_WindowList_open, List.forall_mem_cons.mpr ⟨rv_cm_Late_init, List.forall_mem_cons.mpr ⟨rv_cm_Late_operator, List.forall_mem_cons.mpr ⟨rv_cm_Late_source, List.forall_mem_cons.mpr ⟨rv_cm_Late_promise, List.forall_mem_cons.mpr ⟨rv_cm_Late_end, List.forall_mem_cons.mpr ⟨rv_cm_Late_row, List.forall_mem_cons.mpr ⟨rv_cm_Late_result, List.forall_mem_cons.mpr ⟨rv_cm_Late_aside, List.forall_mem_cons.mpr ⟨rv_cm_Late_take, List.forall_mem_cons.mpr ⟨rv_cm_Late_bound, List.forall_mem_cons.mpr ⟨rv_cm_Late_of, List.forall_mem_cons.mpr ⟨rv_cm_Late_mark, List.forall_mem_cons.mpr ⟨rv_cm_Late_window, fun _ h => absurd h List.not_mem_nil⟩⟩⟩⟩⟩⟩⟩⟩⟩⟩⟩⟩⟩⟩⟩⟩
theorem rv_cml_4 : ∀ N ∈ [m_Late_pass, m_Late_passed, m_Late_count, m_Late_isWithin, m_Late_operatorAt, m_Late_sourceAt, m_Late_moveMark, m_Late_leastPromise, m_Late_tellAllDue, m_Late_letClosedGo, m_Late_tell, m_Late_keepResult, m_Late_judge, m_Late_judgeInGaps, m_Late_judgeInGrid, m_Late_layAside], rv_cm N := List.forall_mem_cons.mpr ⟨rv_cm_Late_pass, List.forall_mem_cons.mpr ⟨rv_cm_Late_passed, List.forall_mem_cons.mpr ⟨rv_cm_Late_count, List.forall_mem_cons.mpr ⟨rv_cm_Late_isWithin, List.forall_mem_cons.mpr ⟨rv_cm_Late_operatorAt, List.forall_mem_cons.mpr ⟨rv_cm_Late_sourceAt, List.forall_mem_cons.mpr ⟨rv_cm_Late_moveMark, List.forall_mem_cons.mpr ⟨rv_cm_Late_leastPromise, List.forall_mem_cons.mpr ⟨rv_cm_Late_tellAllDue, List.forall_mem_cons.mpr ⟨rv_cm_Late_letClosedGo, List.forall_mem_cons.mpr ⟨rv_cm_Late_tell, List.forall_mem_cons.mpr ⟨rv_cm_Late_keepResult, List.forall_mem_cons.mpr ⟨rv_cm_Late_judge, List.forall_mem_cons.mpr ⟨rv_cm_Late_judgeInGaps, List.forall_mem_cons.mpr ⟨rv_cm_Late_judgeInGrid, List.forall_mem_cons.mpr ⟨rv_cm_Late_layAside, fun _ h => absurd h List.not_mem_nil⟩⟩⟩⟩⟩⟩⟩⟩⟩⟩⟩⟩⟩⟩⟩⟩
theorem rv_cml_5 : ∀ N ∈ [m_Late_keepAside, m_Late_countNewWindows, m_Late_useInGrid, m_Late_useInGaps, m_Late_takeBackJoined, m_Late_mergeJoined, m_Late_comeInto, m_Model_in, m_Model_down, m_Model_init, m_Model_isOp, m_Model_isSource, m_Model_operator, m_Model_source, m_Model_result_IIIJIIV, m_Model_tell], rv_cm N := List.forall_mem_cons.mpr ⟨rv_cm_Late_keepAside, List.forall_mem_cons.mpr ⟨rv_cm_Late_countNewWindows, List.forall_mem_cons.mpr ⟨rv_cm_Late_useInGrid, List.forall_mem_cons.mpr ⟨rv_cm_Late_useInGaps, List.forall_mem_cons.mpr ⟨rv_cm_Late_takeBackJoined, List.forall_mem_cons.mpr ⟨rv_cm_Late_mergeJoined, List.forall_mem_cons.mpr ⟨rv_cm_Late_comeInto, List.forall_mem_cons.mpr ⟨rv_cm_Model_in, List.forall_mem_cons.mpr ⟨rv_cm_Model_down, List.forall_mem_cons.mpr ⟨rv_cm_Model_init, List.forall_mem_cons.mpr ⟨rv_cm_Model_isOp, List.forall_mem_cons.mpr ⟨rv_cm_Model_isSource, List.forall_mem_cons.mpr ⟨rv_cm_Model_operator, List.forall_mem_cons.mpr ⟨rv_cm_Model_source, List.forall_mem_cons.mpr ⟨rv_cm_Model_result_IIIJIIV, List.forall_mem_cons.mpr ⟨rv_cm_Model_tell, fun _ h => absurd h List.not_mem_nil⟩⟩⟩⟩⟩⟩⟩⟩⟩⟩⟩⟩⟩⟩⟩⟩
theorem rv_cml_6 : ∀ N ∈ [m_Model_takeBack, m_Model_remove, m_Model_isAhead, m_Model_isClosed, m_Model_due, m_Model_moves, m_Model_promise, m_Model_end, m_Model_found, m_Model_made, m_Model_into, m_Model_follows, m_Model_meets, m_Model_joined, m_Model_beginOf, m_Model_putAside], rv_cm N := List.forall_mem_cons.mpr ⟨rv_cm_Model_takeBack, List.forall_mem_cons.mpr ⟨rv_cm_Model_remove, List.forall_mem_cons.mpr ⟨rv_cm_Model_isAhead, List.forall_mem_cons.mpr ⟨rv_cm_Model_isClosed, List.forall_mem_cons.mpr ⟨rv_cm_Model_due, List.forall_mem_cons.mpr ⟨rv_cm_Model_moves, List.forall_mem_cons.mpr ⟨rv_cm_Model_promise, List.forall_mem_cons.mpr ⟨rv_cm_Model_end, List.forall_mem_cons.mpr ⟨rv_cm_Model_found, List.forall_mem_cons.mpr ⟨rv_cm_Model_made, List.forall_mem_cons.mpr ⟨rv_cm_Model_into, List.forall_mem_cons.mpr ⟨rv_cm_Model_follows, List.forall_mem_cons.mpr ⟨rv_cm_Model_meets, List.forall_mem_cons.mpr ⟨rv_cm_Model_joined, List.forall_mem_cons.mpr ⟨rv_cm_Model_beginOf, List.forall_mem_cons.mpr ⟨rv_cm_Model_putAside, fun _ h => absurd h List.not_mem_nil⟩⟩⟩⟩⟩⟩⟩⟩⟩⟩⟩⟩⟩⟩⟩⟩
theorem rv_cml_7 : ∀ N ∈ [m_Model_came, m_Model_row, m_Model_gap, m_Model_result_IIJ, m_Model_aside, m_Model_take, m_Model_bound, m_Model_of, m_Model_mark, m_Model_window, m_Model_passInto, m_Model_isTaken, m_Model_edge, m_Model_pass, m_Model_passed, m_Model_count], rv_cm N := List.forall_mem_cons.mpr ⟨rv_cm_Model_came, List.forall_mem_cons.mpr ⟨rv_cm_Model_row, List.forall_mem_cons.mpr ⟨rv_cm_Model_gap, List.forall_mem_cons.mpr ⟨rv_cm_Model_result_IIJ, List.forall_mem_cons.mpr ⟨rv_cm_Model_aside, List.forall_mem_cons.mpr ⟨rv_cm_Model_take, List.forall_mem_cons.mpr ⟨rv_cm_Model_bound, List.forall_mem_cons.mpr ⟨rv_cm_Model_of, List.forall_mem_cons.mpr ⟨rv_cm_Model_mark, List.forall_mem_cons.mpr ⟨rv_cm_Model_window, List.forall_mem_cons.mpr ⟨rv_cm_Model_passInto, List.forall_mem_cons.mpr ⟨rv_cm_Model_isTaken, List.forall_mem_cons.mpr ⟨rv_cm_Model_edge, List.forall_mem_cons.mpr ⟨rv_cm_Model_pass, List.forall_mem_cons.mpr ⟨rv_cm_Model_passed, List.forall_mem_cons.mpr ⟨rv_cm_Model_count, fun _ h => absurd h List.not_mem_nil⟩⟩⟩⟩⟩⟩⟩⟩⟩⟩⟩⟩⟩⟩⟩⟩
theorem rv_cml_8 : ∀ N ∈ [m_Math_floorDiv, m_Math_max_III, m_Math_max_JJJ, m_Math_min_III, m_Math_min_JJJ], rv_cm N := List.forall_mem_cons.mpr ⟨rv_cm_Math_floorDiv, List.forall_mem_cons.mpr ⟨rv_cm_Math_max_III, List.forall_mem_cons.mpr ⟨rv_cm_Math_max_JJJ, List.forall_mem_cons.mpr ⟨rv_cm_Math_min_III, List.forall_mem_cons.mpr ⟨rv_cm_Math_min_JJJ, fun _ h => absurd h List.not_mem_nil⟩⟩⟩⟩⟩
def rv_cal : List rv_M := [m_Join_init, m_Join_start, m_Join_add, m_OnePass_init, m_OnePass_clear, m_OnePass_add, m_OnePass_get, m_OnePass_addToGaps, m_OnePass_addToGrid, m_OnePass_find, m_OnePass_open, m_OnePass_comeInto, m_Operator_init, m_Operator_hasReached, m_Operator_closes, m_Operator_firstBegin] ++ ([m_Ring_init, m_Ring_open, m_Ring_set, m_Ring_get, m_Ring_dropEldest, m_Ring_clear, m_Row_init, m_Row_standsAfter, m_RowLog_init, m_RowLog_add, m_RowLog_inOrder, m_Source_init, m_Source_noteRow, m_Tally_init, m_Tally_clear, m_Tally_copy] ++ ([m_Tally_add, m_Tally_addAll, m_Window_init, m_Window_start, m_Window_belongsTo, m_Window_standsBefore, m_WindowList_init, m_WindowList_at, m_WindowList_find, m_WindowList_has, m_WindowList_findOrOpen, m_WindowList_remove, m_WindowList_nextDue, m_WindowList_nextClosed, m_WindowList_gather, m_WindowList_endsBefore] ++ ([m_WindowList_holds, m_WindowList_placeOf, m_WindowList_open, m_Late_init, m_Late_operator, m_Late_source, m_Late_promise, m_Late_end, m_Late_row, m_Late_result, m_Late_aside, m_Late_take, m_Late_bound, m_Late_of, m_Late_mark, m_Late_window] ++ ([m_Late_pass, m_Late_passed, m_Late_count, m_Late_isWithin, m_Late_operatorAt, m_Late_sourceAt, m_Late_moveMark, m_Late_leastPromise, m_Late_tellAllDue, m_Late_letClosedGo, m_Late_tell, m_Late_keepResult, m_Late_judge, m_Late_judgeInGaps, m_Late_judgeInGrid, m_Late_layAside] ++ ([m_Late_keepAside, m_Late_countNewWindows, m_Late_useInGrid, m_Late_useInGaps, m_Late_takeBackJoined, m_Late_mergeJoined, m_Late_comeInto, m_Model_in, m_Model_down, m_Model_init, m_Model_isOp, m_Model_isSource, m_Model_operator, m_Model_source, m_Model_result_IIIJIIV, m_Model_tell] ++ ([m_Model_takeBack, m_Model_remove, m_Model_isAhead, m_Model_isClosed, m_Model_due, m_Model_moves, m_Model_promise, m_Model_end, m_Model_found, m_Model_made, m_Model_into, m_Model_follows, m_Model_meets, m_Model_joined, m_Model_beginOf, m_Model_putAside] ++ ([m_Model_came, m_Model_row, m_Model_gap, m_Model_result_IIJ, m_Model_aside, m_Model_take, m_Model_bound, m_Model_of, m_Model_mark, m_Model_window, m_Model_passInto, m_Model_isTaken, m_Model_edge, m_Model_pass, m_Model_passed, m_Model_count] ++ ([m_Math_floorDiv, m_Math_max_III, m_Math_max_JJJ, m_Math_min_III, m_Math_min_JJJ]))))))))
theorem rv_cal_cm : ∀ N ∈ rv_cal, rv_cm N := by
  unfold rv_cal
  exact List.forall_mem_append.mpr ⟨rv_cml_0, List.forall_mem_append.mpr ⟨rv_cml_1, List.forall_mem_append.mpr ⟨rv_cml_2, List.forall_mem_append.mpr ⟨rv_cml_3, List.forall_mem_append.mpr ⟨rv_cml_4, List.forall_mem_append.mpr ⟨rv_cml_5, List.forall_mem_append.mpr ⟨rv_cml_6, List.forall_mem_append.mpr ⟨rv_cml_7, rv_cml_8⟩⟩⟩⟩⟩⟩⟩⟩
set_option maxRecDepth 100000 in
theorem rv_all_cal : rv_all = rv_cal ++ [m_Law_law] := rfl
theorem rv_cm_all (a : Nat) (h : a < i_Law_law) : rv_cm (rv_md a) := by
  have hl : rv_cal.length = 133 := rfl
  have h1 : rv_nth rv_all a = rv_cal[a]? := by rw [rv_nth_eq, rv_all_cal, List.getElem?_append_left (by rw [hl]; exact h)]
  have h2 : a < rv_cal.length := by rw [hl]; exact h
  unfold rv_md
  rw [h1, List.getElem?_eq_getElem h2]
  exact rv_cal_cm _ (List.getElem_mem h2)
set_option maxRecDepth 100000 in
theorem rv_objw : rv_obj := ⟨rv_hasG_mem (p := 70) (by decide +kernel), rv_cmw (p := 71) rfl rfl⟩
end
section
/-! RUNNING A METHOD: from its contract's claim to the machine -/
theorem rv_V.step {G : rv_G} {M : rv_M} {mc ms : Nat} {Rt : Option Value → rv_S → Prop} (hM : rv_good M) {nx : Nat → rv_L → List Value → rv_S → Nat → Nat → Prop} (hn : ∀ pc ls st σ ce sl, nx pc ls st σ ce sl → rv_V G M mc ms Rt pc ls st σ ce sl) {pc : Nat} {ls : rv_L} {st : List Value} {σ : rv_S} {ce sl : Nat} (h : rv_step G M mc ms Rt nx pc ls st σ ce sl) : rv_V G M mc ms Rt pc ls st σ ce sl := rv_sound hM rv_cf rv_cm_all rv_objw hn h
theorem rv_bx_V {G : rv_G} {M : rv_M} {mc ms : Nat} {Rt : Option Value → rv_S → Prop} (hM : rv_good M) {stops : List Nat} : ∀ (k pc : Nat) (ls : rv_L) (st : List Value) (σ : rv_S) (ce sl : Nat), rv_bx G M mc ms Rt stops (rv_V G M mc ms Rt) k pc ls st σ ce sl → rv_V G M mc ms Rt pc ls st σ ce sl
  | 0, pc, ls, st, σ, ce, sl, h => h
  | k + 1, pc, ls, st, σ, ce, sl, h => by
    unfold rv_bx at h
    split at h
    · exact h
    · exact rv_V.step hM (fun pc ls st σ ce sl h => rv_bx_V hM k pc ls st σ ce sl h) h
/-- k instructions from here (the first in any case), up to one of 'stops' -/
theorem rv_V.run {G : rv_G} {M : rv_M} {mc ms : Nat} {Rt : Option Value → rv_S → Prop} (hM : rv_good M) (stops : List Nat) (k : Nat) {pc : Nat} {ls : rv_L} {st : List Value} {σ : rv_S} {ce sl : Nat} (h : rv_step G M mc ms Rt (rv_bx G M mc ms Rt stops (rv_V G M mc ms Rt) k) pc ls st σ ce sl) : rv_V G M mc ms Rt pc ls st σ ce sl :=
  rv_V.step hM (fun pc ls st σ ce sl h => rv_bx_V hM k pc ls st σ ce sl h) h
/-- fewer known locals -/
theorem rv_V.weak {G : rv_G} {M : rv_M} {mc ms : Nat} {Rt : Option Value → rv_S → Prop} {pc : Nat} {ls ls' : rv_L} {st : List Value} {σ : rv_S} {ce sl : Nat} (h : rv_V G M mc ms Rt pc ls' st σ ce sl) (hw : ∀ (i : Nat) (v : Value), ls'[i]? = some (some v) → ls[i]? = some (some v)) : rv_V G M mc ms Rt pc ls st σ ce sl :=
  fun h1 h2 R p e s m args below meth c A H locs la hl hR hlo => h h1 h2 R p e s m args below meth c A H locs la (hl.weak hw) hR hlo
theorem rv_V.mono {G : rv_G} {M : rv_M} {mc ms : Nat} {Rt Rt' : Option Value → rv_S → Prop} {pc : Nat} {ls : rv_L} {st : List Value} {σ : rv_S} {ce sl : Nat} (h : rv_V G M mc ms Rt pc ls st σ ce sl) (hw : ∀ r σ, Rt r σ → Rt' r σ) : rv_V G M mc ms Rt' pc ls st σ ce sl := by
  intro h1 h2 R p e s m args below meth c A H locs la hl hR hlo T hT X
  obtain ⟨t, a, o, b1, b2, ⟨⟨r, σ', b3, b4, b5⟩, b7⟩, b6⟩ := h h1 h2 R p e s m args below meth c A H locs la hl hR hlo T hT X
  exact ⟨t, a, o, b1, b2, ⟨⟨r, σ', b3, hw r σ' b4, b5⟩, b7⟩, b6⟩
/-- counts of new cells may be rounded up -/
theorem rv_V.widen {G : rv_G} {M : rv_M} {mc ms : Nat} {Rt : Option Value → rv_S → Prop} {pc : Nat} {ls : rv_L} {st : List Value} {σ : rv_S} {ce sl ce' sl' : Nat} (h1 : ce ≤ ce') (h2 : sl ≤ sl') (h3 : ce' ≤ mc) (h4 : sl' ≤ ms) (h : rv_V G M mc ms Rt pc ls st σ ce' sl') : rv_V G M mc ms Rt pc ls st σ ce sl :=
  fun _ _ R p e s m args below meth c A H locs la hl hR hlo => W.widen h1 h2 (h h3 h4 R p e s m args below meth c A H locs la hl hR hlo)
/-- a method's locals at its entry -/
def rv_en : List Value → List (Option Value)
  | [] => []
  | .long x :: l => some (.long x) :: none :: rv_en l
  | .double x :: l => some (.double x) :: none :: rv_en l
  | v :: l => some v :: rv_en l
theorem rv_en_at : ∀ (av : List Value) (j i : Nat) (v : Value), (rv_en av)[i]? = some (some v) → (i + j, v) ∈ lv_args j av
  | [], j, i, v, h => by simp [rv_en] at h
  | w :: l, j, i, v, h => by
    have key1 : w.category = 1 → rv_en (w :: l) = some w :: rv_en l := by cases w <;> simp [rv_en, Value.category]
    have key2 : w.category = 2 → rv_en (w :: l) = some w :: none :: rv_en l := by cases w <;> simp [rv_en, Value.category]
    unfold lv_args
    rcases lv_cat w with hc | hc
    · rw [key1 hc] at h
      rw [if_neg (by omega)]
      cases i with
      | zero => simp at h; subst h; simp
      | succ i =>
        have := rv_en_at l (j + 1) i v (by simpa using h)
        rw [show i + (j + 1) = i + 1 + j by omega] at this
        exact List.mem_cons_of_mem _ this
    · rw [key2 hc] at h
      rw [if_pos hc]
      match i, h with
      | 0, h => simp at h; subst h; simp
      | 1, h => simp at h
      | i + 2, h =>
        have := rv_en_at l (j + 2) i v (by simpa using h)
        rw [show i + (j + 2) = i + 2 + j by omega] at this
        exact List.mem_cons_of_mem _ this
theorem rv_en_len : ∀ (av : List Value), (rv_en av).length = (lg_sl av).length
  | [] => rfl
  | w :: l => by
    have ih := rv_en_len l
    unfold lg_sl at ih ⊢
    cases w <;> simp [rv_en, Value.category, ih] <;> omega
/-- the entry's locals, filled up -/
def rv_e (n : Nat) (av : List Value) : rv_L := rv_en av ++ List.replicate (n - (rv_en av).length) none
set_option maxHeartbeats 1000000 in
/-- A CONTRACT OUT OF A WALK from the method's first instruction -/
theorem rv_ct {G : rv_G} {i mc ms : Nat} {av : List Value} {σ : rv_S} {Rt : Option Value → rv_S → Prop} {M : rv_M} (hi : rv_md i = M) (hp : plainName M.1.cls = true) (ho : M.1.cls = rv_ow M) (hlen : Nat.ble (rv_en av).length (rv_ml M) = true)
    (h : rv_V G M mc ms Rt 0 (rv_e (rv_ml M) av) [] σ 0 0) : rv_Ct G i mc ms av σ Rt := by
  unfold rv_Ct
  rw [hi]
  refine Met.ofW (cc := rv_bt M) (maxL := rv_ml M) (ret := rv_rt M) hp rfl ?_
  intro p e s m args below meth c s₁ B hml hv
  obtain ⟨rfl, hR, hK, hN⟩ := hv
  have hts := atoms_spec (ws := rv_W M) B.pre
  have hl := lv_entry av (n := rv_ml M) (by rw [← rv_en_len]; exact Nat.le_of_ble_eq_true hlen)
  rw [lg_entry_eq]
  refine h (Nat.zero_le _) (Nat.zero_le _) _ p e s m _ below meth c ⟨⟨B.exec, B.bytes, hml, by rw [← ho]; exact findClass_of_methodNamed B.named, fun w hw => hts w (List.mem_cons_of_mem _ hw)⟩, B.notSynchronized, B.returns, (name_of_methodNamed B.named B.method).1, ⟨rfl, rfl, Nat.le_refl _, Nat.le_refl _⟩, hK, hN⟩ s.heap [] _ ⟨hl.1, hl.2.1, fun i v hi => ?_⟩ hR va_S.rf
  have hi2 : (rv_en av)[i]? = some (some v) := by
    unfold rv_e at hi
    by_cases hlt : i < (rv_en av).length
    · rw [List.getElem?_append_left hlt] at hi
      exact hi
    · rw [List.getElem?_append_right (by omega)] at hi
      have := List.mem_of_getElem? hi
      simp at this
  have := rv_en_at av 0 i v hi2
  exact hl.2.2 (i, v) (by simpa using this)
set_option maxHeartbeats 1000000 in
/-- the same, of a member of a class of the JDK's -/
theorem rv_ctF {G : rv_G} {i mc ms : Nat} {av : List Value} {σ : rv_S} {Rt : Option Value → rv_S → Prop} {M : rv_M} (hi : rv_md i = M) (hp : plainFor M.1 = true) (ho : M.1.cls = rv_ow M) (hlen : Nat.ble (rv_en av).length (rv_ml M) = true)
    (h : rv_V G M mc ms Rt 0 (rv_e (rv_ml M) av) [] σ 0 0) : rv_Ct G i mc ms av σ Rt := by
  unfold rv_Ct
  rw [hi]
  refine va_MetF (cc := rv_bt M) (maxL := rv_ml M) (ret := rv_rt M) hp rfl ?_
  intro p e s m args below meth c s₁ B hml hv
  obtain ⟨rfl, hR, hK, hN⟩ := hv
  have hts := atoms_spec (ws := rv_W M) B.pre
  have hl := lv_entry av (n := rv_ml M) (by rw [← rv_en_len]; exact Nat.le_of_ble_eq_true hlen)
  rw [lg_entry_eq]
  refine h (Nat.zero_le _) (Nat.zero_le _) _ p e s m _ below meth c ⟨⟨B.exec, B.bytes, hml, by rw [← ho]; exact findClass_of_methodNamed B.named, fun w hw => hts w (List.mem_cons_of_mem _ hw)⟩, B.notSynchronized, B.returns, (name_of_methodNamed B.named B.method).1, ⟨rfl, rfl, Nat.le_refl _, Nat.le_refl _⟩, hK, hN⟩ s.heap [] _ ⟨hl.1, hl.2.1, fun i v hi => ?_⟩ hR va_S.rf
  have hi2 : (rv_en av)[i]? = some (some v) := by
    unfold rv_e at hi
    by_cases hlt : i < (rv_en av).length
    · rw [List.getElem?_append_left hlt] at hi
      exact hi
    · rw [List.getElem?_append_right (by omega)] at hi
      have := List.mem_of_getElem? hi
      simp at this
  have := rv_en_at av 0 i v hi2
  exact hl.2.2 (i, v) (by simpa using this)
end
section
/-! THE FRAME: cells that may not be written stay; so a contract over some cells holds beside any others -/
theorem rv_Met_mono {l : Launch} {y : MethodName} {ws : List Cond} {rm : Room} {Pc Pc' : Array Value → State → Prop} {Qc Qc' : Array Value → State → Outcome → State → Prop} {mc ms : Nat} {free free' : Addr → Prop} (h : Met l y ws rm Pc Qc mc ms free) (hp : ∀ a s, Pc' a s → Pc a s) (hq : ∀ a s o t, Pc' a s → s.WarmedH t.vm → Qc a s o t → Qc' a s o t) (hf : ∀ q, free q → free' q) : Met l y ws rm Pc' Qc' mc ms free' := by
  intro p e h1 h2 h3 s m args below h4 h5 h6 h7
  obtain ⟨t, o, k1, k2, k3, k4, L, k5, k6⟩ := h p e h1 h2 h3 s m args below h4 h5 (hp _ _ h6) h7
  exact ⟨t, o, k1, k2, k3, hq _ _ _ _ h6 k5.2.1 k4, L, k5, fun q hq => hf _ (k6 q hq)⟩
theorem rv_Ct.mono {G : rv_G} {i mc ms : Nat} {av : List Value} {σ : rv_S} {Rt Rt' : Option Value → rv_S → Prop} (h : rv_Ct G i mc ms av σ Rt) (hq : ∀ r σ', Rt r σ' → Rt' r σ') : rv_Ct G i mc ms av σ Rt' :=
  rv_Met_mono h (fun _ _ q => q) (fun _ _ _ _ _ _ ⟨⟨r, σ', h1, h2, h3⟩, h4⟩ => ⟨⟨r, σ', h1, hq r σ' h2, h3⟩, h4⟩) (fun _ q => q)
/-- two heaps side by side: the first's cells where it has some -/
def rv_mrg (g g2 : Nat → Option rv_E) : Nat → Option rv_E := fun q => match g q with
  | some x => some x
  | none => g2 q
theorem rv_mrg_l {g g2 : Nat → Option rv_E} {q : Nat} {x : rv_E} (h : g q = some x) : rv_mrg g g2 q = some x := by simp [rv_mrg, h]
theorem rv_mrg_or {g g2 : Nat → Option rv_E} {q : Nat} {x : rv_E} (h : rv_mrg g g2 q = some x) : g q = some x ∨ g2 q = some x := by
  unfold rv_mrg at h
  split at h
  · rename_i y hy
    cases h
    exact Or.inl hy
  · exact Or.inr h
def rv_nt (x : rv_E) : Prop := ∀ (n : Nat) (f : Nat → Value), x ≠ .inr (rv_tag, n, f)
theorem rv_at.to {D : va_G} {A B : Nat → Prop} {U : State} {H : Heap} {q : Nat} {x : rv_E} (h : rv_at D A U H q x) (hB : rv_nt x → B q) : rv_at D B U H q x := by
  obtain ⟨ci, fs⟩ | ⟨ty, k, f⟩ := x
  · exact ⟨hB (fun n f hx => by cases hx), h.2⟩
  · rcases h with h | ⟨h1, h2, h3⟩
    · exact Or.inl h
    · exact Or.inr ⟨h1, hB (fun n f hx => by cases hx; exact h1 rfl), h3⟩
theorem rv_at.wr {D : va_G} {A : Nat → Prop} {U : State} {H : Heap} {q : Nat} {x : rv_E} (h : rv_at D A U H q x) (hx : rv_nt x) : A q := by
  obtain ⟨ci, fs⟩ | ⟨ty, k, f⟩ := x
  · exact h.1
  · rcases h with ⟨h1, -⟩ | ⟨h1, h2, h3⟩
    · subst h1; exact absurd rfl (hx k f)
    · exact h2
/-- A CONTRACT BESIDE OTHER CELLS: proved over the cells g, with A to be written; it holds over g and g2 together, and g2 stays -/
theorem rv_frame {l : Launch} {D : va_G} {A B : Nat → Prop} {i mc ms n : Nat} {av : List Value} {g g2 : Nat → Option rv_E} {Rt : Option Value → rv_S → Prop} (h : rv_Ct (l, D, A) i mc ms av (n, g) Rt) (hAB : ∀ q, A q → B q) (hA : ∀ q, n ≤ q → A q) (hnt : ∀ q x, g q = some x → rv_nt x) (hg : ∀ q x, g q = some x → rv_nt x → A q) (h2 : ∀ q x, g2 q = some x → ¬ A q) :
    rv_Ct (l, D, B) i mc ms av (n, rv_mrg g g2) (fun r σ' => ∃ g' : Nat → Option rv_E, Rt r (σ'.1, g') ∧ (∀ q x, g' q = some x → rv_nt x → A q) ∧ (∀ q, σ'.1 ≤ q → A q) ∧ σ'.2 = rv_mrg g' g2) := by
  refine rv_Met_mono h ?_ ?_ hAB
  · rintro a s ⟨h0, hR, hK, hN⟩
    exact ⟨h0, ⟨⟨hR.1.1, hA⟩, fun q x hx => (hR.2 q x (rv_mrg_l hx)).to (fun hn => hg q x hx hn)⟩, hK, hN⟩
  · rintro a s o t ⟨h0, hR, hK, hN⟩ hW ⟨⟨r, σ', e1, e2, e3⟩, hz, hk⟩
    refine ⟨⟨r, (σ'.1, rv_mrg σ'.2 g2), e1, ⟨σ'.2, e2, fun q x hx hn => (e3.2 q x hx).wr hn, e3.1.2, rfl⟩, ⟨e3.1.1, fun q hq => hAB q (e3.1.2 q hq)⟩, fun q x hx => ?_⟩, hz, fun q h1 h3 => hk q h1 (fun z => h3 (hAB q z))⟩
    by_cases hs : σ'.2 q = none
    · have hx2 : g2 q = some x := by
        rcases rv_mrg_or hx with h3 | h3
        · rw [hs] at h3; cases h3
        · exact h3
      have hgq : rv_mrg g g2 q = some x := by
        cases hgg : g q with
        | none => simp [rv_mrg, hgg, hx2]
        | some y =>
          exfalso
          exact h2 q x hx2 (hg q y hgg (hnt q y hgg))
      have hat := hR.2 q x hgq
      exact (hat.kept (hk q hat.lt (h2 q x hx2))).moved hW.alike
    · obtain ⟨y, hy⟩ := Option.ne_none_iff_exists'.mp hs
      have : y = x := by
        have h3 : rv_mrg σ'.2 g2 q = some y := rv_mrg_l hy
        exact Option.some.inj (h3.symm.trans hx)
      subst this
      exact (e3.2 q y hy).to (fun hn => hAB q ((e3.2 q y hy).wr hn))
end
section
/-! LEAVES: the objects' pictures, and the contracts of the small methods (rows laid by leaf.py) -/
def rv_max (x y : Int32) : Int32 := if x < y then y else x
def rv_min (x y : Int32) : Int32 := if y < x then y else x
def rv_maxL (x y : Int64) : Int64 := if x < y then y else x
def rv_minL (x y : Int64) : Int64 := if y < x then y else x
def rv_fdiv (x y : Int32) : Int32 := if 0 ≤ x ^^^ y ∨ x / y * y = x then x / y else x / y - 1
theorem rv_cmp_lt (x y : Int64) : lg_cmp x y < 0 ↔ x < y := by
  unfold lg_cmp
  by_cases h1 : x > y
  · rw [if_pos h1]
    exact ⟨fun h => absurd h (by decide), fun h => absurd h (Int64.not_lt.mpr (Int64.le_of_lt h1))⟩
  · rw [if_neg h1]
    by_cases h2 : x = y
    · subst h2
      rw [if_pos rfl]
      exact ⟨fun h => absurd h (by decide), fun h => absurd h h1⟩
    · rw [if_neg h2]
      exact ⟨fun _ => by
        rcases Int64.lt_or_eq_of_le (Int64.not_lt.mp h1) with h | h
        · exact h
        · exact absurd h h2, fun _ => by decide⟩
theorem rv_cmp_gt (x y : Int64) : 0 < lg_cmp x y ↔ y < x := by
  unfold lg_cmp
  by_cases h1 : x > y
  · rw [if_pos h1]
    exact ⟨fun _ => h1, fun _ => by decide⟩
  · rw [if_neg h1]
    refine ⟨fun h => ?_, fun h => absurd h h1⟩
    by_cases h2 : x = y
    · rw [if_pos h2] at h; exact absurd h (by decide)
    · rw [if_neg h2] at h; exact absurd h (by decide)
theorem rv_bn {b : Bool} (h : ¬ rv_b b = 0) : b = true := by cases b <;> simp [rv_b] at h ⊢
def oOp (n k s st l r m : Int32) : rv_E := .inl (k_Operator, [.int n, .int k, .int s, .int st, .int l, .int r, .int m])
def oTally (c : Int32) (s : Int64) (l g : Int32) : rv_E := .inl (k_Tally, [.int c, .long s, .int l, .int g])
def oWin (o k b e : Int32) (t ch : Bool) (h tl : Nat) : rv_E := .inl (k_Window, [.int o, .int k, .int b, .int e, .int (rv_b t), .int (rv_b ch), .ref h, .ref tl])
def oJoin (f s b e : Int32) (t : Bool) : rv_E := .inl (k_Join, [.int f, .int s, .int b, .int e, .int (rv_b t)])
def oRow (src : Nat) (k t v : Int32) (u : Bool) : rv_E := .inl (k_Row, [.ref src, .int k, .int t, .int v, .int (rv_b u)])
def oRowLog (a : Nat) (n : Int32) : rv_E := .inl (k_RowLog, [.ref a, .int n])
def oSource (n : Int32) (o : Nat) (pr : Int32) (en sp : Bool) (us as br fi : Int32) : rv_E := .inl (k_Source, [.int n, .ref o, .int pr, .int (rv_b en), .int (rv_b sp), .int us, .int as, .int br, .int fi])
def oRing (rm w : Int32) (c : Nat) (el la sz : Int32) : rv_E := .inl (k_Ring, [.int rm, .int w, .ref c, .int el, .int la, .int sz])
def oWL (a : Nat) (n : Int32) : rv_E := .inl (k_WindowList, [.ref a, .int n])
/-- (operator, key, begin) in their order -/
def rv_before (o k b o2 k2 b2 : Int32) : Bool := if o = o2 then (if k = k2 then decide (b < b2) else decide (k < k2)) else decide (o < o2)
def rv_after (k t k2 t2 : Int32) : Bool := if k = k2 then decide (t2 < t) else decide (k2 < k)

set_option maxRecDepth 100000 in
theorem ct_max {G : rv_G} {σ : rv_S} (x y : Int32) : rv_Ct G i_Math_max_III 0 0 [.int x, .int y] σ (fun r σ' => r = some (.int (rv_max x y)) ∧ σ' = σ) := by
  refine rv_ctF (M := m_Math_max_III) rfl (by decide +kernel) rfl rfl ?_
  refine rv_V.run rv_gd_Math_max_III [] 400 ?_
  refine And.intro (fun c1 => ?_) (fun c1 => ?_)
  · refine And.intro trivial ?_
    -- path T ret .int y
    exact ⟨by rw [rv_max, if_pos c1], rfl⟩
  · refine And.intro trivial ?_
    -- path F ret .int x
    exact ⟨by rw [rv_max, if_neg c1], rfl⟩

set_option maxRecDepth 100000 in
theorem ct_min {G : rv_G} {σ : rv_S} (x y : Int32) : rv_Ct G i_Math_min_III 0 0 [.int x, .int y] σ (fun r σ' => r = some (.int (rv_min x y)) ∧ σ' = σ) := by
  refine rv_ctF (M := m_Math_min_III) rfl (by decide +kernel) rfl rfl ?_
  refine rv_V.run rv_gd_Math_min_III [] 400 ?_
  refine And.intro (fun c1 => ?_) (fun c1 => ?_)
  · refine And.intro trivial ?_
    -- path T ret .int y
    exact ⟨by rw [rv_min, if_pos c1], rfl⟩
  · refine And.intro trivial ?_
    -- path F ret .int x
    exact ⟨by rw [rv_min, if_neg c1], rfl⟩

set_option maxRecDepth 100000 in
theorem ct_maxL {G : rv_G} {σ : rv_S} (x y : Int64) : rv_Ct G i_Math_max_JJJ 0 0 [.long x, .long y] σ (fun r σ' => r = some (.long (rv_maxL x y)) ∧ σ' = σ) := by
  refine rv_ctF (M := m_Math_max_JJJ) rfl (by decide +kernel) rfl rfl ?_
  refine rv_V.run rv_gd_Math_max_JJJ [] 400 ?_
  refine And.intro (fun c1 => ?_) (fun c1 => ?_)
  · -- path T ret .long y
    exact ⟨by rw [rv_maxL, if_pos ((rv_cmp_lt x y).mp c1)], rfl⟩
  · -- path F ret .long x
    exact ⟨by rw [rv_maxL, if_neg (fun q => c1 ((rv_cmp_lt x y).mpr q))], rfl⟩

set_option maxRecDepth 100000 in
theorem ct_minL {G : rv_G} {σ : rv_S} (x y : Int64) : rv_Ct G i_Math_min_JJJ 0 0 [.long x, .long y] σ (fun r σ' => r = some (.long (rv_minL x y)) ∧ σ' = σ) := by
  refine rv_ctF (M := m_Math_min_JJJ) rfl (by decide +kernel) rfl rfl ?_
  refine rv_V.run rv_gd_Math_min_JJJ [] 400 ?_
  refine And.intro (fun c1 => ?_) (fun c1 => ?_)
  · -- path T ret .long y
    exact ⟨by rw [rv_minL, if_pos ((rv_cmp_gt x y).mp c1)], rfl⟩
  · -- path F ret .long x
    exact ⟨by rw [rv_minL, if_neg (fun q => c1 ((rv_cmp_gt x y).mpr q))], rfl⟩

set_option maxRecDepth 100000 in
theorem ct_floorDiv {G : rv_G} {σ : rv_S} (x y : Int32) (hy : ¬ y = 0) : rv_Ct G i_Math_floorDiv 0 0 [.int x, .int y] σ (fun r σ' => r = some (.int (rv_fdiv x y)) ∧ σ' = σ) := by
  refine rv_ctF (M := m_Math_floorDiv) rfl (by decide +kernel) rfl rfl ?_
  refine rv_V.run rv_gd_Math_floorDiv [] 400 ?_
  refine And.intro hy ?_
  refine And.intro (fun c1 => ?_) (fun c1 => ?_)
  · refine And.intro trivial ?_
    -- path T ret .int (x / y)
    exact ⟨by rw [rv_fdiv, if_pos (Or.inl c1)], rfl⟩
  · refine And.intro (fun c2 => ?_) (fun c2 => ?_)
    · refine And.intro trivial ?_
      -- path FT ret .int (x / y)
      exact ⟨by rw [rv_fdiv, if_pos (Or.inr c2)], rfl⟩
    · refine And.intro trivial ?_
      -- path FF ret .int ((x / y) - 1)
      exact ⟨by rw [rv_fdiv, if_neg (fun q => q.elim c1 c2)], rfl⟩

set_option maxRecDepth 100000 in
theorem ct_Operator_init {G : rv_G} {σ : rv_S} (x : Nat) (n k s sp l r0 : Int32) (hx : σ.2 x = some (oOp 0 0 0 0 0 0 0)) : rv_Ct G i_Operator_init 0 0 [.ref x, .int n, .int k, .int s, .int sp, .int l, .int r0] σ (fun r σ' => r = none ∧ σ' = (σ.1, rv_up σ.2 x (oOp n k s (if k = 1 then sp else s) l r0 0))) := by
  refine rv_ct (M := m_Operator_init) rfl (by decide) rfl rfl ?_
  refine rv_V.run rv_gd_Operator_init [] 400 ?_
  refine Exists.intro _ (And.intro hx (And.intro trivial ?_))
  refine Exists.intro _ (And.intro rv_up_s (And.intro trivial ?_))
  rw [rv_up_up]
  refine Exists.intro _ (And.intro rv_up_s (And.intro trivial ?_))
  rw [rv_up_up]
  refine Exists.intro _ (And.intro rv_up_s (And.intro trivial ?_))
  rw [rv_up_up]
  refine And.intro (fun c1 => ?_) (fun c1 => ?_)
  · refine Exists.intro _ (And.intro rv_up_s (And.intro trivial ?_))
    rw [rv_up_up]
    refine Exists.intro _ (And.intro rv_up_s (And.intro trivial ?_))
    rw [rv_up_up]
    refine Exists.intro _ (And.intro rv_up_s (And.intro trivial ?_))
    rw [rv_up_up]
    -- path T ret None
    rw [if_pos c1]
    exact ⟨rfl, rfl⟩
  · refine Exists.intro _ (And.intro rv_up_s (And.intro trivial ?_))
    rw [rv_up_up]
    refine Exists.intro _ (And.intro rv_up_s (And.intro trivial ?_))
    rw [rv_up_up]
    refine Exists.intro _ (And.intro rv_up_s (And.intro trivial ?_))
    rw [rv_up_up]
    -- path F ret None
    rw [if_neg c1]
    exact ⟨rfl, rfl⟩

set_option maxRecDepth 100000 in
theorem ct_hasReached {G : rv_G} {σ : rv_S} (x : Nat) (n k s st l r0 m : Int32) (e : Int32) (hx : σ.2 x = some (oOp n k s st l r0 m)) : rv_Ct G i_Operator_hasReached 0 0 [.ref x, .int e] σ (fun r σ' => r = some (.int (rv_b (decide (e ≤ m)))) ∧ σ' = σ) := by
  refine rv_ct (M := m_Operator_hasReached) rfl (by decide) rfl rfl ?_
  refine rv_V.run rv_gd_Operator_hasReached [] 400 ?_
  refine Exists.intro _ (And.intro hx ?_)
  refine And.intro (fun c1 => ?_) (fun c1 => ?_)
  · refine And.intro (Or.inl rfl) ?_
    -- path T ret .int 0
    exact ⟨by rw [decide_eq_false (Int32.not_le.mpr c1)]; rfl, rfl⟩
  · refine And.intro (Or.inr rfl) ?_
    -- path F ret .int 1
    exact ⟨by rw [decide_eq_true (Int32.not_lt.mp c1)]; rfl, rfl⟩

set_option maxRecDepth 100000 in
theorem ct_closes {G : rv_G} {σ : rv_S} (x : Nat) (n k s st l r0 m : Int32) (e : Int32) (hx : σ.2 x = some (oOp n k s st l r0 m)) : rv_Ct G i_Operator_closes 0 0 [.ref x, .int e] σ (fun r σ' => r = some (.int (rv_b (decide (e + l ≤ m)))) ∧ σ' = σ) := by
  refine rv_ct (M := m_Operator_closes) rfl (by decide) rfl rfl ?_
  refine rv_V.run rv_gd_Operator_closes [] 400 ?_
  refine Exists.intro _ (And.intro hx ?_)
  refine Exists.intro _ (And.intro hx ?_)
  refine And.intro (fun c1 => ?_) (fun c1 => ?_)
  · refine And.intro (Or.inl rfl) ?_
    -- path T ret .int 0
    exact ⟨by rw [decide_eq_false (Int32.not_le.mpr c1)]; rfl, rfl⟩
  · refine And.intro (Or.inr rfl) ?_
    -- path F ret .int 1
    exact ⟨by rw [decide_eq_true (Int32.not_lt.mp c1)]; rfl, rfl⟩

set_option maxRecDepth 100000 in
theorem ct_firstBegin {G : rv_G} {σ : rv_S} (x : Nat) (n k s st l r0 m : Int32) (t : Int32) (hx : σ.2 x = some (oOp n k s st l r0 m)) (h1 : 1 ≤ st) (h0 : ¬ st = 0) : rv_Ct G i_Operator_firstBegin 0 0 [.ref x, .int t] σ (fun r σ' => r = some (.int ((rv_fdiv (t - s) st + 1) * st)) ∧ σ' = σ) := by
  refine rv_ct (M := m_Operator_firstBegin) rfl (by decide) rfl rfl ?_
  refine rv_V.run rv_gd_Operator_firstBegin [] 400 ?_
  refine Exists.intro _ (And.intro hx ?_)
  refine And.intro (fun c1 => ?_) (fun c1 => ?_)
  · refine Exists.intro _ (And.intro hx ?_)
    refine Exists.intro _ (And.intro hx ?_)
    refine ⟨_, _, _, ct_floorDiv _ _ h0, Nat.zero_le _, Nat.zero_le _, rfl, ?_⟩
    rintro _ _ ⟨rfl, rfl⟩
    refine Exists.intro _ (And.intro hx ?_)
    refine And.intro trivial ?_
    -- path T ret .int (((rv_fdiv (t - s) st) + 1) * st)
    exact ⟨rfl, rfl⟩
  · refine And.intro trivial ?_
    -- path F ret .int t
    exact absurd h1 c1

set_option maxRecDepth 100000 in
theorem ct_Source_init {G : rv_G} {σ : rv_S} (x : Nat) (n : Int32) (o : Nat) (hx : σ.2 x = some (.inl (k_Source, [.int 0, .null, .int 0, .int 0, .int 0, .int 0, .int 0, .int 0, .int 0]))) : rv_Ct G i_Source_init 0 0 [.ref x, .int n, .ref o] σ (fun r σ' => r = none ∧ σ' = (σ.1, rv_up σ.2 x (oSource n o 0 false false 0 0 0 (-99999999)))) := by
  refine rv_ct (M := m_Source_init) rfl (by decide) rfl rfl ?_
  refine rv_V.run rv_gd_Source_init [] 400 ?_
  refine Exists.intro _ (And.intro hx (And.intro trivial ?_))
  refine Exists.intro _ (And.intro rv_up_s (And.intro (Or.inl rfl) ?_))
  rw [rv_up_up]
  refine Exists.intro _ (And.intro rv_up_s (And.intro (Or.inl rfl) ?_))
  rw [rv_up_up]
  refine Exists.intro _ (And.intro rv_up_s (And.intro trivial ?_))
  rw [rv_up_up]
  refine Exists.intro _ (And.intro rv_up_s (And.intro trivial ?_))
  rw [rv_up_up]
  refine Exists.intro _ (And.intro rv_up_s (And.intro trivial ?_))
  rw [rv_up_up]
  refine Exists.intro _ (And.intro rv_up_s (And.intro trivial ?_))
  rw [rv_up_up]
  refine Exists.intro _ (And.intro rv_up_s (And.intro trivial ?_))
  rw [rv_up_up]
  refine Exists.intro _ (And.intro rv_up_s (And.intro trivial ?_))
  rw [rv_up_up]
  -- path  ret None
  exact ⟨rfl, rfl⟩

set_option maxRecDepth 100000 in
theorem ct_noteRow {G : rv_G} {σ : rv_S} (x : Nat) (n : Int32) (o : Nat) (pr : Int32) (en sp : Bool) (us as br fi : Int32) (t : Int32) (u : Bool) (hx : σ.2 x = some (oSource n o pr en sp us as br fi)) : rv_Ct G i_Source_noteRow 0 0 [.ref x, .int t, .int (rv_b u)] σ (fun r σ' => r = none ∧ σ' = (σ.1, rv_up σ.2 x (oSource n o pr en sp (if u = true then us + 1 else us) (if u = true then as else as + 1) (if t < pr then br + 1 else br) (if t < pr ∧ br = 0 then t else fi)))) := by
  refine rv_ct (M := m_Source_noteRow) rfl (by decide) rfl rfl ?_
  refine rv_V.run rv_gd_Source_noteRow [] 400 ?_
  refine And.intro (fun c1 => ?_) (fun c1 => ?_)
  · refine Exists.intro _ (And.intro hx ?_)
    refine Exists.intro _ (And.intro hx (And.intro trivial ?_))
    refine Exists.intro _ (And.intro rv_up_s ?_)
    refine And.intro (fun c2 => ?_) (fun c2 => ?_)
    · -- path TT ret None
      rw [rv_b0.mp c1, if_neg (by decide), if_neg (by decide), if_neg (Int32.not_lt.mpr c2), if_neg (fun q => absurd q.1 (Int32.not_lt.mpr c2))]
      exact ⟨rfl, rfl⟩
    · refine Exists.intro _ (And.intro rv_up_s ?_)
      refine And.intro (fun c3 => ?_) (fun c3 => ?_)
      · refine Exists.intro _ (And.intro rv_up_s (And.intro trivial ?_))
        rw [rv_up_up]
        refine Exists.intro _ (And.intro rv_up_s ?_)
        refine Exists.intro _ (And.intro rv_up_s (And.intro trivial ?_))
        rw [rv_up_up]
        -- path TFT ret None
        rw [rv_b0.mp c1, if_neg (by decide), if_neg (by decide), if_pos (Int32.not_le.mp c2), if_pos ⟨Int32.not_le.mp c2, c3⟩]
        exact ⟨rfl, rfl⟩
      · refine Exists.intro _ (And.intro rv_up_s ?_)
        refine Exists.intro _ (And.intro rv_up_s (And.intro trivial ?_))
        rw [rv_up_up]
        -- path TFF ret None
        rw [rv_b0.mp c1, if_neg (by decide), if_neg (by decide), if_pos (Int32.not_le.mp c2), if_neg (fun q => c3 q.2)]
        exact ⟨rfl, rfl⟩
  · refine Exists.intro _ (And.intro hx ?_)
    refine Exists.intro _ (And.intro hx (And.intro trivial ?_))
    refine Exists.intro _ (And.intro rv_up_s ?_)
    refine And.intro (fun c4 => ?_) (fun c4 => ?_)
    · -- path FT ret None
      rw [rv_bn c1, if_pos rfl, if_pos rfl, if_neg (Int32.not_lt.mpr c4), if_neg (fun q => absurd q.1 (Int32.not_lt.mpr c4))]
      exact ⟨rfl, rfl⟩
    · refine Exists.intro _ (And.intro rv_up_s ?_)
      refine And.intro (fun c5 => ?_) (fun c5 => ?_)
      · refine Exists.intro _ (And.intro rv_up_s (And.intro trivial ?_))
        rw [rv_up_up]
        refine Exists.intro _ (And.intro rv_up_s ?_)
        refine Exists.intro _ (And.intro rv_up_s (And.intro trivial ?_))
        rw [rv_up_up]
        -- path FFT ret None
        rw [rv_bn c1, if_pos rfl, if_pos rfl, if_pos (Int32.not_le.mp c4), if_pos ⟨Int32.not_le.mp c4, c5⟩]
        exact ⟨rfl, rfl⟩
      · refine Exists.intro _ (And.intro rv_up_s ?_)
        refine Exists.intro _ (And.intro rv_up_s (And.intro trivial ?_))
        rw [rv_up_up]
        -- path FFF ret None
        rw [rv_bn c1, if_pos rfl, if_pos rfl, if_pos (Int32.not_le.mp c4), if_neg (fun q => c5 q.2)]
        exact ⟨rfl, rfl⟩

set_option maxRecDepth 100000 in
theorem ct_Tally_init {G : rv_G} {σ : rv_S} (x : Nat) (hx : σ.2 x = some (oTally 0 0 0 0)) : rv_Ct G i_Tally_init 0 0 [.ref x] σ (fun r σ' => r = none ∧ σ' = (σ.1, rv_up σ.2 x (oTally 0 0 0 0))) := by
  refine rv_ct (M := m_Tally_init) rfl (by decide) rfl rfl ?_
  refine rv_V.run rv_gd_Tally_init [] 400 ?_
  refine Exists.intro _ (And.intro hx (And.intro trivial ?_))
  refine Exists.intro _ (And.intro rv_up_s (And.intro trivial ?_))
  rw [rv_up_up]
  refine Exists.intro _ (And.intro rv_up_s (And.intro trivial ?_))
  rw [rv_up_up]
  refine Exists.intro _ (And.intro rv_up_s (And.intro trivial ?_))
  rw [rv_up_up]
  -- path  ret None
  exact ⟨rfl, rfl⟩

set_option maxRecDepth 100000 in
theorem ct_Tally_clear {G : rv_G} {σ : rv_S} (x : Nat) (c : Int32) (s : Int64) (l g : Int32) (hx : σ.2 x = some (oTally c s l g)) : rv_Ct G i_Tally_clear 0 0 [.ref x] σ (fun r σ' => r = none ∧ σ' = (σ.1, rv_up σ.2 x (oTally 0 0 0 0))) := by
  refine rv_ct (M := m_Tally_clear) rfl (by decide) rfl rfl ?_
  refine rv_V.run rv_gd_Tally_clear [] 400 ?_
  refine Exists.intro _ (And.intro hx (And.intro trivial ?_))
  refine Exists.intro _ (And.intro rv_up_s (And.intro trivial ?_))
  rw [rv_up_up]
  refine Exists.intro _ (And.intro rv_up_s (And.intro trivial ?_))
  rw [rv_up_up]
  refine Exists.intro _ (And.intro rv_up_s (And.intro trivial ?_))
  rw [rv_up_up]
  -- path  ret None
  exact ⟨rfl, rfl⟩

set_option maxRecDepth 100000 in
theorem ct_Tally_copy {G : rv_G} {σ : rv_S} (x y : Nat) (c : Int32) (s : Int64) (l g : Int32) (c2 : Int32) (s2 : Int64) (l2 g2 : Int32) (hx : σ.2 x = some (oTally c s l g)) (hy : σ.2 y = some (oTally c2 s2 l2 g2)) (hxy : y ≠ x) : rv_Ct G i_Tally_copy 0 0 [.ref x, .ref y] σ (fun r σ' => r = none ∧ σ' = (σ.1, rv_up σ.2 x (oTally c2 s2 l2 g2))) := by
  refine rv_ct (M := m_Tally_copy) rfl (by decide) rfl rfl ?_
  refine rv_V.run rv_gd_Tally_copy [] 400 ?_
  refine Exists.intro _ (And.intro hy ?_)
  refine Exists.intro _ (And.intro hx (And.intro trivial ?_))
  refine Exists.intro _ (And.intro ((rv_up_n hxy).trans hy) ?_)
  refine Exists.intro _ (And.intro rv_up_s (And.intro trivial ?_))
  rw [rv_up_up]
  refine Exists.intro _ (And.intro ((rv_up_n hxy).trans hy) ?_)
  refine Exists.intro _ (And.intro rv_up_s (And.intro trivial ?_))
  rw [rv_up_up]
  refine Exists.intro _ (And.intro ((rv_up_n hxy).trans hy) ?_)
  refine Exists.intro _ (And.intro rv_up_s (And.intro trivial ?_))
  rw [rv_up_up]
  -- path  ret None
  exact ⟨rfl, rfl⟩

set_option maxRecDepth 100000 in
theorem ct_Tally_add {G : rv_G} {σ : rv_S} (x : Nat) (c : Int32) (s : Int64) (l g : Int32) (v : Int32) (hx : σ.2 x = some (oTally c s l g)) : rv_Ct G i_Tally_add 0 0 [.ref x, .int v] σ (fun r σ' => r = none ∧ σ' = (σ.1, rv_up σ.2 x (oTally (c + 1) (s + v.toInt64) (if c = 0 then v else rv_min l v) (if c = 0 then v else rv_max g v)))) := by
  refine rv_ct (M := m_Tally_add) rfl (by decide) rfl rfl ?_
  refine rv_V.run rv_gd_Tally_add [] 400 ?_
  refine Exists.intro _ (And.intro hx ?_)
  refine And.intro (fun c1 => ?_) (fun c1 => ?_)
  · refine Exists.intro _ (And.intro hx (And.intro trivial ?_))
    refine Exists.intro _ (And.intro rv_up_s ?_)
    refine And.intro (fun c2 => ?_) (fun c2 => ?_)
    · refine Exists.intro _ (And.intro rv_up_s (And.intro trivial ?_))
      rw [rv_up_up]
      refine Exists.intro _ (And.intro rv_up_s ?_)
      refine Exists.intro _ (And.intro rv_up_s (And.intro trivial ?_))
      rw [rv_up_up]
      refine Exists.intro _ (And.intro rv_up_s ?_)
      refine Exists.intro _ (And.intro rv_up_s (And.intro trivial ?_))
      rw [rv_up_up]
      -- path TT ret None
      rw [if_pos c1, if_pos c1]
      exact ⟨rfl, rfl⟩
    · refine Exists.intro _ (And.intro rv_up_s ?_)
      refine ⟨_, _, _, ct_max _ _, Nat.zero_le _, Nat.zero_le _, rfl, ?_⟩
      rintro _ _ ⟨rfl, rfl⟩
      refine Exists.intro _ (And.intro rv_up_s (And.intro trivial ?_))
      rw [rv_up_up]
      refine Exists.intro _ (And.intro rv_up_s ?_)
      refine Exists.intro _ (And.intro rv_up_s (And.intro trivial ?_))
      rw [rv_up_up]
      refine Exists.intro _ (And.intro rv_up_s ?_)
      refine Exists.intro _ (And.intro rv_up_s (And.intro trivial ?_))
      rw [rv_up_up]
      -- path TF ret None
      exact absurd c1 c2
  · refine Exists.intro _ (And.intro hx ?_)
    refine ⟨_, _, _, ct_min _ _, Nat.zero_le _, Nat.zero_le _, rfl, ?_⟩
    rintro _ _ ⟨rfl, rfl⟩
    refine Exists.intro _ (And.intro hx (And.intro trivial ?_))
    refine Exists.intro _ (And.intro rv_up_s ?_)
    refine And.intro (fun c3 => ?_) (fun c3 => ?_)
    · refine Exists.intro _ (And.intro rv_up_s (And.intro trivial ?_))
      rw [rv_up_up]
      refine Exists.intro _ (And.intro rv_up_s ?_)
      refine Exists.intro _ (And.intro rv_up_s (And.intro trivial ?_))
      rw [rv_up_up]
      refine Exists.intro _ (And.intro rv_up_s ?_)
      refine Exists.intro _ (And.intro rv_up_s (And.intro trivial ?_))
      rw [rv_up_up]
      -- path FT ret None
      exact absurd c3 c1
    · refine Exists.intro _ (And.intro rv_up_s ?_)
      refine ⟨_, _, _, ct_max _ _, Nat.zero_le _, Nat.zero_le _, rfl, ?_⟩
      rintro _ _ ⟨rfl, rfl⟩
      refine Exists.intro _ (And.intro rv_up_s (And.intro trivial ?_))
      rw [rv_up_up]
      refine Exists.intro _ (And.intro rv_up_s ?_)
      refine Exists.intro _ (And.intro rv_up_s (And.intro trivial ?_))
      rw [rv_up_up]
      refine Exists.intro _ (And.intro rv_up_s ?_)
      refine Exists.intro _ (And.intro rv_up_s (And.intro trivial ?_))
      rw [rv_up_up]
      -- path FF ret None
      rw [if_neg c1, if_neg c1]
      exact ⟨rfl, rfl⟩

set_option maxRecDepth 100000 in
theorem ct_Tally_addAll {G : rv_G} {σ : rv_S} (x y : Nat) (c : Int32) (s : Int64) (l g : Int32) (c2 : Int32) (s2 : Int64) (l2 g2 : Int32) (hx : σ.2 x = some (oTally c s l g)) (hy : σ.2 y = some (oTally c2 s2 l2 g2)) (hxy : y ≠ x) : rv_Ct G i_Tally_addAll 0 0 [.ref x, .ref y] σ (fun r σ' => r = none ∧ σ' = (σ.1, rv_up σ.2 x (oTally (c + c2) (s + s2) (rv_min l l2) (rv_max g g2)))) := by
  refine rv_ct (M := m_Tally_addAll) rfl (by decide) rfl rfl ?_
  refine rv_V.run rv_gd_Tally_addAll [] 400 ?_
  refine Exists.intro _ (And.intro hx ?_)
  refine Exists.intro _ (And.intro hy ?_)
  refine ⟨_, _, _, ct_min _ _, Nat.zero_le _, Nat.zero_le _, rfl, ?_⟩
  rintro _ _ ⟨rfl, rfl⟩
  refine Exists.intro _ (And.intro hx (And.intro trivial ?_))
  refine Exists.intro _ (And.intro rv_up_s ?_)
  refine Exists.intro _ (And.intro ((rv_up_n hxy).trans hy) ?_)
  refine ⟨_, _, _, ct_max _ _, Nat.zero_le _, Nat.zero_le _, rfl, ?_⟩
  rintro _ _ ⟨rfl, rfl⟩
  refine Exists.intro _ (And.intro rv_up_s (And.intro trivial ?_))
  rw [rv_up_up]
  refine Exists.intro _ (And.intro rv_up_s ?_)
  refine Exists.intro _ (And.intro ((rv_up_n hxy).trans hy) ?_)
  refine Exists.intro _ (And.intro rv_up_s (And.intro trivial ?_))
  rw [rv_up_up]
  refine Exists.intro _ (And.intro rv_up_s ?_)
  refine Exists.intro _ (And.intro ((rv_up_n hxy).trans hy) ?_)
  refine Exists.intro _ (And.intro rv_up_s (And.intro trivial ?_))
  rw [rv_up_up]
  -- path  ret None
  exact ⟨rfl, rfl⟩

set_option maxRecDepth 100000 in
theorem ct_belongsTo {G : rv_G} {σ : rv_S} (x : Nat) (o k b e : Int32) (t ch : Bool) (h tl : Nat) (o2 k2 : Int32) (hx : σ.2 x = some (oWin o k b e t ch h tl)) : rv_Ct G i_Window_belongsTo 0 0 [.ref x, .int o2, .int k2] σ (fun r σ' => r = some (.int (rv_b (decide (o = o2 ∧ k = k2)))) ∧ σ' = σ) := by
  refine rv_ct (M := m_Window_belongsTo) rfl (by decide) rfl rfl ?_
  refine rv_V.run rv_gd_Window_belongsTo [] 400 ?_
  refine Exists.intro _ (And.intro hx ?_)
  refine And.intro (fun c1 => ?_) (fun c1 => ?_)
  · refine Exists.intro _ (And.intro hx ?_)
    refine And.intro (fun c2 => ?_) (fun c2 => ?_)
    · refine And.intro (Or.inr rfl) ?_
      -- path TT ret .int 1
      exact ⟨by rw [decide_eq_true ⟨c1, c2⟩]; rfl, rfl⟩
    · refine And.intro (Or.inl rfl) ?_
      -- path TF ret .int 0
      exact ⟨by rw [decide_eq_false (fun q => c2 q.2)]; rfl, rfl⟩
  · refine And.intro (Or.inl rfl) ?_
    -- path F ret .int 0
    exact ⟨by rw [decide_eq_false (fun q => c1 q.1)]; rfl, rfl⟩

set_option maxRecDepth 100000 in
theorem ct_standsBefore {G : rv_G} {σ : rv_S} (x : Nat) (o k b e : Int32) (t ch : Bool) (h tl : Nat) (o2 k2 b2 : Int32) (hx : σ.2 x = some (oWin o k b e t ch h tl)) : rv_Ct G i_Window_standsBefore 0 0 [.ref x, .int o2, .int k2, .int b2] σ (fun r σ' => r = some (.int (rv_b (rv_before o k b o2 k2 b2))) ∧ σ' = σ) := by
  refine rv_ct (M := m_Window_standsBefore) rfl (by decide) rfl rfl ?_
  refine rv_V.run rv_gd_Window_standsBefore [] 400 ?_
  refine Exists.intro _ (And.intro hx ?_)
  refine And.intro (fun c1 => ?_) (fun c1 => ?_)
  · refine Exists.intro _ (And.intro hx ?_)
    refine And.intro (fun c2 => ?_) (fun c2 => ?_)
    · refine Exists.intro _ (And.intro hx ?_)
      refine And.intro (fun c3 => ?_) (fun c3 => ?_)
      · refine And.intro (Or.inl rfl) ?_
        -- path TTT ret .int 0
        exact ⟨by rw [rv_before, if_pos c1, if_pos c2, decide_eq_false (Int32.not_lt.mpr c3)]; rfl, rfl⟩
      · refine And.intro (Or.inr rfl) ?_
        -- path TTF ret .int 1
        exact ⟨by rw [rv_before, if_pos c1, if_pos c2, decide_eq_true (Int32.not_le.mp c3)]; rfl, rfl⟩
    · refine Exists.intro _ (And.intro hx ?_)
      refine And.intro (fun c4 => ?_) (fun c4 => ?_)
      · refine And.intro (Or.inl rfl) ?_
        -- path TFT ret .int 0
        exact ⟨by rw [rv_before, if_pos c1, if_neg c2, decide_eq_false (Int32.not_lt.mpr c4)]; rfl, rfl⟩
      · refine And.intro (Or.inr rfl) ?_
        -- path TFF ret .int 1
        exact ⟨by rw [rv_before, if_pos c1, if_neg c2, decide_eq_true (Int32.not_le.mp c4)]; rfl, rfl⟩
  · refine Exists.intro _ (And.intro hx ?_)
    refine And.intro (fun c5 => ?_) (fun c5 => ?_)
    · refine And.intro (Or.inl rfl) ?_
      -- path FT ret .int 0
      exact ⟨by rw [rv_before, if_neg c1, decide_eq_false (Int32.not_lt.mpr c5)]; rfl, rfl⟩
    · refine And.intro (Or.inr rfl) ?_
      -- path FF ret .int 1
      exact ⟨by rw [rv_before, if_neg c1, decide_eq_true (Int32.not_le.mp c5)]; rfl, rfl⟩

set_option maxRecDepth 100000 in
theorem ct_Window_start {G : rv_G} {σ : rv_S} (x : Nat) (o k b e : Int32) (t ch : Bool) (h tl : Nat) (o2 k2 b2 e2 : Int32) (c : Int32) (s : Int64) (l g : Int32) (c2 : Int32) (s2 : Int64) (l2 g2 : Int32) (hx : σ.2 x = some (oWin o k b e t ch h tl)) (hh : σ.2 h = some (oTally c s l g)) (ht : σ.2 tl = some (oTally c2 s2 l2 g2)) (n1 : h ≠ x) (n2 : tl ≠ x) (n3 : tl ≠ h) : rv_Ct G i_Window_start 0 0 [.ref x, .int o2, .int k2, .int b2, .int e2] σ (fun r σ' => r = none ∧ σ' = (σ.1, rv_up (rv_up (rv_up σ.2 x (oWin o2 k2 b2 e2 false false h tl)) h (oTally 0 0 0 0)) tl (oTally 0 0 0 0))) := by
  refine rv_ct (M := m_Window_start) rfl (by decide) rfl rfl ?_
  refine rv_V.run rv_gd_Window_start [] 400 ?_
  refine Exists.intro _ (And.intro hx (And.intro trivial ?_))
  refine Exists.intro _ (And.intro rv_up_s (And.intro trivial ?_))
  rw [rv_up_up]
  refine Exists.intro _ (And.intro rv_up_s (And.intro trivial ?_))
  rw [rv_up_up]
  refine Exists.intro _ (And.intro rv_up_s (And.intro trivial ?_))
  rw [rv_up_up]
  refine Exists.intro _ (And.intro rv_up_s (And.intro (Or.inl rfl) ?_))
  rw [rv_up_up]
  refine Exists.intro _ (And.intro rv_up_s (And.intro (Or.inl rfl) ?_))
  rw [rv_up_up]
  refine Exists.intro _ (And.intro rv_up_s ?_)
  refine And.intro (Exists.intro _ ((rv_up_n n1).trans hh)) ?_
  refine ⟨_, _, _, ct_Tally_clear _ c s l g ((rv_up_n n1).trans hh), Nat.zero_le _, Nat.zero_le _, rfl, ?_⟩
  rintro _ _ ⟨rfl, rfl⟩
  refine Exists.intro _ (And.intro ((rv_up_n n1.symm).trans rv_up_s) ?_)
  refine And.intro (Exists.intro _ ((rv_up_n n3).trans ((rv_up_n n2).trans ht))) ?_
  refine ⟨_, _, _, ct_Tally_clear _ c2 s2 l2 g2 ((rv_up_n n3).trans ((rv_up_n n2).trans ht)), Nat.zero_le _, Nat.zero_le _, rfl, ?_⟩
  rintro _ _ ⟨rfl, rfl⟩
  -- path  ret None
  exact ⟨rfl, rfl⟩

set_option maxRecDepth 100000 in
theorem ct_Join_init {G : rv_G} {σ : rv_S} (x : Nat) (hx : σ.2 x = some (oJoin 0 0 0 0 false)) : rv_Ct G i_Join_init 0 0 [.ref x] σ (fun r σ' => r = none ∧ σ' = (σ.1, rv_up σ.2 x (oJoin 0 0 0 0 false))) := by
  refine rv_ct (M := m_Join_init) rfl (by decide) rfl rfl ?_
  refine rv_V.run rv_gd_Join_init [] 400 ?_
  refine Exists.intro _ (And.intro hx (And.intro trivial ?_))
  refine Exists.intro _ (And.intro rv_up_s (And.intro trivial ?_))
  rw [rv_up_up]
  refine Exists.intro _ (And.intro rv_up_s (And.intro trivial ?_))
  rw [rv_up_up]
  refine Exists.intro _ (And.intro rv_up_s (And.intro trivial ?_))
  rw [rv_up_up]
  refine Exists.intro _ (And.intro rv_up_s (And.intro (Or.inl rfl) ?_))
  rw [rv_up_up]
  -- path  ret None
  exact ⟨rfl, rfl⟩

set_option maxRecDepth 100000 in
theorem ct_Join_start {G : rv_G} {σ : rv_S} (x : Nat) (f s b e : Int32) (t : Bool) (b2 e2 f2 : Int32) (hx : σ.2 x = some (oJoin f s b e t)) : rv_Ct G i_Join_start 0 0 [.ref x, .int b2, .int e2, .int f2] σ (fun r σ' => r = none ∧ σ' = (σ.1, rv_up σ.2 x (oJoin f2 0 b2 e2 false))) := by
  refine rv_ct (M := m_Join_start) rfl (by decide) rfl rfl ?_
  refine rv_V.run rv_gd_Join_start [] 400 ?_
  refine Exists.intro _ (And.intro hx (And.intro trivial ?_))
  refine Exists.intro _ (And.intro rv_up_s (And.intro trivial ?_))
  rw [rv_up_up]
  refine Exists.intro _ (And.intro rv_up_s (And.intro trivial ?_))
  rw [rv_up_up]
  refine Exists.intro _ (And.intro rv_up_s (And.intro trivial ?_))
  rw [rv_up_up]
  refine Exists.intro _ (And.intro rv_up_s (And.intro (Or.inl rfl) ?_))
  rw [rv_up_up]
  -- path  ret None
  exact ⟨rfl, rfl⟩

set_option maxRecDepth 100000 in
theorem ct_Join_add {G : rv_G} {σ : rv_S} (x y : Nat) (f s b e : Int32) (t : Bool) (o k b2 e2 : Int32) (t2 ch : Bool) (h tl : Nat) (hx : σ.2 x = some (oJoin f s b e t)) (hy : σ.2 y = some (oWin o k b2 e2 t2 ch h tl)) (hxy : y ≠ x) : rv_Ct G i_Join_add 0 0 [.ref x, .ref y] σ (fun r σ' => r = none ∧ σ' = (σ.1, rv_up σ.2 x (oJoin f (s + 1) (rv_min b b2) (rv_max e e2) (t || t2)))) := by
  refine rv_ct (M := m_Join_add) rfl (by decide) rfl rfl ?_
  refine rv_V.run rv_gd_Join_add [] 400 ?_
  refine Exists.intro _ (And.intro hx ?_)
  refine Exists.intro _ (And.intro hx (And.intro trivial ?_))
  refine Exists.intro _ (And.intro rv_up_s ?_)
  refine Exists.intro _ (And.intro ((rv_up_n hxy).trans hy) ?_)
  refine ⟨_, _, _, ct_min _ _, Nat.zero_le _, Nat.zero_le _, rfl, ?_⟩
  rintro _ _ ⟨rfl, rfl⟩
  refine Exists.intro _ (And.intro rv_up_s (And.intro trivial ?_))
  rw [rv_up_up]
  refine Exists.intro _ (And.intro rv_up_s ?_)
  refine Exists.intro _ (And.intro ((rv_up_n hxy).trans hy) ?_)
  refine ⟨_, _, _, ct_max _ _, Nat.zero_le _, Nat.zero_le _, rfl, ?_⟩
  rintro _ _ ⟨rfl, rfl⟩
  refine Exists.intro _ (And.intro rv_up_s (And.intro trivial ?_))
  rw [rv_up_up]
  refine Exists.intro _ (And.intro rv_up_s ?_)
  refine And.intro (fun c1 => ?_) (fun c1 => ?_)
  · refine Exists.intro _ (And.intro ((rv_up_n hxy).trans hy) ?_)
    refine And.intro (fun c2 => ?_) (fun c2 => ?_)
    · refine Exists.intro _ (And.intro rv_up_s (And.intro (Or.inl rfl) ?_))
      rw [rv_up_up]
      -- path TT ret None
      rw [rv_b0.mp c1, rv_b0.mp c2]
      exact ⟨rfl, rfl⟩
    · refine Exists.intro _ (And.intro rv_up_s (And.intro (Or.inr rfl) ?_))
      rw [rv_up_up]
      -- path TF ret None
      rw [rv_b0.mp c1, rv_bn c2]
      exact ⟨rfl, rfl⟩
  · refine Exists.intro _ (And.intro rv_up_s (And.intro (Or.inr rfl) ?_))
    rw [rv_up_up]
    -- path F ret None
    rw [rv_bn c1]
    exact ⟨rfl, rfl⟩

set_option maxRecDepth 100000 in
theorem ct_Row_init {G : rv_G} {σ : rv_S} (x src : Nat) (k t v : Int32) (u : Bool) (hx : σ.2 x = some (.inl (k_Row, [.null, .int 0, .int 0, .int 0, .int 0]))) : rv_Ct G i_Row_init 0 0 [.ref x, .ref src, .int k, .int t, .int v, .int (rv_b u)] σ (fun r σ' => r = none ∧ σ' = (σ.1, rv_up σ.2 x (oRow src k t v u))) := by
  refine rv_ct (M := m_Row_init) rfl (by decide) rfl rfl ?_
  refine rv_V.run rv_gd_Row_init [] 400 ?_
  refine Exists.intro _ (And.intro hx (And.intro trivial ?_))
  refine Exists.intro _ (And.intro rv_up_s (And.intro trivial ?_))
  rw [rv_up_up]
  refine Exists.intro _ (And.intro rv_up_s (And.intro trivial ?_))
  rw [rv_up_up]
  refine Exists.intro _ (And.intro rv_up_s (And.intro trivial ?_))
  rw [rv_up_up]
  refine Exists.intro _ (And.intro rv_up_s (And.intro (rv_b01 _) ?_))
  rw [rv_up_up]
  -- path  ret None
  exact ⟨rfl, rfl⟩

set_option maxRecDepth 100000 in
theorem ct_standsAfter {G : rv_G} {σ : rv_S} (x src : Nat) (k t v : Int32) (u : Bool) (k2 t2 : Int32) (hx : σ.2 x = some (oRow src k t v u)) : rv_Ct G i_Row_standsAfter 0 0 [.ref x, .int k2, .int t2] σ (fun r σ' => r = some (.int (rv_b (rv_after k t k2 t2))) ∧ σ' = σ) := by
  refine rv_ct (M := m_Row_standsAfter) rfl (by decide) rfl rfl ?_
  refine rv_V.run rv_gd_Row_standsAfter [] 400 ?_
  refine Exists.intro _ (And.intro hx ?_)
  refine And.intro (fun c1 => ?_) (fun c1 => ?_)
  · refine Exists.intro _ (And.intro hx ?_)
    refine And.intro (fun c2 => ?_) (fun c2 => ?_)
    · refine And.intro (Or.inl rfl) ?_
      -- path TT ret .int 0
      exact ⟨by rw [rv_after, if_pos c1, decide_eq_false (Int32.not_lt.mpr c2)]; rfl, rfl⟩
    · refine And.intro (Or.inr rfl) ?_
      -- path TF ret .int 1
      exact ⟨by rw [rv_after, if_pos c1, decide_eq_true (Int32.not_le.mp c2)]; rfl, rfl⟩
  · refine Exists.intro _ (And.intro hx ?_)
    refine And.intro (fun c3 => ?_) (fun c3 => ?_)
    · refine And.intro (Or.inl rfl) ?_
      -- path FT ret .int 0
      exact ⟨by rw [rv_after, if_neg c1, decide_eq_false (Int32.not_lt.mpr c3)]; rfl, rfl⟩
    · refine And.intro (Or.inr rfl) ?_
      -- path FF ret .int 1
      exact ⟨by rw [rv_after, if_neg c1, decide_eq_true (Int32.not_le.mp c3)]; rfl, rfl⟩

set_option maxRecDepth 100000 in
theorem ct_Ring_clear {G : rv_G} {σ : rv_S} (x : Nat) (rm w : Int32) (c : Nat) (el la sz : Int32) (hx : σ.2 x = some (oRing rm w c el la sz)) : rv_Ct G i_Ring_clear 0 0 [.ref x] σ (fun r σ' => r = none ∧ σ' = (σ.1, rv_up σ.2 x (oRing rm w c el la 0))) := by
  refine rv_ct (M := m_Ring_clear) rfl (by decide) rfl rfl ?_
  refine rv_V.run rv_gd_Ring_clear [] 400 ?_
  refine Exists.intro _ (And.intro hx (And.intro trivial ?_))
  -- path  ret None
  exact ⟨rfl, rfl⟩

set_option maxRecDepth 100000 in
theorem ct_dropEldest {G : rv_G} {σ : rv_S} (x : Nat) (rm w : Int32) (c : Nat) (el la sz : Int32) (hx : σ.2 x = some (oRing rm w c el la sz)) : rv_Ct G i_Ring_dropEldest 0 0 [.ref x] σ (fun r σ' => r = none ∧ σ' = (σ.1, rv_up σ.2 x (if sz ≤ 0 then oRing rm w c el la sz else oRing rm w c (if rm ≤ el + 1 then 0 else el + 1) la (sz - 1)))) := by
  refine rv_ct (M := m_Ring_dropEldest) rfl (by decide) rfl rfl ?_
  refine rv_V.run rv_gd_Ring_dropEldest [] 400 ?_
  refine Exists.intro _ (And.intro hx ?_)
  refine And.intro (fun c1 => ?_) (fun c1 => ?_)
  · -- path T ret None
    rw [if_pos c1, rv_up_id hx]
    exact ⟨rfl, rfl⟩
  · refine Exists.intro _ (And.intro hx ?_)
    refine Exists.intro _ (And.intro hx ?_)
    refine And.intro (fun c2 => ?_) (fun c2 => ?_)
    · refine Exists.intro _ (And.intro hx (And.intro trivial ?_))
      refine Exists.intro _ (And.intro rv_up_s ?_)
      refine Exists.intro _ (And.intro rv_up_s (And.intro trivial ?_))
      rw [rv_up_up]
      -- path FT ret None
      rw [if_neg c1, if_pos c2]
      exact ⟨rfl, rfl⟩
    · refine Exists.intro _ (And.intro hx ?_)
      refine Exists.intro _ (And.intro hx (And.intro trivial ?_))
      refine Exists.intro _ (And.intro rv_up_s ?_)
      refine Exists.intro _ (And.intro rv_up_s (And.intro trivial ?_))
      rw [rv_up_up]
      -- path FF ret None
      rw [if_neg c1, if_neg c2]
      exact ⟨rfl, rfl⟩

set_option maxRecDepth 100000 in
theorem ct_Ring_set {G : rv_G} {σ : rv_S} (x : Nat) (rm w : Int32) (c : Nat) (el la sz : Int32) (hx : σ.2 x = some (oRing rm w c el la sz)) (n : Nat) (f : Nat → Int64) (hc : σ.2 c = some (rv_aJ n f)) (i : Int32) (v : Int64) (h0 : ¬ i < 0) (h1 : ¬ w ≤ i) (hin : vp_in (la * w + i) n) : rv_Ct G i_Ring_set 0 0 [.ref x, .int i, .long v] σ (fun r σ' => r = none ∧ σ' = (σ.1, rv_up σ.2 c (rv_aJ n (vp_updL f (la * w + i).toNatClampNeg v)))) := by
  refine rv_ct (M := m_Ring_set) rfl (by decide) rfl rfl ?_
  refine rv_V.run rv_gd_Ring_set [] 400 ?_
  refine And.intro (fun c1 => ?_) (fun c1 => ?_)
  · -- path T ret None
    exact absurd c1 h0
  · refine Exists.intro _ (And.intro hx ?_)
    refine And.intro (fun c2 => ?_) (fun c2 => ?_)
    · -- path FT ret None
      exact absurd c2 h1
    · refine Exists.intro _ (And.intro hx ?_)
      refine Exists.intro _ (And.intro hx ?_)
      refine Exists.intro _ (And.intro hx ?_)
      refine Exists.intro _ (Exists.intro _ (And.intro hc (And.intro (by assumption) ?_)))
      -- path FF ret None
      exact ⟨rfl, rfl⟩

set_option maxRecDepth 100000 in
theorem ct_Ring_get {G : rv_G} {σ : rv_S} (x : Nat) (rm w : Int32) (c : Nat) (el la sz : Int32) (hx : σ.2 x = some (oRing rm w c el la sz)) (n : Nat) (f : Nat → Int64) (hc : σ.2 c = some (rv_aJ n f)) (i j : Int32) (hin : ¬ i < 0 → ¬ sz ≤ i → ¬ j < 0 → ¬ w ≤ j → vp_in ((if rm ≤ el + i then el + i - rm else el + i) * w + j) n) : rv_Ct G i_Ring_get 0 0 [.ref x, .int i, .int j] σ (fun r σ' => r = some (.long (if i < 0 ∨ sz ≤ i ∨ j < 0 ∨ w ≤ j then -99999999 else f ((if rm ≤ el + i then el + i - rm else el + i) * w + j).toNatClampNeg)) ∧ σ' = σ) := by
  refine rv_ct (M := m_Ring_get) rfl (by decide) rfl rfl ?_
  refine rv_V.run rv_gd_Ring_get [] 400 ?_
  refine And.intro (fun c1 => ?_) (fun c1 => ?_)
  · -- path T ret .long (-99999999)
    exact ⟨by rw [if_pos (Or.inl c1)], rfl⟩
  · refine Exists.intro _ (And.intro hx ?_)
    refine And.intro (fun c2 => ?_) (fun c2 => ?_)
    · -- path FT ret .long (-99999999)
      exact ⟨by rw [if_pos (Or.inr (Or.inl c2))], rfl⟩
    · refine And.intro (fun c3 => ?_) (fun c3 => ?_)
      · -- path FFT ret .long (-99999999)
        exact ⟨by rw [if_pos (Or.inr (Or.inr (Or.inl c3)))], rfl⟩
      · refine Exists.intro _ (And.intro hx ?_)
        refine And.intro (fun c4 => ?_) (fun c4 => ?_)
        · refine Exists.intro _ (And.intro hx ?_)
          refine Exists.intro _ (And.intro hx ?_)
          refine And.intro (fun c5 => ?_) (fun c5 => ?_)
          · refine Exists.intro _ (And.intro hx ?_)
            refine Exists.intro _ (And.intro hx ?_)
            refine Exists.intro _ (And.intro hx ?_)
            refine Exists.intro _ (And.intro hx ?_)
            refine Exists.intro _ (Exists.intro _ (And.intro hc (And.intro (by first | (have q := hin c1 c2 c3 (Int32.not_le.mpr c4); rw [if_pos c5] at q; exact q) | (have q := hin c1 c2 c3 (Int32.not_le.mpr c4); rw [if_neg c5] at q; exact q)) ?_)))
            -- path FFFTT ret .long (f ((((el + i) - rm) * w) + j).toNatClampNeg)
            exact ⟨by rw [if_neg (fun q => q.elim c1 (fun q => q.elim c2 (fun q => q.elim c3 (Int32.not_le.mpr c4)))), if_pos c5], rfl⟩
          · refine Exists.intro _ (And.intro hx ?_)
            refine Exists.intro _ (And.intro hx ?_)
            refine Exists.intro _ (And.intro hx ?_)
            refine Exists.intro _ (Exists.intro _ (And.intro hc (And.intro (by first | (have q := hin c1 c2 c3 (Int32.not_le.mpr c4); rw [if_pos c5] at q; exact q) | (have q := hin c1 c2 c3 (Int32.not_le.mpr c4); rw [if_neg c5] at q; exact q)) ?_)))
            -- path FFFTF ret .long (f (((el + i) * w) + j).toNatClampNeg)
            exact ⟨by rw [if_neg (fun q => q.elim c1 (fun q => q.elim c2 (fun q => q.elim c3 (Int32.not_le.mpr c4)))), if_neg c5], rfl⟩
        · -- path FFFF ret .long (-99999999)
          exact ⟨by rw [if_pos (Or.inr (Or.inr (Or.inr (Int32.not_lt.mp c4))))], rfl⟩
end
section
/-! RINGS: records in the order they came -/
def rv_inc (rm el : Int32) : Int32 := if rm ≤ el + 1 then 0 else el + 1
def rv_slot (rm el i : Int32) : Int32 := if rm ≤ el + i then el + i - rm else el + i
theorem ct_drop {G : rv_G} {σ : rv_S} (x : Nat) (rm w : Int32) (c : Nat) (el la sz : Int32) (hs : ¬ sz ≤ 0) (hx : σ.2 x = some (oRing rm w c el la sz)) : rv_Ct G i_Ring_dropEldest 0 0 [.ref x] σ (fun r σ' => r = none ∧ σ' = (σ.1, rv_up σ.2 x (oRing rm w c (rv_inc rm el) la (sz - 1)))) :=
  (ct_dropEldest x rm w c el la sz hx).mono (fun r σ' h => ⟨h.1, by rw [h.2, if_neg hs]; rfl⟩)
theorem rv_inc_n {R e : Nat} (he : e < R) (hR : R < 2 ^ 30) : rv_inc (nI R) (nI e) = nI ((e + 1) % R) := by
  unfold rv_inc
  rw [nI_1]
  by_cases h : R ≤ e + 1
  · rw [if_pos ((nI_leI (by omega) (by omega)).mpr h), show (e + 1) % R = 0 by rw [show e + 1 = R by omega, Nat.mod_self]]
    rfl
  · rw [if_neg (fun q => h ((nI_leI (by omega) (by omega)).mp q)), Nat.mod_eq_of_lt (by omega)]
theorem rv_slot_n {R e i : Nat} (he : e < R) (hi : i ≤ R) (hR : R < 2 ^ 30) : rv_slot (nI R) (nI e) (nI i) = nI ((e + i) % R) := by
  unfold rv_slot
  rw [nI_add]
  by_cases h : R ≤ e + i
  · rw [if_pos ((nI_leI (by omega) (by omega)).mpr h), pk_sub h]
    congr 1
    rcases Nat.lt_or_ge (e + i) (2 * R) with h2 | h2
    · rw [Nat.mod_eq_sub_mod h, Nat.mod_eq_of_lt (by omega)]
    · omega
  · rw [if_neg (fun q => h ((nI_leI (by omega) (by omega)).mp q)), Nat.mod_eq_of_lt (by omega)]

set_option maxRecDepth 100000 in
theorem ct_Ring_open {G : rv_G} {σ : rv_S} (x : Nat) (rm w : Int32) (c : Nat) (el la sz : Int32) (hx : σ.2 x = some (oRing rm w c el la sz)) (hd : ¬ sz < rm → ¬ sz ≤ 0) : rv_Ct G i_Ring_open 0 0 [.ref x] σ (fun r σ' => r = none ∧ σ' = (σ.1, rv_up σ.2 x (if sz < rm then oRing rm w c el (rv_slot rm el sz) (sz + 1) else oRing rm w c (rv_inc rm el) (rv_slot rm (rv_inc rm el) (sz - 1)) (sz - 1 + 1)))) := by
  refine rv_ct (M := m_Ring_open) rfl (by decide) rfl rfl ?_
  refine rv_V.run rv_gd_Ring_open [] 400 ?_
  refine Exists.intro _ (And.intro hx ?_)
  refine Exists.intro _ (And.intro hx ?_)
  refine And.intro (fun c1 => ?_) (fun c1 => ?_)
  · refine Exists.intro _ (And.intro hx ?_)
    refine Exists.intro _ (And.intro hx ?_)
    refine Exists.intro _ (And.intro hx ?_)
    refine And.intro (fun c2 => ?_) (fun c2 => ?_)
    · refine Exists.intro _ (And.intro hx ?_)
      refine Exists.intro _ (And.intro hx ?_)
      refine Exists.intro _ (And.intro hx ?_)
      refine Exists.intro _ (And.intro hx (And.intro trivial ?_))
      refine Exists.intro _ (And.intro rv_up_s ?_)
      refine Exists.intro _ (And.intro rv_up_s (And.intro trivial ?_))
      rw [rv_up_up]
      -- path TT ret None
      rw [if_pos c1, rv_slot, if_pos c2]
      exact ⟨rfl, rfl⟩
    · refine Exists.intro _ (And.intro hx ?_)
      refine Exists.intro _ (And.intro hx ?_)
      refine Exists.intro _ (And.intro hx (And.intro trivial ?_))
      refine Exists.intro _ (And.intro rv_up_s ?_)
      refine Exists.intro _ (And.intro rv_up_s (And.intro trivial ?_))
      rw [rv_up_up]
      -- path TF ret None
      rw [if_pos c1, rv_slot, if_neg c2]
      exact ⟨rfl, rfl⟩
  · refine And.intro (Exists.intro _ hx) ?_
    refine ⟨_, _, _, ct_drop _ rm w c el la sz (hd c1) hx, Nat.zero_le _, Nat.zero_le _, rfl, ?_⟩
    rintro _ _ ⟨rfl, rfl⟩
    refine Exists.intro _ (And.intro rv_up_s ?_)
    refine Exists.intro _ (And.intro rv_up_s ?_)
    refine Exists.intro _ (And.intro rv_up_s ?_)
    refine And.intro (fun c3 => ?_) (fun c3 => ?_)
    · refine Exists.intro _ (And.intro rv_up_s ?_)
      refine Exists.intro _ (And.intro rv_up_s ?_)
      refine Exists.intro _ (And.intro rv_up_s ?_)
      refine Exists.intro _ (And.intro rv_up_s (And.intro trivial ?_))
      rw [rv_up_up]
      refine Exists.intro _ (And.intro rv_up_s ?_)
      refine Exists.intro _ (And.intro rv_up_s (And.intro trivial ?_))
      rw [rv_up_up]
      -- path FT ret None
      rw [if_neg c1, rv_slot, if_pos c3]
      exact ⟨rfl, rfl⟩
    · refine Exists.intro _ (And.intro rv_up_s ?_)
      refine Exists.intro _ (And.intro rv_up_s ?_)
      refine Exists.intro _ (And.intro rv_up_s (And.intro trivial ?_))
      rw [rv_up_up]
      refine Exists.intro _ (And.intro rv_up_s ?_)
      refine Exists.intro _ (And.intro rv_up_s (And.intro trivial ?_))
      rw [rv_up_up]
      -- path FF ret None
      rw [if_neg c1, rv_slot, if_neg c3]
      exact ⟨rfl, rfl⟩

/-- opening a record, by numbers -/
theorem ct_open_n {G : rv_G} {σ : rv_S} (x : Nat) (R e s : Nat) (w : Int32) (c : Nat) (la : Int32) (he : e < R) (hs : s ≤ R) (hR : R < 2 ^ 30) (hx : σ.2 x = some (oRing (nI R) w c (nI e) la (nI s))) :
    rv_Ct G i_Ring_open 0 0 [.ref x] σ (fun r σ' => r = none ∧ σ' = (σ.1, rv_up σ.2 x (oRing (nI R) w c (nI (if s < R then e else (e + 1) % R)) (nI ((e + s) % R)) (nI (if s < R then s + 1 else R))))) := by
  refine (ct_Ring_open x (nI R) w c (nI e) la (nI s) hx (fun h => ?_)).mono (fun r σ' h => ⟨h.1, ?_⟩)
  · rw [nI_ltI (by omega) (by omega)] at h
    exact nI_nle (by omega) (by omega)
  · rw [h.2]
    congr 2
    by_cases h1 : s < R
    · rw [if_pos ((nI_ltI (by omega) (by omega)).mpr h1), if_pos h1, if_pos h1, nI_1, rv_slot_n he hs hR]
    · have hsR : s = R := by omega
      subst hsR
      rw [if_neg (fun q => h1 ((nI_ltI (by omega) (by omega)).mp q)), if_neg h1, if_neg h1, rv_inc_n he hR]
      obtain ⟨k, rfl⟩ : ∃ k, s = k + 1 := ⟨s - 1, by omega⟩
      rw [nI_pred, nI_1, rv_slot_n (Nat.mod_lt _ (by omega)) (by omega) hR]
      congr 2
      rw [Nat.mod_add_mod, show e + 1 + k = e + (k + 1) by omega]
/-- a ring's picture: R records of w numbers; s of them are there, the j-th holds q j -/
def PR (g : Nat → Option rv_E) (r c R w s : Nat) (q : Nat → Nat → Int64) : Prop :=
  ∃ (e : Nat) (la : Int32) (f : Nat → Int64), e < R ∧ s ≤ R ∧ g r = some (oRing (nI R) (nI w) c (nI e) la (nI s)) ∧ g c = some (rv_aJ (R * w) f) ∧ ∀ j, j < s → ∀ k, k < w → f ((e + j) % R * w + k) = q j k
/-- a record more -/
def rv_qn (R s : Nat) : Nat := if s < R then s + 1 else R
def rv_qp (R s : Nat) (q : Nat → Nat → Int64) (v : Nat → Int64) : Nat → Nat → Int64 := fun j => if s < R then (if j = s then v else q j) else (if j + 1 = R then v else q (j + 1))
theorem ct_get_n {G : rv_G} {σ : rv_S} {r c R w s : Nat} {q : Nat → Nat → Int64} (h : PR σ.2 r c R w s q) (hw : 0 < w) (hRw : R * w < 2 ^ 30) (i j : Int32) :
    rv_Ct G i_Ring_get 0 0 [.ref r, .int i, .int j] σ (fun a σ' => a = some (.long (if i < 0 ∨ nI s ≤ i ∨ j < 0 ∨ nI w ≤ j then -99999999 else q i.toNatClampNeg j.toNatClampNeg)) ∧ σ' = σ) := by
  obtain ⟨e, la, f, he, hs, hr, hc, hf⟩ := h
  have hR : R < 2 ^ 30 := Nat.lt_of_le_of_lt (Nat.le_mul_of_pos_right R hw) hRw
  have hw2 : w < 2 ^ 30 := Nat.lt_of_le_of_lt (Nat.le_mul_of_pos_left w (by omega)) hRw
  have key : ∀ a b : Nat, a < s → b < w → (nI ((e + a) % R) * nI w + nI b) = nI ((e + a) % R * w + b) ∧ (e + a) % R * w + b < R * w := by
    intro a b ha hb
    refine ⟨by rw [pk_mul, nI_add], ?_⟩
    have h1 : (e + a) % R < R := Nat.mod_lt _ (by omega)
    calc (e + a) % R * w + b < (e + a) % R * w + w := by omega
      _ = ((e + a) % R + 1) * w := by rw [Nat.succ_mul]
      _ ≤ R * w := Nat.mul_le_mul_right w h1
  have num : ¬ i < 0 → ¬ nI s ≤ i → ¬ j < 0 → ¬ nI w ≤ j → ∃ a b : Nat, a < s ∧ b < w ∧ i = nI a ∧ j = nI b := by
    intro h1 h2 h3 h4
    rcases pk_ix i (n := s) (by omega) with h | h | ⟨a, ha, rfl⟩
    · exact absurd h h1
    · exact absurd h h2
    rcases pk_ix j (n := w) (by omega) with h | h | ⟨b, hb, rfl⟩
    · exact absurd h h3
    · exact absurd h h4
    exact ⟨a, b, ha, hb, rfl, rfl⟩
  have slot : ∀ a : Nat, a < s → (if nI R ≤ nI e + nI a then nI e + nI a - nI R else nI e + nI a) = nI ((e + a) % R) := fun a ha => rv_slot_n he (by omega) hR
  refine (ct_Ring_get r (nI R) (nI w) c (nI e) la (nI s) hr (R * w) f hc i j ?_).mono (fun a σ' h => ⟨?_, h.2⟩)
  · intro h1 h2 h3 h4
    obtain ⟨a, b, ha, hb, rfl, rfl⟩ := num h1 h2 h3 h4
    rw [slot a ha, (key a b ha hb).1]
    exact vp_in_nI (key a b ha hb).2 (by omega)
  · rw [h.1]
    congr 2
    by_cases hc : i < 0 ∨ nI s ≤ i ∨ j < 0 ∨ nI w ≤ j
    · rw [if_pos hc, if_pos hc]
    · rw [if_neg hc, if_neg hc]
      simp only [not_or] at hc
      obtain ⟨a, b, ha, hb, rfl, rfl⟩ := num hc.1 hc.2.1 hc.2.2.1 hc.2.2.2
      have k2 := (key a b ha hb).2
      rw [slot a ha, (key a b ha hb).1, nI_clamp (by omega), nI_clamp (by omega), nI_clamp (by omega)]
      exact hf a ha b hb
end
section
/-! THE LIST OF WINDOWS: pictures and contracts -/
abbrev Tl : Type := Int32 × Int64 × Int32 × Int32
/-- a window: operator, key, begin, end; told, changed; what it has; what was told of it last -/
abbrev Wd : Type := (Int32 × Int32 × Int32 × Int32) × (Bool × Bool) × Tl × Tl
def oT (t : Tl) : rv_E := oTally t.1 t.2.1 t.2.2.1 t.2.2.2
def oW (d : Wd) (a : Nat) : rv_E := oWin d.1.1 d.1.2.1 d.1.2.2.1 d.1.2.2.2 d.2.1.1 d.2.1.2 (a + 1) (a + 2)
def PW (g : Nat → Option rv_E) (a : Nat) (d : Wd) : Prop := g a = some (oW d a) ∧ g (a + 1) = some (oT d.2.2.1) ∧ g (a + 2) = some (oT d.2.2.2)
abbrev wa (wl i : Nat) : Nat := wl + 2 + 3 * i
/-- the list at wl, its array behind it, then 120 windows with their two tallies each; n are there, the j-th is the p j-th of them -/
def PWL (g : Nat → Option rv_E) (wl n : Nat) (p : Nat → Nat) (D : Nat → Wd) : Prop :=
  g wl = some (oWL (wl + 1) (nI n)) ∧ (∃ f : Nat → Option Nat, g (wl + 1) = some (rv_aO RX8 120 f) ∧ ∀ j, j < 120 → f j = some (wa wl (p j))) ∧ (∀ i, i < 120 → PW g (wa wl i) (D i)) ∧ ((∀ j, j < 120 → p j < 120) ∧ ∀ i j, i < 120 → j < 120 → p i = p j → i = j) ∧ n ≤ 120
/-- does this window stand before (o, k, b)? -/
def wb (d : Wd) (o k b : Int32) : Bool := rv_before d.1.1 d.1.2.1 d.1.2.2.1 o k b
theorem rv_leN {x y : Int32} {a b : Nat} (hx : x = nI a) (hy : y = nI b) (ha : a < 2 ^ 31) (hb : b < 2 ^ 31) : x ≤ y ↔ a ≤ b := by
  subst hx
  subst hy
  exact nI_leI ha hb
theorem rv_ltN {x y : Int32} {a b : Nat} (hx : x = nI a) (hy : y = nI b) (ha : a < 2 ^ 31) (hb : b < 2 ^ 31) : x < y ↔ a < b := by
  subst hx
  subst hy
  exact nI_ltI ha hb

set_option maxRecDepth 100000 in
theorem ct_at_in {G : rv_G} {σ : rv_S} {wl n : Nat} {p : Nat → Nat} {D : Nat → Wd} (h : PWL σ.2 wl n p D) (j : Nat) (hj : j < n) : rv_Ct G i_WindowList_at 0 0 [.ref wl, .int (nI j)] σ (fun r σ' => r = some (.ref (wa wl (p j))) ∧ σ' = σ) := by
  obtain ⟨hx, ⟨f, hf, hfe⟩, hW, hp, hn⟩ := h
  refine rv_ct (M := m_WindowList_at) rfl (by decide) rfl rfl ?_
  refine rv_V.run rv_gd_WindowList_at [] 400 ?_
  refine And.intro (fun c1 => ?_) (fun c1 => ?_)
  · -- path T ret .null
    exact absurd c1 (nI_pos (by omega))
  · refine Exists.intro _ (And.intro hx ?_)
    refine And.intro (fun c2 => ?_) (fun c2 => ?_)
    · -- path FT ret .null
      exact absurd ((nI_leI (by omega) (by omega)).mp c2) (by omega)
    · refine Exists.intro _ (And.intro hx ?_)
      refine ⟨_, _, _, (some (wa wl (p j))), hf, by decide, (vp_in_nI (by omega) (by omega)), (by rw [nI_clamp (by omega)]; exact hfe j (by omega)), ?_⟩
      -- path FF ret .ref (wa wl (p j))
      exact ⟨rfl, rfl⟩

set_option maxRecDepth 100000 in
theorem ct_at_out {G : rv_G} {σ : rv_S} {wl n : Nat} {p : Nat → Nat} {D : Nat → Wd} (h : PWL σ.2 wl n p D) (i : Int32) (hi : i < 0 ∨ nI n ≤ i) : rv_Ct G i_WindowList_at 0 0 [.ref wl, .int i] σ (fun r σ' => r = some .null ∧ σ' = σ) := by
  obtain ⟨hx, ⟨f, hf, hfe⟩, hW, hp, hn⟩ := h
  refine rv_ct (M := m_WindowList_at) rfl (by decide) rfl rfl ?_
  refine rv_V.run rv_gd_WindowList_at [] 400 ?_
  refine And.intro (fun c1 => ?_) (fun c1 => ?_)
  · -- path T ret .null
    exact ⟨rfl, rfl⟩
  · refine Exists.intro _ (And.intro hx ?_)
    refine And.intro (fun c2 => ?_) (fun c2 => ?_)
    · -- path FT ret .null
      exact ⟨rfl, rfl⟩
    · refine Exists.intro _ (And.intro hx ?_)
      refine ⟨_, _, _, (some 0), hf, by decide, (absurd hi (fun q => q.elim c1 c2)), (absurd hi (fun q => q.elim c1 c2)), ?_⟩
      -- path FF ret .ref 0
      exact absurd hi (fun q => q.elim c1 c2)

set_option maxRecDepth 100000 in
theorem ct_endsBefore {G : rv_G} {σ : rv_S} {wl n : Nat} {p : Nat → Nat} {D : Nat → Wd} (h : PWL σ.2 wl n p D) (a : Nat) (d : Wd) (ha : σ.2 a = some (oW d a)) (j : Nat) (hj : j < 120) : rv_Ct G i_WindowList_endsBefore 0 0 [.ref wl, .ref a, .int (nI j)] σ (fun r σ' => r = some (.int (rv_b (decide (d.1.2.2.2 < (D (p j)).1.2.2.2)))) ∧ σ' = σ) := by
  obtain ⟨hx, ⟨f, hf, hfe⟩, hW, hp, hn⟩ := h
  refine rv_ct (M := m_WindowList_endsBefore) rfl (by decide) rfl rfl ?_
  refine rv_V.run rv_gd_WindowList_endsBefore [] 400 ?_
  refine And.intro (fun c1 => ?_) (fun c1 => ?_)
  · refine And.intro (Or.inr rfl) ?_
    -- path T ret .int 1
    exact absurd c1 (nI_pos (by omega))
  · refine Exists.intro _ (And.intro ha ?_)
    refine Exists.intro _ (And.intro hx ?_)
    refine ⟨_, _, _, (some (wa wl (p j))), hf, by decide, (vp_in_nI (by omega) (by omega)), (by rw [nI_clamp (by omega)]; exact hfe j (by omega)), ?_⟩
    refine Exists.intro _ (And.intro (hW _ (hp.1 j hj)).1 ?_)
    refine And.intro (fun c2 => ?_) (fun c2 => ?_)
    · refine And.intro (Or.inl rfl) ?_
      -- path FT ret .int 0
      exact ⟨by rw [decide_eq_false (Int32.not_lt.mpr c2)]; rfl, rfl⟩
    · refine And.intro (Or.inr rfl) ?_
      -- path FF ret .int 1
      exact ⟨by rw [decide_eq_true (Int32.not_le.mp c2)]; rfl, rfl⟩

set_option maxRecDepth 100000 in
theorem lp_placeOf {G : rv_G} {σ : rv_S} {wl n : Nat} {p : Nat → Nat} {D : Nat → Wd} (h : PWL σ.2 wl n p D) (o k b : Int32) (hm : ∀ i j, i ≤ j → j < n → wb (D (p j)) o k b = true → wb (D (p i)) o k b = true) : ∀ (m c lo hi : Nat) (vc vl vh : Int32) (x7 : Option Value), vc = nI c → vl = nI lo → vh = nI hi → c + m = 120 → lo ≤ hi → hi ≤ n → hi - lo ≤ m → (∀ j, j < lo → wb (D (p j)) o k b = true) → (∀ j, hi ≤ j → j < n → wb (D (p j)) o k b = false) → rv_V G m_WindowList_placeOf 0 0 (fun r σ' => (∃ q : Nat, q ≤ n ∧ (∀ j, j < q → wb (D (p j)) o k b = true) ∧ (∀ j, q ≤ j → j < n → wb (D (p j)) o k b = false) ∧ r = some (.int (nI q))) ∧ σ' = σ) 12 [some (.ref wl), some (.int o), some (.int k), some (.int b), some (.int vl), some (.int vh), some (.int vc), x7] [] σ 0 0 := by
  obtain ⟨hx, ⟨f, hf, hfe⟩, hW, hp, hn⟩ := h
  intro m
  induction m with
  | zero =>
    intro c lo hi vc vl vh x7 ec el eh h0 h1 h2 h3 h4 h5
    obtain rfl : lo = hi := by omega
    refine rv_V.run rv_gd_WindowList_placeOf [12] 400 ?_
    refine And.intro (fun c1 => ?_) (fun c1 => ?_)
    · exact And.intro trivial ⟨⟨lo, h2, h4, h5, by rw [el]⟩, rfl⟩
    · exact absurd (by rw [ec]; exact (nI_leI (a := 120) (b := c) (by omega) (by omega)).mpr (by omega)) c1
  | succ m ih =>
    intro c lo hi vc vl vh x7 ec el eh h0 h1 h2 h3 h4 h5
    have hmid : (vl + vh) / 2 = nI ((lo + hi) / 2) := by rw [el, eh, nI_add]; exact pk_div (d := 2) (by omega) (by omega) (by omega)
    refine rv_V.run rv_gd_WindowList_placeOf [12] 400 ?_
    refine And.intro (fun c1 => ?_) (fun c1 => ?_)
    · refine And.intro trivial ?_
      -- path T ret .int vl
      exact absurd ((rv_leN (a := 120) rfl ec (by omega) (by omega)).mp c1) (by omega)
    · refine And.intro (fun c2 => ?_) (fun c2 => ?_)
      · refine And.intro trivial ?_
        -- path FT ret .int vl
        have hh := (rv_leN eh el (by omega) (by omega)).mp c2
        obtain rfl : lo = hi := by omega
        exact ⟨⟨lo, h2, h4, h5, by rw [el]⟩, rfl⟩
      · have hlt : lo < hi := by
          rcases Nat.lt_or_ge lo hi with q | q
          · exact q
          · exact absurd (by rw [el, eh]; exact (nI_leI (by omega) (by omega)).mpr q) c2
        refine And.intro (by decide) ?_
        refine Exists.intro _ (And.intro hx ?_)
        refine ⟨_, _, _, (some (wa wl (p ((lo + hi) / 2)))), hf, by decide, (by rw [hmid]; exact vp_in_nI (by omega) (by omega)), (by rw [hmid, nI_clamp (by omega)]; exact hfe _ (by omega)), ?_⟩
        refine And.intro (Exists.intro _ (hW _ (hp.1 ((lo + hi) / 2) (by omega))).1) ?_
        refine ⟨_, _, _, ct_standsBefore _ _ _ _ _ _ _ _ _ o k b (hW _ (hp.1 ((lo + hi) / 2) (by omega))).1, Nat.zero_le _, Nat.zero_le _, rfl, ?_⟩
        rintro _ _ ⟨rfl, rfl⟩
        refine And.intro (fun c3 => ?_) (fun c3 => ?_)
        · -- path FFT ret None
          have hb := rv_b0.mp c3
          exact ih (c + 1) lo ((lo + hi) / 2) _ _ _ _ (by rw [ec]; exact nI_1 c) el hmid (by omega) (by omega) (by omega) (by omega) h4 (fun j h6 h7 => by
            cases hbj : wb (D (p j)) o k b with
            | false => rfl
            | true => exact absurd (hm _ j h6 h7 hbj) (by rw [show wb (D (p ((lo + hi) / 2))) o k b = false from hb]; decide))
        · -- path FFF ret None
          have hb := rv_bn c3
          exact ih (c + 1) ((lo + hi) / 2 + 1) hi _ _ _ _ (by rw [ec]; exact nI_1 c) (by rw [hmid]; exact nI_1 _) eh (by omega) (by omega) (by omega) (by omega) (fun j h6 => hm j ((lo + hi) / 2) (by omega) (by omega) hb) h5
set_option maxRecDepth 100000 in
theorem ct_placeOf {G : rv_G} {σ : rv_S} {wl n : Nat} {p : Nat → Nat} {D : Nat → Wd} (h : PWL σ.2 wl n p D) (o k b : Int32) (hm : ∀ i j, i ≤ j → j < n → wb (D (p j)) o k b = true → wb (D (p i)) o k b = true) : rv_Ct G i_WindowList_placeOf 0 0 [.ref wl, .int o, .int k, .int b] σ (fun r σ' => (∃ q : Nat, q ≤ n ∧ (∀ j, j < q → wb (D (p j)) o k b = true) ∧ (∀ j, q ≤ j → j < n → wb (D (p j)) o k b = false) ∧ r = some (.int (nI q))) ∧ σ' = σ) := by
  refine rv_ct (M := m_WindowList_placeOf) rfl (by decide) rfl rfl ?_
  refine rv_V.run rv_gd_WindowList_placeOf [12] 400 ?_
  refine Exists.intro _ (And.intro h.1 ?_)
  exact lp_placeOf h o k b hm 120 0 0 n _ _ _ _ rfl rfl rfl rfl (Nat.zero_le _) (Nat.le_refl _) (by have := h.2.2.2.2; omega) (fun j hj => absurd hj (by omega)) (fun j h1 h2 => absurd h2 (by omega))
end
section
/-! THE LIST OF WINDOWS: one cell of it is written -/
theorem wa_ne {wl i j : Nat} (h : i ≠ j) : wa wl i ≠ wa wl j := by unfold wa; omega
/-- outside the list's cells nothing has changed -/
def rv_out (wl len : Nat) (g g' : Nat → Option rv_E) : Prop := ∀ a, (a < wl ∨ wl + len ≤ a) → g' a = g a
theorem rv_out.rf {wl len : Nat} {g : Nat → Option rv_E} : rv_out wl len g g := fun _ _ => rfl
theorem rv_out.tr {wl len : Nat} {g g1 g2 : Nat → Option rv_E} (h1 : rv_out wl len g g1) (h2 : rv_out wl len g1 g2) : rv_out wl len g g2 := fun a ha => (h2 a ha).trans (h1 a ha)
theorem rv_out.up {wl len a : Nat} {g : Nat → Option rv_E} {x : rv_E} (h : wl ≤ a ∧ a < wl + len) : rv_out wl len g (rv_up g a x) := fun q hq => rv_up_n (by omega)
theorem PW.kept {g g' : Nat → Option rv_E} {a : Nat} {d : Wd} (h : PW g a d) (h0 : g' a = g a) (h1 : g' (a + 1) = g (a + 1)) (h2 : g' (a + 2) = g (a + 2)) : PW g' a d := ⟨h0.trans h.1, h1.trans h.2.1, h2.trans h.2.2⟩
/-- a window's own cell -/
theorem PWL.setW {g : Nat → Option rv_E} {wl n : Nat} {p : Nat → Nat} {D : Nat → Wd} (h : PWL g wl n p D) {i : Nat} (hi : i < 120) (k : Int32 × Int32 × Int32 × Int32) (t : Bool × Bool) : PWL (rv_up g (wa wl i) (oW (k, t, (D i).2.2) (wa wl i))) wl n p (va_up D i (k, t, (D i).2.2)) := by
  obtain ⟨hx, ⟨f, hf, hfe⟩, hW, hp, hn⟩ := h
  refine ⟨(rv_up_n (by unfold wa; omega)).trans hx, ⟨f, (rv_up_n (by unfold wa; omega)).trans hf, hfe⟩, fun j hj => ?_, hp, hn⟩
  by_cases hji : j = i
  · subst hji
    rw [va_up_self]
    exact ⟨rv_up_s, (rv_up_n (by omega)).trans (hW j hj).2.1, (rv_up_n (by omega)).trans (hW j hj).2.2⟩
  · rw [va_up_ne _ _ hji]
    exact (hW j hj).kept (rv_up_n (by unfold wa; omega)) (rv_up_n (by unfold wa; omega)) (rv_up_n (by unfold wa; omega))
/-- what a window has -/
theorem PWL.setH {g : Nat → Option rv_E} {wl n : Nat} {p : Nat → Nat} {D : Nat → Wd} (h : PWL g wl n p D) {i : Nat} (hi : i < 120) (t : Tl) : PWL (rv_up g (wa wl i + 1) (oT t)) wl n p (va_up D i ((D i).1, (D i).2.1, t, (D i).2.2.2)) := by
  obtain ⟨hx, ⟨f, hf, hfe⟩, hW, hp, hn⟩ := h
  refine ⟨(rv_up_n (by unfold wa; omega)).trans hx, ⟨f, (rv_up_n (by unfold wa; omega)).trans hf, hfe⟩, fun j hj => ?_, hp, hn⟩
  by_cases hji : j = i
  · subst hji
    rw [va_up_self]
    exact ⟨(rv_up_n (by omega)).trans (hW j hj).1, rv_up_s, (rv_up_n (by omega)).trans (hW j hj).2.2⟩
  · rw [va_up_ne _ _ hji]
    exact (hW j hj).kept (rv_up_n (by unfold wa; omega)) (rv_up_n (by unfold wa; omega)) (rv_up_n (by unfold wa; omega))
/-- what was told of it last -/
theorem PWL.setT {g : Nat → Option rv_E} {wl n : Nat} {p : Nat → Nat} {D : Nat → Wd} (h : PWL g wl n p D) {i : Nat} (hi : i < 120) (t : Tl) : PWL (rv_up g (wa wl i + 2) (oT t)) wl n p (va_up D i ((D i).1, (D i).2.1, (D i).2.2.1, t)) := by
  obtain ⟨hx, ⟨f, hf, hfe⟩, hW, hp, hn⟩ := h
  refine ⟨(rv_up_n (by unfold wa; omega)).trans hx, ⟨f, (rv_up_n (by unfold wa; omega)).trans hf, hfe⟩, fun j hj => ?_, hp, hn⟩
  by_cases hji : j = i
  · subst hji
    rw [va_up_self]
    exact ⟨(rv_up_n (by omega)).trans (hW j hj).1, (rv_up_n (by omega)).trans (hW j hj).2.1, rv_up_s⟩
  · rw [va_up_ne _ _ hji]
    exact (hW j hj).kept (rv_up_n (by unfold wa; omega)) (rv_up_n (by unfold wa; omega)) (rv_up_n (by unfold wa; omega))
/-- the array -/
theorem PWL.setA {g : Nat → Option rv_E} {wl n : Nat} {p p' : Nat → Nat} {D : Nat → Wd} (h : PWL g wl n p D) {f' : Nat → Option Nat} (hf' : ∀ j, j < 120 → f' j = some (wa wl (p' j))) (hp' : (∀ j, j < 120 → p' j < 120) ∧ ∀ i j, i < 120 → j < 120 → p' i = p' j → i = j) : PWL (rv_up g (wl + 1) (rv_aO RX8 120 f')) wl n p' D := by
  obtain ⟨hx, ⟨f, hf, hfe⟩, hW, hp, hn⟩ := h
  exact ⟨(rv_up_n (by omega)).trans hx, ⟨f', rv_up_s, hf'⟩, fun j hj => (hW j hj).kept (rv_up_n (by unfold wa; omega)) (rv_up_n (by unfold wa; omega)) (rv_up_n (by unfold wa; omega)), hp', hn⟩
/-- how many there are -/
theorem PWL.setN {g : Nat → Option rv_E} {wl n n' : Nat} {p : Nat → Nat} {D : Nat → Wd} (h : PWL g wl n p D) (hn' : n' ≤ 120) : PWL (rv_up g wl (oWL (wl + 1) (nI n'))) wl n' p D := by
  obtain ⟨hx, ⟨f, hf, hfe⟩, hW, hp, hn⟩ := h
  exact ⟨rv_up_s, ⟨f, (rv_up_n (by omega)).trans hf, hfe⟩, fun j hj => (hW j hj).kept (rv_up_n (by unfold wa; omega)) (rv_up_n (by unfold wa; omega)) (rv_up_n (by unfold wa; omega)), hp, hn'⟩
/-- the places behind an opening at q, of n -/
def rv_ins (p : Nat → Nat) (q n : Nat) : Nat → Nat := fun j => if j = q then p n else if q < j ∧ j ≤ n then p (j - 1) else p j
theorem rv_ins_ok {p : Nat → Nat} {q n : Nat} (hq : q ≤ n) (hn : n < 120) (hp : (∀ j, j < 120 → p j < 120) ∧ ∀ i j, i < 120 → j < 120 → p i = p j → i = j) : (∀ j, j < 120 → rv_ins p q n j < 120) ∧ ∀ i j, i < 120 → j < 120 → rv_ins p q n i = rv_ins p q n j → i = j := by
  have key : ∀ j, j < 120 → ∃ t, t < 120 ∧ rv_ins p q n j = p t ∧ (t = if j = q then n else if q < j ∧ j ≤ n then j - 1 else j) := by
    intro j hj
    refine ⟨if j = q then n else if q < j ∧ j ≤ n then j - 1 else j, ?_, ?_, rfl⟩
    · split
      · exact hn
      · split <;> omega
    · unfold rv_ins
      split
      · rfl
      · split <;> rfl
  refine ⟨fun j hj => ?_, fun i j hi hj e => ?_⟩
  · obtain ⟨t, h1, h2, -⟩ := key j hj
    rw [h2]
    exact hp.1 t h1
  · obtain ⟨t, h1, h2, h3⟩ := key i hi
    obtain ⟨u, g1, g2, g3⟩ := key j hj
    have := hp.2 t u h1 g1 (by rw [← h2, ← g2]; exact e)
    subst this
    split at h3 <;> split at g3 <;> (try split at h3) <;> (try split at g3) <;> omega
/-- the places behind a removal of the j-th, of n -/
def rv_del (p : Nat → Nat) (j n : Nat) : Nat → Nat := fun t => if j ≤ t ∧ t + 1 < n then p (t + 1) else if t + 1 = n then p j else p t
theorem rv_del_ok {p : Nat → Nat} {j n : Nat} (hj : j < n) (hn : n ≤ 120) (hp : (∀ j, j < 120 → p j < 120) ∧ ∀ i j, i < 120 → j < 120 → p i = p j → i = j) : (∀ t, t < 120 → rv_del p j n t < 120) ∧ ∀ i t, i < 120 → t < 120 → rv_del p j n i = rv_del p j n t → i = t := by
  have key : ∀ t, t < 120 → ∃ u, u < 120 ∧ rv_del p j n t = p u ∧ (u = if j ≤ t ∧ t + 1 < n then t + 1 else if t + 1 = n then j else t) := by
    intro t ht
    refine ⟨if j ≤ t ∧ t + 1 < n then t + 1 else if t + 1 = n then j else t, ?_, ?_, rfl⟩
    · split
      · omega
      · split <;> omega
    · unfold rv_del
      split
      · rfl
      · split <;> rfl
  refine ⟨fun t ht => ?_, fun i t hi ht e => ?_⟩
  · obtain ⟨u, h1, h2, -⟩ := key t ht
    rw [h2]
    exact hp.1 u h1
  · obtain ⟨u, h1, h2, h3⟩ := key i hi
    obtain ⟨v, g1, g2, g3⟩ := key t ht
    have := hp.2 u v h1 g1 (by rw [← h2, ← g2]; exact e)
    subst this
    split at h3 <;> split at g3 <;> (try split at h3) <;> (try split at g3) <;> omega
end
section
/-! THE LIST OF WINDOWS: opening, removing -/
def weq (d : Wd) (o k b : Int32) : Bool := decide (d.1.1 = o ∧ d.1.2.1 = k) && decide (d.1.2.2.1 = b)
def rv_shf (f : Nat → Option Nat) (q j fr : Nat) : Nat → Option Nat := fun t => if t = q then some fr else if q < t ∧ t ≤ j then f (t - 1) else f t
theorem rv_shf_0 (f : Nat → Option Nat) (q fr : Nat) : rv_shf f q q fr = va_up f q (some fr) := by
  funext t
  unfold rv_shf va_up
  by_cases h : t = q
  · simp [h]
  · rw [if_neg h, if_neg h, if_neg (by omega)]
theorem rv_shf_1 (f : Nat → Option Nat) (q j fr a : Nat) (hq : q < j) (ha : f (j - 1) = some a) : rv_shf (va_up f j (some a)) q (j - 1) fr = rv_shf f q j fr := by
  funext t
  unfold rv_shf va_up
  by_cases h : t = q
  · rw [if_pos h, if_pos h]
  · rw [if_neg h, if_neg h]
    by_cases h1 : t = j
    · subst h1
      rw [if_neg (by omega), if_pos rfl, if_pos (by omega), ha]
    · by_cases h2 : q < t ∧ t ≤ j
      · rw [if_pos (by omega), if_neg (by omega), if_pos h2]
      · rw [if_neg (by omega), if_neg h1, if_neg h2]
/-- removal in the array: those behind j come forward -/
def rv_shb (f : Nat → Option Nat) (j m gone : Nat) : Nat → Option Nat := fun t => if t = m then some gone else if j ≤ t ∧ t < m then f (t + 1) else f t
theorem rv_shb_0 (f : Nat → Option Nat) (m gone : Nat) : rv_shb f m m gone = va_up f m (some gone) := by
  funext t
  unfold rv_shb va_up
  by_cases h : t = m
  · simp [h]
  · rw [if_neg h, if_neg h, if_neg (by omega)]
theorem rv_shb_1 (f : Nat → Option Nat) (j m gone a : Nat) (hj : j < m) (ha : f (j + 1) = some a) : rv_shb (va_up f j (some a)) (j + 1) m gone = rv_shb f j m gone := by
  funext t
  unfold rv_shb va_up
  by_cases h : t = m
  · rw [if_pos h, if_pos h]
  · rw [if_neg h, if_neg h]
    by_cases h1 : t = j
    · subst h1
      rw [if_neg (by omega), if_pos rfl, if_pos (by omega), ha]
    · by_cases h2 : j ≤ t ∧ t < m
      · rw [if_pos (by omega), if_neg (by omega), if_pos h2]
      · rw [if_neg (by omega), if_neg h1, if_neg h2]
/-- an array of windows -/
def rv_wins (g : Nat → Option rv_E) (wl : Nat) (f : Nat → Option Nat) : Prop := ∀ t, t < 120 → ∃ (a : Nat) (fs : List Value), f t = some a ∧ g a = some (.inl (k_Window, fs)) ∧ a ≠ wl + 1
theorem rv_wins.up {g : Nat → Option rv_E} {wl : Nat} {f : Nat → Option Nat} (h : rv_wins g wl f) {i a : Nat} (ha : ∃ fs : List Value, g a = some (.inl (k_Window, fs)) ∧ a ≠ wl + 1) (x : rv_E) : rv_wins (rv_up g (wl + 1) x) wl (va_up f i (some a)) := by
  intro t ht
  by_cases hti : t = i
  · subst hti
    obtain ⟨fs, h1, h2⟩ := ha
    exact ⟨a, fs, va_up_self _ _ _, (rv_up_n h2).trans h1, h2⟩
  · obtain ⟨a', fs, h1, h2, h3⟩ := h t ht
    exact ⟨a', fs, (va_up_ne _ _ hti).trans h1, (rv_up_n h3).trans h2, h3⟩

set_option maxRecDepth 100000 in
theorem ct_holds_in {G : rv_G} {σ : rv_S} {wl n : Nat} {p : Nat → Nat} {D : Nat → Wd} (h : PWL σ.2 wl n p D) (q : Nat) (hq : q < n) (o k b : Int32) : rv_Ct G i_WindowList_holds 0 0 [.ref wl, .int (nI q), .int o, .int k, .int b] σ (fun r σ' => r = some (.int (rv_b (weq (D (p q)) o k b))) ∧ σ' = σ) := by
  have h0 := h
  obtain ⟨hx, ⟨f, hf, hfe⟩, hW, hp, hn⟩ := h
  refine rv_ct (M := m_WindowList_holds) rfl (by decide) rfl rfl ?_
  refine rv_V.run rv_gd_WindowList_holds [] 400 ?_
  refine And.intro (Exists.intro _ hx) ?_
  refine ⟨_, _, _, ct_at_in h0 q hq, Nat.zero_le _, Nat.zero_le _, rfl, ?_⟩
  rintro _ _ ⟨rfl, rfl⟩
  refine And.intro (Exists.intro _ (hW _ (hp.1 q (by omega))).1) ?_
  refine ⟨_, _, _, ct_belongsTo _ _ _ _ _ _ _ _ _ o k (hW _ (hp.1 q (by omega))).1, Nat.zero_le _, Nat.zero_le _, rfl, ?_⟩
  rintro _ _ ⟨rfl, rfl⟩
  refine And.intro (fun c1 => ?_) (fun c1 => ?_)
  · refine And.intro (Or.inl rfl) ?_
    -- path T ret .int 0
    have hb := rv_b0.mp c1
    exact ⟨by rw [weq, hb]; rfl, rfl⟩
  · refine Exists.intro _ (And.intro (hW _ (hp.1 q (by omega))).1 ?_)
    refine And.intro (fun c2 => ?_) (fun c2 => ?_)
    · refine And.intro (Or.inr rfl) ?_
      -- path FT ret .int 1
      have hb := rv_bn c1
      exact ⟨by rw [weq, hb, decide_eq_true c2]; rfl, rfl⟩
    · refine And.intro (Or.inl rfl) ?_
      -- path FF ret .int 0
      have hb := rv_bn c1
      exact ⟨by rw [weq, hb, decide_eq_false c2]; rfl, rfl⟩

set_option maxRecDepth 100000 in
theorem ct_holds_out {G : rv_G} {σ : rv_S} {wl n : Nat} {p : Nat → Nat} {D : Nat → Wd} (h : PWL σ.2 wl n p D) (i : Int32) (hi : i < 0 ∨ nI n ≤ i) (o k b : Int32) : rv_Ct G i_WindowList_holds 0 0 [.ref wl, .int i, .int o, .int k, .int b] σ (fun r σ' => r = some (.int 0) ∧ σ' = σ) := by
  have h0 := h
  obtain ⟨hx, ⟨f, hf, hfe⟩, hW, hp, hn⟩ := h
  refine rv_ct (M := m_WindowList_holds) rfl (by decide) rfl rfl ?_
  refine rv_V.run rv_gd_WindowList_holds [] 400 ?_
  refine And.intro (Exists.intro _ hx) ?_
  refine ⟨_, _, _, ct_at_out h0 i hi, Nat.zero_le _, Nat.zero_le _, rfl, ?_⟩
  rintro _ _ ⟨rfl, rfl⟩
  refine And.intro (Or.inl rfl) ?_
  -- path  ret .int 0
  exact ⟨rfl, rfl⟩

set_option maxRecDepth 100000 in
theorem lp_open {G : rv_G} {wl q n : Nat} {o k b e : Int32} {fr : Nat} (hq : q ≤ n) (hn : n < 120) (hfr2 : fr ≠ wl + 1) {fs : List Value} : ∀ (m j : Nat) (vj : Int32) (f : Nat → Option Nat) (σ : rv_S), vj = nI j → j = q + m → j ≤ n → σ.2 wl = some (oWL (wl + 1) (nI n)) → σ.2 (wl + 1) = some (rv_aO RX8 120 f) → rv_wins σ.2 wl f → σ.2 fr = some (.inl (k_Window, fs)) → fr ≠ wl + 1 → rv_V G m_WindowList_open 0 0 (fun r σ' => r = none ∧ σ' = (σ.1, rv_up (rv_up σ.2 (wl + 1) (rv_aO RX8 120 (rv_shf f q j fr))) wl (oWL (wl + 1) (nI (n + 1))))) 41 [some (.ref wl), some (.int (nI q)), some (.int o), some (.int k), some (.int b), some (.int e), some (.ref fr), some (.int vj)] [] σ 0 0 := by
  intro m
  induction m with
  | zero =>
    intro j vj f σ ej h1 h2 hx hf hws hfr _
    have h1 : q = j := by omega
    refine rv_V.run rv_gd_WindowList_open [41] 400 ?_
    refine And.intro (fun c1 => ?_) (fun c1 => ?_)
    · refine Exists.intro _ (And.intro hx ?_)
      refine ⟨_, _, _, _, _, hfr, rfl, hf, by decide, (vp_in_nI (by omega) (by omega)), ?_⟩
      refine Exists.intro _ (And.intro ((rv_up_n (by first | omega | (unfold wa; omega))).trans hx) ?_)
      refine Exists.intro _ (And.intro ((rv_up_n (by first | omega | (unfold wa; omega))).trans hx) (And.intro trivial ?_))
      -- path T ret None
      refine ⟨rfl, ?_⟩
      rw [show rv_shf f q j fr = va_up f (nI q).toNatClampNeg (some fr) from by rw [nI_clamp (by omega), ← h1]; exact rv_shf_0 f q fr, ← nI_1]
      rfl
    · exact absurd ((rv_leN ej rfl (by omega) (by omega)).mpr (by omega)) c1
  | succ m ih =>
    intro j vj f σ ej h1 h2 hx hf hws hfr _
    have hj1 : vj - 1 = nI (j - 1) := by rw [ej]; obtain ⟨t, rfl⟩ : ∃ t, j = t + 1 := ⟨j - 1, by omega⟩; exact nI_pred t
    obtain ⟨a, fsa, ha, ha2, ha3⟩ := hws (j - 1) (by omega)
    refine rv_V.run rv_gd_WindowList_open [41] 400 ?_
    refine And.intro (fun c1 => ?_) (fun c1 => ?_)
    · exact absurd ((rv_leN ej rfl (by omega) (by omega)).mp c1) (by omega)
    · refine Exists.intro _ (And.intro hx ?_)
      refine Exists.intro _ (And.intro hx ?_)
      refine ⟨_, _, _, (some a), hf, by decide, (by rw [hj1]; exact vp_in_nI (by omega) (by omega)), (by rw [hj1, nI_clamp (by omega)]; exact ha), ?_⟩
      refine ⟨_, _, _, _, _, ha2, rfl, hf, by decide, (by rw [ej]; exact vp_in_nI (by omega) (by omega)), ?_⟩
      -- path F ret None
      refine (ih (j - 1) _ _ _ ?_ (by omega) (by omega) ((rv_up_n (by omega)).trans hx) rv_up_s (hws.up ⟨_, ha2, ha3⟩ _) ((rv_up_n hfr2).trans hfr) hfr2).mono ?_
      · rw [ej]; exact pk_m1 (j - 1) ▸ (by rw [show j - 1 + 1 = j by omega])
      · rintro r σ' ⟨e1, e2⟩
        refine ⟨e1, ?_⟩
        rw [e2, rv_up_up, show vj.toNatClampNeg = j by rw [ej]; exact nI_clamp (by omega), rv_shf_1 f q j fr a (by omega) ha]
end
section
/-! THE LIST OF WINDOWS: opening and removing, whole -/
/-- a window that begins -/
def rv_fresh (o k b e : Int32) : Wd := ((o, k, b, e), (false, false), (0, 0, 0, 0), (0, 0, 0, 0))
theorem PWL.wins {g : Nat → Option rv_E} {wl n : Nat} {p : Nat → Nat} {D : Nat → Wd} (h : PWL g wl n p D) {f : Nat → Option Nat} (hfe : ∀ j, j < 120 → f j = some (wa wl (p j))) : rv_wins g wl f := fun t ht => ⟨_, _, hfe t ht, (h.2.2.1 _ (h.2.2.2.1.1 t ht)).1, by unfold wa; omega⟩
set_option maxRecDepth 100000 in
theorem ct_WL_open {G : rv_G} {σ : rv_S} {wl n : Nat} {p : Nat → Nat} {D : Nat → Wd} (h : PWL σ.2 wl n p D) (q : Nat) (hq : q ≤ n) (hr : n < 120) (o k b e : Int32) : rv_Ct G i_WindowList_open 0 0 [.ref wl, .int (nI q), .int o, .int k, .int b, .int e] σ (fun r σ' => r = none ∧ σ'.1 = σ.1 ∧ PWL σ'.2 wl (n + 1) (rv_ins p q n) (va_up D (p n) (rv_fresh o k b e)) ∧ rv_out wl 362 σ.2 σ'.2) := by
  have h0 := h
  have hpn := h.2.2.2.1.1 n hr
  have hw := h.2.2.1 _ hpn
  obtain ⟨hx, ⟨f, hf, hfe⟩, hW, hp, hn⟩ := h
  refine rv_ct (M := m_WindowList_open) rfl (by decide) rfl rfl ?_
  refine rv_V.run rv_gd_WindowList_open [41] 400 ?_
  refine Exists.intro _ (And.intro hx ?_)
  refine Exists.intro _ (And.intro hx ?_)
  refine Exists.intro _ (Exists.intro _ (Exists.intro _ (And.intro hf ?_)))
  refine And.intro (fun c1 => ?_) (fun c1 => ?_)
  · refine Exists.intro _ (And.intro hx ?_)
    refine Exists.intro _ (And.intro hx ?_)
    refine ⟨_, _, _, (some (wa wl (p n))), hf, by decide, (vp_in_nI (by omega) (by omega)), (by rw [nI_clamp (by omega)]; exact hfe n hr), ?_⟩
    refine And.intro (Exists.intro _ hw.1) ?_
    refine ⟨_, _, _, ct_Window_start _ _ _ _ _ _ _ _ _ o k b e _ _ _ _ _ _ _ _ hw.1 hw.2.1 hw.2.2 (by omega) (by omega) (by omega), Nat.zero_le _, Nat.zero_le _, rfl, ?_⟩
    rintro _ _ ⟨rfl, rfl⟩
    refine Exists.intro _ (And.intro ((rv_up_n (by first | omega | (unfold wa; omega))).trans ((rv_up_n (by first | omega | (unfold wa; omega))).trans ((rv_up_n (by first | omega | (unfold wa; omega))).trans hx))) ?_)
    -- path T ret None
    have hP1 := h0.setW hpn (o, k, b, e) (false, false)
    have hP2 := hP1.setH hpn (0, 0, 0, 0)
    have hP3 := hP2.setT hpn (0, 0, 0, 0)
    refine (lp_open (fs := _) hq hr (by unfold wa; omega) (n - q) n _ f _ rfl (by omega) (Nat.le_refl _) hP3.1 ((rv_up_n (by unfold wa; omega)).trans ((rv_up_n (by unfold wa; omega)).trans ((rv_up_n (by unfold wa; omega)).trans hf))) (hP3.wins hfe) (hP3.2.2.1 _ hpn).1 (by unfold wa; omega)).mono ?_
    rintro r σ' ⟨e1, e2⟩
    have hP4 := (hP3.setA (p' := rv_ins p q n) (f' := rv_shf f q n (wa wl (p n))) (fun j hj => by
      unfold rv_shf rv_ins
      by_cases h1 : j = q
      · rw [if_pos h1, if_pos h1]
      · rw [if_neg h1, if_neg h1]
        by_cases h2 : q < j ∧ j ≤ n
        · rw [if_pos h2, if_pos h2]; exact hfe _ (by omega)
        · rw [if_neg h2, if_neg h2]; exact hfe _ hj) (rv_ins_ok hq hr hp)).setN (n' := n + 1) (by omega)
    refine ⟨e1, by rw [e2], ?_, ?_⟩
    · rw [e2]
      have hP5 := hP4
      simp only [bx_uu, va_up_self] at hP5
      exact hP5
    · rw [e2]
      exact ((((rv_out.up (by unfold wa; omega)).tr (rv_out.up (by unfold wa; omega))).tr (rv_out.up (by unfold wa; omega))).tr (rv_out.up (by omega))).tr (rv_out.up (by omega))
  · exact absurd ((nI_ltI (b := 120) (by omega) (by omega)).mpr hr) c1

set_option maxRecDepth 100000 in
theorem lp_remove {G : rv_G} {wl m : Nat} {gone : Nat} {x1 : Option Value} (hm : m < 120) (hg2 : gone ≠ wl + 1) {fs : List Value} : ∀ (t j : Nat) (vj : Int32) (f : Nat → Option Nat) (σ : rv_S), vj = nI j → j + t = m → σ.2 wl = some (oWL (wl + 1) (nI m)) → σ.2 (wl + 1) = some (rv_aO RX8 120 f) → rv_wins σ.2 wl f → σ.2 gone = some (.inl (k_Window, fs)) → rv_V G m_WindowList_remove 0 0 (fun r σ' => r = none ∧ σ' = (σ.1, rv_up σ.2 (wl + 1) (rv_aO RX8 120 (rv_shb f j m gone)))) 23 [some (.ref wl), x1, some (.ref gone), some (.int vj)] [] σ 0 0 := by
  intro t
  induction t with
  | zero =>
    intro j vj f σ ej h1 hx hf hws hg
    have h1 : j = m := by omega
    refine rv_V.run rv_gd_WindowList_remove [23] 400 ?_
    refine Exists.intro _ (And.intro hx ?_)
    refine And.intro (fun c1 => ?_) (fun c1 => ?_)
    · refine Exists.intro _ (And.intro hx ?_)
      refine Exists.intro _ (And.intro hx ?_)
      refine ⟨_, _, _, _, _, hg, rfl, hf, by decide, (vp_in_nI (by omega) (by omega)), ?_⟩
      -- path T ret None
      refine ⟨rfl, ?_⟩
      rw [show rv_shb f j m gone = va_up f (nI m).toNatClampNeg (some gone) from by rw [nI_clamp (by omega), h1]; exact rv_shb_0 f m gone]
    · exact absurd ((rv_leN rfl ej (by omega) (by omega)).mpr (by omega)) c1
  | succ t ih =>
    intro j vj f σ ej h1 hx hf hws hg
    have hj1 : vj + 1 = nI (j + 1) := by rw [ej]; exact nI_1 j
    obtain ⟨a, fsa, ha, ha2, ha3⟩ := hws (j + 1) (by omega)
    refine rv_V.run rv_gd_WindowList_remove [23] 400 ?_
    refine Exists.intro _ (And.intro hx ?_)
    refine And.intro (fun c1 => ?_) (fun c1 => ?_)
    · exact absurd ((rv_leN rfl ej (by omega) (by omega)).mp c1) (by omega)
    · refine Exists.intro _ (And.intro hx ?_)
      refine Exists.intro _ (And.intro hx ?_)
      refine ⟨_, _, _, (some a), hf, by decide, (by rw [hj1]; exact vp_in_nI (by omega) (by omega)), (by rw [hj1, nI_clamp (by omega)]; exact ha), ?_⟩
      refine ⟨_, _, _, _, _, ha2, rfl, hf, by decide, (by rw [ej]; exact vp_in_nI (by omega) (by omega)), ?_⟩
      -- path F ret None
      refine (ih (j + 1) _ _ _ (by rw [ej]; exact nI_1 j) (by omega) ((rv_up_n (by omega)).trans hx) rv_up_s (hws.up ⟨_, ha2, ha3⟩ _) ((rv_up_n hg2).trans hg)).mono ?_
      rintro r σ' ⟨e1, e2⟩
      refine ⟨e1, ?_⟩
      rw [e2, rv_up_up, show vj.toNatClampNeg = j by rw [ej]; exact nI_clamp (by omega), rv_shb_1 f j m gone a (by omega) ha]
set_option maxRecDepth 100000 in
theorem ct_WL_remove {G : rv_G} {σ : rv_S} {wl n : Nat} {p : Nat → Nat} {D : Nat → Wd} (h : PWL σ.2 wl n p D) (j : Nat) (hj : j < n) : rv_Ct G i_WindowList_remove 0 0 [.ref wl, .int (nI j)] σ (fun r σ' => r = none ∧ σ'.1 = σ.1 ∧ PWL σ'.2 wl (n - 1) (rv_del p j n) D ∧ rv_out wl 362 σ.2 σ'.2) := by
  have h0 := h
  obtain ⟨hx, ⟨f, hf, hfe⟩, hW, hp, hn⟩ := h
  refine rv_ct (M := m_WindowList_remove) rfl (by decide) rfl rfl ?_
  refine rv_V.run rv_gd_WindowList_remove [23] 400 ?_
  refine And.intro (Exists.intro _ hx) ?_
  refine ⟨_, _, _, ct_at_in h0 j hj, Nat.zero_le _, Nat.zero_le _, rfl, ?_⟩
  rintro _ _ ⟨rfl, rfl⟩
  refine Exists.intro _ (And.intro hx ?_)
  refine Exists.intro _ (And.intro hx (And.intro trivial ?_))
  -- path  ret None
  rw [show nI n - 1 = nI (n - 1) by obtain ⟨t, rfl⟩ : ∃ t, n = t + 1 := ⟨n - 1, by omega⟩; exact nI_pred t]
  have hP1 := h0.setN (n' := n - 1) (by omega)
  refine (lp_remove (fs := _) (m := n - 1) (by omega) (by unfold wa; omega) (n - 1 - j) j _ f _ rfl (by omega) hP1.1 ((rv_up_n (by omega)).trans hf) (hP1.wins hfe) (hP1.2.2.1 _ (hp.1 j (by omega))).1).mono ?_
  rintro r σ' ⟨e1, e2⟩
  have hP2 := hP1.setA (p' := rv_del p j n) (f' := rv_shb f j (n - 1) (wa wl (p j))) (fun t ht => by
    unfold rv_shb rv_del
    by_cases h1 : t = n - 1
    · rw [if_pos h1, if_neg (by omega), if_pos (by omega)]
    · rw [if_neg h1]
      by_cases h2 : j ≤ t ∧ t < n - 1
      · rw [if_pos h2, if_pos (by omega)]; exact hfe _ (by omega)
      · rw [if_neg h2, if_neg (by omega), if_neg (by omega)]; exact hfe _ ht) (rv_del_ok hj hn hp)
  refine ⟨e1, by rw [e2], by rw [e2]; exact hP2, ?_⟩
  rw [e2]
  exact (rv_out.up (by omega)).tr (rv_out.up (by omega))
end
section
/-! THE LIST OF WINDOWS: which is next -/
def wdue (d : Wd) (o m : Int32) : Bool := decide (d.1.1 = o) && (!d.2.1.1 && decide (d.1.2.2.2 ≤ m))
def wcls (d : Wd) (o l m : Int32) : Bool := decide (d.1.1 = o) && decide (d.1.2.2.2 + l ≤ m)
/-- v is the place of the first of least E among those below i that Q has; -1 if there is none -/
def rv_first (Q : Nat → Bool) (E : Nat → Int32) (i : Nat) (v : Int32) : Prop := (v = -1 ∧ ∀ t, t < i → Q t = false) ∨ ∃ j, j < i ∧ v = nI j ∧ Q j = true ∧ ∀ t, t < i → Q t = true → (E j < E t ∨ (E j = E t ∧ j ≤ t))
theorem rv_first_skip {Q : Nat → Bool} {E : Nat → Int32} {i : Nat} {v : Int32} (h : rv_first Q E i v) (hQ : Q i = false) : rv_first Q E (i + 1) v := by
  rcases h with ⟨h1, h2⟩ | ⟨j, h1, h2, h3, h4⟩
  · refine Or.inl ⟨h1, fun t ht => ?_⟩
    rcases Nat.lt_or_ge t i with q | q
    · exact h2 t q
    · obtain rfl : t = i := by omega
      exact hQ
  · refine Or.inr ⟨j, by omega, h2, h3, fun t ht hq => ?_⟩
    rcases Nat.lt_or_ge t i with q | q
    · exact h4 t q hq
    · obtain rfl : t = i := by omega
      rw [hQ] at hq
      cases hq
theorem rv_first_new {Q : Nat → Bool} {E : Nat → Int32} {i : Nat} (h : ∀ t, t < i → Q t = false) (hQ : Q i = true) : rv_first Q E (i + 1) (nI i) := by
  refine Or.inr ⟨i, by omega, rfl, hQ, fun t ht hq => ?_⟩
  rcases Nat.lt_or_ge t i with q | q
  · rw [h t q] at hq
    cases hq
  · obtain rfl : t = i := by omega
    exact Or.inr ⟨rfl, Nat.le_refl _⟩
theorem rv_first_keep {Q : Nat → Bool} {E : Nat → Int32} {i j : Nat} (h1 : j < i) (h3 : Q j = true) (h4 : ∀ t, t < i → Q t = true → (E j < E t ∨ (E j = E t ∧ j ≤ t))) (hE : ¬ E i < E j) : rv_first Q E (i + 1) (nI j) := by
  refine Or.inr ⟨j, by omega, rfl, h3, fun t ht hq => ?_⟩
  rcases Nat.lt_or_ge t i with q | q
  · exact h4 t q hq
  · obtain rfl : t = i := by omega
    rcases Int32.lt_or_eq_of_le (Int32.not_lt.mp hE) with z | z
    · exact Or.inl z
    · exact Or.inr ⟨z, by omega⟩
theorem rv_first_take {Q : Nat → Bool} {E : Nat → Int32} {i j : Nat} (hQ : Q i = true) (h4 : ∀ t, t < i → Q t = true → (E j < E t ∨ (E j = E t ∧ j ≤ t))) (hE : E i < E j) : rv_first Q E (i + 1) (nI i) := by
  refine Or.inr ⟨i, by omega, rfl, hQ, fun t ht hq => ?_⟩
  rcases Nat.lt_or_ge t i with q | q
  · rcases h4 t q hq with z | z
    · exact Or.inl (Int32.lt_trans hE z)
    · exact Or.inl (by rw [← z.1]; exact hE)
  · obtain rfl : t = i := by omega
    exact Or.inr ⟨rfl, Nat.le_refl _⟩
set_option maxRecDepth 100000 in
theorem ct_endsBefore_m {G : rv_G} {σ : rv_S} {wl n : Nat} {p : Nat → Nat} {D : Nat → Wd} (h : PWL σ.2 wl n p D) (a : Nat) : rv_Ct G i_WindowList_endsBefore 0 0 [.ref wl, .ref a, .int (-1)] σ (fun r σ' => r = some (.int 1) ∧ σ' = σ) := by
  obtain ⟨hx, ⟨f, hf, hfe⟩, hW, hp, hn⟩ := h
  refine rv_ct (M := m_WindowList_endsBefore) rfl (by decide) rfl rfl ?_
  refine rv_V.run rv_gd_WindowList_endsBefore [] 400 ?_
  refine And.intro (fun c1 => ?_) (fun c1 => ?_)
  · refine And.intro (Or.inr rfl) ?_
    -- path T ret .int 1
    exact ⟨rfl, rfl⟩
  · exact absurd (by decide) c1

set_option maxRecDepth 100000 in
theorem lp_nextDue {G : rv_G} {σ : rv_S} {wl n : Nat} {p : Nat → Nat} {D : Nat → Wd} (h : PWL σ.2 wl n p D) (x : Nat) (o k s st l r0 m : Int32) (ho : σ.2 x = some (oOp o k s st l r0 m)) : ∀ (t i : Nat) (vn vi : Int32) (x4 : Option Value), vi = nI i → i + t = n → rv_first (fun t => wdue (D (p t)) o m) (fun t => (D (p t)).1.2.2.2) i vn → rv_V G m_WindowList_nextDue 0 0 (fun r σ' => (∃ v : Int32, rv_first (fun t => wdue (D (p t)) o m) (fun t => (D (p t)).1.2.2.2) n v ∧ r = some (.int v)) ∧ σ' = σ) 4 [some (.ref wl), some (.ref x), some (.int vn), some (.int vi), x4] [] σ 0 0 := by
  have h0 := h
  obtain ⟨hx, ⟨f, hf, hfe⟩, hW, hp, hn⟩ := h
  intro t
  induction t with
  | zero =>
    intro i vn vi x4 ei h1 hv
    refine rv_V.run rv_gd_WindowList_nextDue [4] 400 ?_
    refine Exists.intro _ (And.intro hx ?_)
    refine And.intro (fun c1 => ?_) (fun c1 => ?_)
    · refine And.intro trivial ?_
      exact ⟨⟨_, by rw [show i = n by omega] at hv; exact hv, rfl⟩, rfl⟩
    · exact absurd ((rv_leN rfl ei (by omega) (by omega)).mpr (by omega)) c1
  | succ t ih =>
    intro i vn vi x4 ei h1 hv
    have hv0 := hv
    rcases hv0 with ⟨rfl, hQ0⟩ | ⟨j, hj, rfl, hQj, h4⟩
    ·
      refine rv_V.run rv_gd_WindowList_nextDue [4] 400 ?_
      refine Exists.intro _ (And.intro hx ?_)
      refine And.intro (fun c1 => ?_) (fun c1 => ?_)
      · refine And.intro trivial ?_
        -- path T ret .int (-1)
        exact ⟨⟨_, by rw [show i = n by have := (rv_leN rfl ei (by omega) (by omega)).mp c1; omega] at hv; exact hv, rfl⟩, rfl⟩
      · have hin : i < n := by
          rcases Nat.lt_or_ge i n with q | q
          · exact q
          · exact absurd ((rv_leN rfl ei (by omega) (by omega)).mpr q) c1
        refine Exists.intro _ (And.intro hx ?_)
        refine ⟨_, _, _, (some (wa wl (p i))), hf, by decide, (by rw [ei]; exact vp_in_nI (by omega) (by omega)), (by rw [ei, nI_clamp (by omega)]; exact hfe i (by omega)), ?_⟩
        refine Exists.intro _ (And.intro (hW _ (hp.1 i (by omega))).1 ?_)
        refine Exists.intro _ (And.intro ho ?_)
        refine And.intro (fun c2 => ?_) (fun c2 => ?_)
        · refine Exists.intro _ (And.intro (hW _ (hp.1 i (by omega))).1 ?_)
          refine And.intro (fun c3 => ?_) (fun c3 => ?_)
          · refine Exists.intro _ (And.intro (hW _ (hp.1 i (by omega))).1 ?_)
            refine And.intro (Exists.intro _ ho) ?_
            refine ⟨_, _, _, ct_hasReached _ _ _ _ _ _ _ _ _ ho, Nat.zero_le _, Nat.zero_le _, rfl, ?_⟩
            rintro _ _ ⟨rfl, rfl⟩
            refine And.intro (fun c4 => ?_) (fun c4 => ?_)
            · -- path FTTT ret None
              exact ih (i + 1) _ _ _ (by rw [ei]; exact nI_1 i) (by omega) (rv_first_skip (Or.inl ⟨rfl, hQ0⟩) (by show wdue _ _ _ = false; rw [wdue, rv_b0.mp c4]; simp))
            · refine And.intro (Exists.intro _ hx) ?_
              refine ⟨_, _, _, ct_endsBefore_m h0 _, Nat.zero_le _, Nat.zero_le _, rfl, ?_⟩
              rintro _ _ ⟨rfl, rfl⟩
              refine And.intro (fun c5 => ?_) (fun c5 => ?_)
              · exact absurd c5 (by decide)
              · -- path FTTFF ret None
                exact ih (i + 1) _ _ _ (by rw [ei]; exact nI_1 i) (by omega) (by rw [ei]; exact rv_first_new hQ0 (show wdue _ _ _ = true by rw [wdue, decide_eq_true c2, rv_b0.mp c3, rv_bn c4]; rfl))
          · -- path FTF ret None
            exact ih (i + 1) _ _ _ (by rw [ei]; exact nI_1 i) (by omega) (rv_first_skip (Or.inl ⟨rfl, hQ0⟩) (by show wdue _ _ _ = false; rw [wdue, rv_bn c3]; simp))
        · -- path FF ret None
          exact ih (i + 1) _ _ _ (by rw [ei]; exact nI_1 i) (by omega) (rv_first_skip (Or.inl ⟨rfl, hQ0⟩) (by show wdue _ _ _ = false; rw [wdue, decide_eq_false c2]; rfl))
    ·
      refine rv_V.run rv_gd_WindowList_nextDue [4] 400 ?_
      refine Exists.intro _ (And.intro hx ?_)
      refine And.intro (fun c1 => ?_) (fun c1 => ?_)
      · refine And.intro trivial ?_
        -- path T ret .int (nI j)
        exact ⟨⟨_, by rw [show i = n by have := (rv_leN rfl ei (by omega) (by omega)).mp c1; omega] at hv; exact hv, rfl⟩, rfl⟩
      · have hin : i < n := by
          rcases Nat.lt_or_ge i n with q | q
          · exact q
          · exact absurd ((rv_leN rfl ei (by omega) (by omega)).mpr q) c1
        refine Exists.intro _ (And.intro hx ?_)
        refine ⟨_, _, _, (some (wa wl (p i))), hf, by decide, (by rw [ei]; exact vp_in_nI (by omega) (by omega)), (by rw [ei, nI_clamp (by omega)]; exact hfe i (by omega)), ?_⟩
        refine Exists.intro _ (And.intro (hW _ (hp.1 i (by omega))).1 ?_)
        refine Exists.intro _ (And.intro ho ?_)
        refine And.intro (fun c2 => ?_) (fun c2 => ?_)
        · refine Exists.intro _ (And.intro (hW _ (hp.1 i (by omega))).1 ?_)
          refine And.intro (fun c3 => ?_) (fun c3 => ?_)
          · refine Exists.intro _ (And.intro (hW _ (hp.1 i (by omega))).1 ?_)
            refine And.intro (Exists.intro _ ho) ?_
            refine ⟨_, _, _, ct_hasReached _ _ _ _ _ _ _ _ _ ho, Nat.zero_le _, Nat.zero_le _, rfl, ?_⟩
            rintro _ _ ⟨rfl, rfl⟩
            refine And.intro (fun c4 => ?_) (fun c4 => ?_)
            · -- path FTTT ret None
              exact ih (i + 1) _ _ _ (by rw [ei]; exact nI_1 i) (by omega) (rv_first_skip (Or.inr ⟨j, hj, rfl, hQj, h4⟩) (by show wdue _ _ _ = false; rw [wdue, rv_b0.mp c4]; simp))
            · refine And.intro (Exists.intro _ hx) ?_
              refine ⟨_, _, _, ct_endsBefore h0 _ _ (hW _ (hp.1 i (by omega))).1 j (by omega), Nat.zero_le _, Nat.zero_le _, rfl, ?_⟩
              rintro _ _ ⟨rfl, rfl⟩
              refine And.intro (fun c5 => ?_) (fun c5 => ?_)
              · -- path FTTFT ret None
                exact ih (i + 1) _ _ _ (by rw [ei]; exact nI_1 i) (by omega) (rv_first_keep hj hQj h4 (of_decide_eq_false (rv_b0.mp c5)))
              · -- path FTTFF ret None
                exact ih (i + 1) _ _ _ (by rw [ei]; exact nI_1 i) (by omega) (by rw [ei]; exact rv_first_take (show wdue _ _ _ = true by rw [wdue, decide_eq_true c2, rv_b0.mp c3, rv_bn c4]; rfl) h4 (of_decide_eq_true (rv_bn c5)))
          · -- path FTF ret None
            exact ih (i + 1) _ _ _ (by rw [ei]; exact nI_1 i) (by omega) (rv_first_skip (Or.inr ⟨j, hj, rfl, hQj, h4⟩) (by show wdue _ _ _ = false; rw [wdue, rv_bn c3]; simp))
        · -- path FF ret None
          exact ih (i + 1) _ _ _ (by rw [ei]; exact nI_1 i) (by omega) (rv_first_skip (Or.inr ⟨j, hj, rfl, hQj, h4⟩) (by show wdue _ _ _ = false; rw [wdue, decide_eq_false c2]; rfl))
set_option maxRecDepth 100000 in
theorem ct_nextDue {G : rv_G} {σ : rv_S} {wl n : Nat} {p : Nat → Nat} {D : Nat → Wd} (h : PWL σ.2 wl n p D) (x : Nat) (o k s st l r0 m : Int32) (ho : σ.2 x = some (oOp o k s st l r0 m)) : rv_Ct G i_WindowList_nextDue 0 0 [.ref wl, .ref x] σ (fun r σ' => (∃ v : Int32, rv_first (fun t => wdue (D (p t)) o m) (fun t => (D (p t)).1.2.2.2) n v ∧ r = some (.int v)) ∧ σ' = σ) := by
  refine rv_ct (M := m_WindowList_nextDue) rfl (by decide) rfl rfl ?_
  refine rv_V.run rv_gd_WindowList_nextDue [4] 400 ?_
  exact lp_nextDue h x o k s st l r0 m ho n 0 _ _ _ rfl (by omega) (Or.inl ⟨rfl, fun t ht => absurd ht (by omega)⟩)
set_option maxRecDepth 100000 in
theorem lp_nextClosed {G : rv_G} {σ : rv_S} {wl n : Nat} {p : Nat → Nat} {D : Nat → Wd} (h : PWL σ.2 wl n p D) (x : Nat) (o k s st l r0 m : Int32) (ho : σ.2 x = some (oOp o k s st l r0 m)) : ∀ (t i : Nat) (vn vi : Int32) (x4 : Option Value), vi = nI i → i + t = n → rv_first (fun t => wcls (D (p t)) o l m) (fun t => (D (p t)).1.2.2.2) i vn → rv_V G m_WindowList_nextClosed 0 0 (fun r σ' => (∃ v : Int32, rv_first (fun t => wcls (D (p t)) o l m) (fun t => (D (p t)).1.2.2.2) n v ∧ r = some (.int v)) ∧ σ' = σ) 4 [some (.ref wl), some (.ref x), some (.int vn), some (.int vi), x4] [] σ 0 0 := by
  have h0 := h
  obtain ⟨hx, ⟨f, hf, hfe⟩, hW, hp, hn⟩ := h
  intro t
  induction t with
  | zero =>
    intro i vn vi x4 ei h1 hv
    refine rv_V.run rv_gd_WindowList_nextClosed [4] 400 ?_
    refine Exists.intro _ (And.intro hx ?_)
    refine And.intro (fun c1 => ?_) (fun c1 => ?_)
    · refine And.intro trivial ?_
      exact ⟨⟨_, by rw [show i = n by omega] at hv; exact hv, rfl⟩, rfl⟩
    · exact absurd ((rv_leN rfl ei (by omega) (by omega)).mpr (by omega)) c1
  | succ t ih =>
    intro i vn vi x4 ei h1 hv
    have hv0 := hv
    rcases hv0 with ⟨rfl, hQ0⟩ | ⟨j, hj, rfl, hQj, h4⟩
    ·
      refine rv_V.run rv_gd_WindowList_nextClosed [4] 400 ?_
      refine Exists.intro _ (And.intro hx ?_)
      refine And.intro (fun c1 => ?_) (fun c1 => ?_)
      · refine And.intro trivial ?_
        -- path T ret .int (-1)
        exact ⟨⟨_, by rw [show i = n by have := (rv_leN rfl ei (by omega) (by omega)).mp c1; omega] at hv; exact hv, rfl⟩, rfl⟩
      · have hin : i < n := by
          rcases Nat.lt_or_ge i n with q | q
          · exact q
          · exact absurd ((rv_leN rfl ei (by omega) (by omega)).mpr q) c1
        refine Exists.intro _ (And.intro hx ?_)
        refine ⟨_, _, _, (some (wa wl (p i))), hf, by decide, (by rw [ei]; exact vp_in_nI (by omega) (by omega)), (by rw [ei, nI_clamp (by omega)]; exact hfe i (by omega)), ?_⟩
        refine Exists.intro _ (And.intro (hW _ (hp.1 i (by omega))).1 ?_)
        refine Exists.intro _ (And.intro ho ?_)
        refine And.intro (fun c2 => ?_) (fun c2 => ?_)
        · refine Exists.intro _ (And.intro (hW _ (hp.1 i (by omega))).1 ?_)
          refine And.intro (Exists.intro _ ho) ?_
          refine ⟨_, _, _, ct_closes _ _ _ _ _ _ _ _ _ ho, Nat.zero_le _, Nat.zero_le _, rfl, ?_⟩
          rintro _ _ ⟨rfl, rfl⟩
          refine And.intro (fun c3 => ?_) (fun c3 => ?_)
          · -- path FTT ret None
            exact ih (i + 1) _ _ _ (by rw [ei]; exact nI_1 i) (by omega) (rv_first_skip (Or.inl ⟨rfl, hQ0⟩) (by show wcls _ _ _ _ = false; rw [wcls, rv_b0.mp c3]; simp))
          · refine And.intro (Exists.intro _ hx) ?_
            refine ⟨_, _, _, ct_endsBefore_m h0 _, Nat.zero_le _, Nat.zero_le _, rfl, ?_⟩
            rintro _ _ ⟨rfl, rfl⟩
            refine And.intro (fun c4 => ?_) (fun c4 => ?_)
            · exact absurd c4 (by decide)
            · -- path FTFF ret None
              exact ih (i + 1) _ _ _ (by rw [ei]; exact nI_1 i) (by omega) (by rw [ei]; exact rv_first_new hQ0 (show wcls _ _ _ _ = true by rw [wcls, decide_eq_true c2, rv_bn c3]; rfl))
        · -- path FF ret None
          exact ih (i + 1) _ _ _ (by rw [ei]; exact nI_1 i) (by omega) (rv_first_skip (Or.inl ⟨rfl, hQ0⟩) (by show wcls _ _ _ _ = false; rw [wcls, decide_eq_false c2]; rfl))
    ·
      refine rv_V.run rv_gd_WindowList_nextClosed [4] 400 ?_
      refine Exists.intro _ (And.intro hx ?_)
      refine And.intro (fun c1 => ?_) (fun c1 => ?_)
      · refine And.intro trivial ?_
        -- path T ret .int (nI j)
        exact ⟨⟨_, by rw [show i = n by have := (rv_leN rfl ei (by omega) (by omega)).mp c1; omega] at hv; exact hv, rfl⟩, rfl⟩
      · have hin : i < n := by
          rcases Nat.lt_or_ge i n with q | q
          · exact q
          · exact absurd ((rv_leN rfl ei (by omega) (by omega)).mpr q) c1
        refine Exists.intro _ (And.intro hx ?_)
        refine ⟨_, _, _, (some (wa wl (p i))), hf, by decide, (by rw [ei]; exact vp_in_nI (by omega) (by omega)), (by rw [ei, nI_clamp (by omega)]; exact hfe i (by omega)), ?_⟩
        refine Exists.intro _ (And.intro (hW _ (hp.1 i (by omega))).1 ?_)
        refine Exists.intro _ (And.intro ho ?_)
        refine And.intro (fun c2 => ?_) (fun c2 => ?_)
        · refine Exists.intro _ (And.intro (hW _ (hp.1 i (by omega))).1 ?_)
          refine And.intro (Exists.intro _ ho) ?_
          refine ⟨_, _, _, ct_closes _ _ _ _ _ _ _ _ _ ho, Nat.zero_le _, Nat.zero_le _, rfl, ?_⟩
          rintro _ _ ⟨rfl, rfl⟩
          refine And.intro (fun c3 => ?_) (fun c3 => ?_)
          · -- path FTT ret None
            exact ih (i + 1) _ _ _ (by rw [ei]; exact nI_1 i) (by omega) (rv_first_skip (Or.inr ⟨j, hj, rfl, hQj, h4⟩) (by show wcls _ _ _ _ = false; rw [wcls, rv_b0.mp c3]; simp))
          · refine And.intro (Exists.intro _ hx) ?_
            refine ⟨_, _, _, ct_endsBefore h0 _ _ (hW _ (hp.1 i (by omega))).1 j (by omega), Nat.zero_le _, Nat.zero_le _, rfl, ?_⟩
            rintro _ _ ⟨rfl, rfl⟩
            refine And.intro (fun c4 => ?_) (fun c4 => ?_)
            · -- path FTFT ret None
              exact ih (i + 1) _ _ _ (by rw [ei]; exact nI_1 i) (by omega) (rv_first_keep hj hQj h4 (of_decide_eq_false (rv_b0.mp c4)))
            · -- path FTFF ret None
              exact ih (i + 1) _ _ _ (by rw [ei]; exact nI_1 i) (by omega) (by rw [ei]; exact rv_first_take (show wcls _ _ _ _ = true by rw [wcls, decide_eq_true c2, rv_bn c3]; rfl) h4 (of_decide_eq_true (rv_bn c4)))
        · -- path FF ret None
          exact ih (i + 1) _ _ _ (by rw [ei]; exact nI_1 i) (by omega) (rv_first_skip (Or.inr ⟨j, hj, rfl, hQj, h4⟩) (by show wcls _ _ _ _ = false; rw [wcls, decide_eq_false c2]; rfl))
set_option maxRecDepth 100000 in
theorem ct_nextClosed {G : rv_G} {σ : rv_S} {wl n : Nat} {p : Nat → Nat} {D : Nat → Wd} (h : PWL σ.2 wl n p D) (x : Nat) (o k s st l r0 m : Int32) (ho : σ.2 x = some (oOp o k s st l r0 m)) : rv_Ct G i_WindowList_nextClosed 0 0 [.ref wl, .ref x] σ (fun r σ' => (∃ v : Int32, rv_first (fun t => wcls (D (p t)) o l m) (fun t => (D (p t)).1.2.2.2) n v ∧ r = some (.int v)) ∧ σ' = σ) := by
  refine rv_ct (M := m_WindowList_nextClosed) rfl (by decide) rfl rfl ?_
  refine rv_V.run rv_gd_WindowList_nextClosed [4] 400 ?_
  exact lp_nextClosed h x o k s st l r0 m ho n 0 _ _ _ rfl (by omega) (Or.inl ⟨rfl, fun t ht => absurd ht (by omega)⟩)
end
section
/-! THE LIST OF WINDOWS: in its order; finding -/
theorem rv_before_iff (o k b o2 k2 b2 : Int32) : rv_before o k b o2 k2 b2 = true ↔ (o.toInt < o2.toInt ∨ (o.toInt = o2.toInt ∧ (k.toInt < k2.toInt ∨ (k.toInt = k2.toInt ∧ b.toInt < b2.toInt)))) := by
  unfold rv_before
  by_cases h1 : o = o2
  · subst h1
    rw [if_pos rfl]
    by_cases h2 : k = k2
    · subst h2
      rw [if_pos rfl, decide_eq_true_eq, Int32.lt_iff_toInt_lt]
      omega
    · have h3 : ¬ k.toInt = k2.toInt := fun q => h2 (Int32.toInt_inj.mp q)
      rw [if_neg h2, decide_eq_true_eq, Int32.lt_iff_toInt_lt]
      omega
  · have h3 : ¬ o.toInt = o2.toInt := fun q => h1 (Int32.toInt_inj.mp q)
    rw [if_neg h1, decide_eq_true_eq, Int32.lt_iff_toInt_lt]
    omega
/-- strictly in order, by operators, keys, begins -/
def WS (n : Nat) (p : Nat → Nat) (D : Nat → Wd) : Prop := ∀ i j, i < j → j < n → wb (D (p i)) (D (p j)).1.1 (D (p j)).1.2.1 (D (p j)).1.2.2.1 = true
theorem WS.mono {n : Nat} {p : Nat → Nat} {D : Nat → Wd} (h : WS n p D) (o k b : Int32) : ∀ i j, i ≤ j → j < n → wb (D (p j)) o k b = true → wb (D (p i)) o k b = true := by
  intro i j hij hj hb
  rcases Nat.lt_or_ge i j with q | q
  · have h1 := h i j q hj
    unfold wb at h1 hb ⊢
    rw [rv_before_iff] at h1 hb ⊢
    omega
  · obtain rfl : i = j := by omega
    exact hb
theorem ct_holds {G : rv_G} {σ : rv_S} {wl n : Nat} {p : Nat → Nat} {D : Nat → Wd} (h : PWL σ.2 wl n p D) (q : Nat) (hq : q ≤ n) (o k b : Int32) : rv_Ct G i_WindowList_holds 0 0 [.ref wl, .int (nI q), .int o, .int k, .int b] σ (fun r σ' => r = some (.int (rv_b (decide (q < n) && weq (D (p q)) o k b))) ∧ σ' = σ) := by
  have hn := h.2.2.2.2
  rcases Nat.lt_or_ge q n with hl | hl
  · exact (ct_holds_in h q hl o k b).mono (fun r σ' ⟨h1, h2⟩ => ⟨by rw [h1, decide_eq_true hl]; rfl, h2⟩)
  · exact (ct_holds_out h (nI q) (Or.inr ((nI_leI (by omega) (by omega)).mpr hl)) o k b).mono (fun r σ' ⟨h1, h2⟩ => ⟨by rw [h1, decide_eq_false (by omega)]; rfl, h2⟩)
/-- a place: those before it stand before (o, k, b), the others don't -/
def rv_pl_ (n : Nat) (p : Nat → Nat) (D : Nat → Wd) (o k b : Int32) (q : Nat) : Prop := q ≤ n ∧ (∀ j, j < q → wb (D (p j)) o k b = true) ∧ (∀ j, q ≤ j → j < n → wb (D (p j)) o k b = false)
theorem ct_place {G : rv_G} {σ : rv_S} {wl n : Nat} {p : Nat → Nat} {D : Nat → Wd} (h : PWL σ.2 wl n p D) (hs : WS n p D) (o k b : Int32) : rv_Ct G i_WindowList_placeOf 0 0 [.ref wl, .int o, .int k, .int b] σ (fun r σ' => (∃ q : Nat, rv_pl_ n p D o k b q ∧ r = some (.int (nI q))) ∧ σ' = σ) :=
  (ct_placeOf h o k b (hs.mono o k b)).mono (fun r σ' ⟨⟨q, h1, h2, h3, h4⟩, h5⟩ => ⟨⟨q, ⟨h1, h2, h3⟩, h4⟩, h5⟩)

set_option maxRecDepth 100000 in
theorem ct_has {G : rv_G} {σ : rv_S} {wl n : Nat} {p : Nat → Nat} {D : Nat → Wd} (h : PWL σ.2 wl n p D) (hs : WS n p D) (o k b : Int32) : rv_Ct G i_WindowList_has 0 0 [.ref wl, .int o, .int k, .int b] σ (fun r σ' => (∃ q : Nat, rv_pl_ n p D o k b q ∧ r = some (.int (rv_b (decide (q < n) && weq (D (p q)) o k b)))) ∧ σ' = σ) := by
  have h0 := h
  obtain ⟨hx, ⟨f, hf, hfe⟩, hW, hp, hn⟩ := h
  refine rv_ct (M := m_WindowList_has) rfl (by decide) rfl rfl ?_
  refine rv_V.run rv_gd_WindowList_has [] 400 ?_
  refine And.intro (Exists.intro _ hx) ?_
  refine ⟨_, _, _, ct_place h0 hs o k b, Nat.zero_le _, Nat.zero_le _, rfl, ?_⟩
  rintro _ _ ⟨⟨q, hq, rfl⟩, rfl⟩
  refine And.intro (Exists.intro _ hx) ?_
  refine ⟨_, _, _, ct_holds h0 q hq.1 o k b, Nat.zero_le _, Nat.zero_le _, rfl, ?_⟩
  rintro _ _ ⟨rfl, rfl⟩
  refine And.intro (rv_b01 _) ?_
  -- path  ret .int (rv_b (decide (q < n) && weq (D (p q)) o k b))
  exact ⟨⟨q, hq, rfl⟩, rfl⟩

set_option maxRecDepth 100000 in
theorem ct_findOrOpen {G : rv_G} {σ : rv_S} {wl n : Nat} {p : Nat → Nat} {D : Nat → Wd} (h : PWL σ.2 wl n p D) (hs : WS n p D) (hr : n < 120) (o k b e : Int32) : rv_Ct G i_WindowList_findOrOpen 0 0 [.ref wl, .int o, .int k, .int b, .int e] σ (fun r σ' => ∃ q : Nat, rv_pl_ n p D o k b q ∧ ((q < n ∧ weq (D (p q)) o k b = true ∧ r = some (.ref (wa wl (p q))) ∧ σ' = σ) ∨ (¬ (q < n ∧ weq (D (p q)) o k b = true) ∧ r = some (.ref (wa wl (p n))) ∧ σ'.1 = σ.1 ∧ PWL σ'.2 wl (n + 1) (rv_ins p q n) (va_up D (p n) (rv_fresh o k b e)) ∧ rv_out wl 362 σ.2 σ'.2))) := by
  have h0 := h
  obtain ⟨hx, ⟨f, hf, hfe⟩, hW, hp, hn⟩ := h
  refine rv_ct (M := m_WindowList_findOrOpen) rfl (by decide) rfl rfl ?_
  refine rv_V.run rv_gd_WindowList_findOrOpen [] 400 ?_
  refine And.intro (Exists.intro _ hx) ?_
  refine ⟨_, _, _, ct_place h0 hs o k b, Nat.zero_le _, Nat.zero_le _, rfl, ?_⟩
  rintro _ _ ⟨⟨q, hq, rfl⟩, rfl⟩
  refine And.intro (Exists.intro _ hx) ?_
  refine ⟨_, _, _, ct_holds h0 q hq.1 o k b, Nat.zero_le _, Nat.zero_le _, rfl, ?_⟩
  rintro _ _ ⟨rfl, rfl⟩
  refine And.intro (fun c1 => ?_) (fun c1 => ?_)
  · have hqn : ¬ (q < n ∧ weq (D (p q)) o k b = true) := fun z => by have := rv_b0.mp c1; rw [decide_eq_true z.1, z.2] at this; cases this
    refine And.intro (Exists.intro _ hx) ?_
    refine ⟨_, _, _, ct_WL_open h0 q hq.1 hr o k b e, Nat.zero_le _, Nat.zero_le _, rfl, ?_⟩
    rintro _ σ1 ⟨rfl, e1, hP, ho⟩
    refine And.intro (Exists.intro _ hP.1) ?_
    refine ⟨_, _, _, ct_at_in hP q (by have := hq.1; omega), Nat.zero_le _, Nat.zero_le _, rfl, ?_⟩
    rintro _ _ ⟨rfl, rfl⟩
    -- path T ret .ref (wa wl (rv_ins p q n q))
    refine ⟨q, hq, Or.inr ⟨hqn, ?_, e1, hP, ho⟩⟩
    rw [show rv_ins p q n q = p n by unfold rv_ins; rw [if_pos rfl]]
  · have hqn : q < n ∧ weq (D (p q)) o k b = true := by have := rv_bn c1; rw [Bool.and_eq_true, decide_eq_true_eq] at this; exact this
    refine And.intro (Exists.intro _ hx) ?_
    refine ⟨_, _, _, ct_at_in h0 q hqn.1, Nat.zero_le _, Nat.zero_le _, rfl, ?_⟩
    rintro _ _ ⟨rfl, rfl⟩
    -- path F ret .ref (wa wl (p q))
    exact ⟨q, hq, Or.inl ⟨hqn.1, hqn.2, rfl, rfl⟩⟩

theorem rv_pl_ex {n : Nat} {p : Nat → Nat} {D : Nat → Wd} (hs : WS n p D) (o k b : Int32) : ∃ q, rv_pl_ n p D o k b q := by
  have key : ∀ m, m ≤ n → ∃ q, q ≤ m ∧ (∀ j, j < q → wb (D (p j)) o k b = true) ∧ (∀ j, q ≤ j → j < m → wb (D (p j)) o k b = false) := by
    intro m
    induction m with
    | zero => exact fun _ => ⟨0, Nat.le_refl _, fun j hj => absurd hj (by omega), fun j _ hj => absurd hj (by omega)⟩
    | succ m ih =>
      intro hm
      obtain ⟨q, h1, h2, h3⟩ := ih (by omega)
      cases hb : wb (D (p m)) o k b with
      | false =>
        refine ⟨q, by omega, h2, fun j h4 h5 => ?_⟩
        rcases Nat.lt_or_ge j m with z | z
        · exact h3 j h4 z
        · obtain rfl : j = m := by omega
          exact hb
      | true => exact ⟨m + 1, Nat.le_refl _, fun j hj => hs.mono o k b j m (by omega) (by omega) hb, fun j h4 h5 => absurd h5 (by omega)⟩
  obtain ⟨q, h1, h2, h3⟩ := key n (Nat.le_refl _)
  exact ⟨q, h1, h2, h3⟩
set_option maxRecDepth 100000 in
theorem ct_find {G : rv_G} {σ : rv_S} {wl n : Nat} {p : Nat → Nat} {D : Nat → Wd} (h : PWL σ.2 wl n p D) (hs : WS n p D) (o k i : Int32) : rv_Ct G i_WindowList_find 0 0 [.ref wl, .int o, .int k, .int i] σ (fun r σ' => (∃ q : Nat, rv_pl_ n p D o k (-1000000) q ∧ r = some (va_rf (if i < 0 ∨ nI n ≤ i then none else if q + i.toNatClampNeg < n ∧ ((D (p (q + i.toNatClampNeg))).1.1 = o ∧ (D (p (q + i.toNatClampNeg))).1.2.1 = k) then some (wa wl (p (q + i.toNatClampNeg))) else none))) ∧ σ' = σ) := by
  have h0 := h
  obtain ⟨hx, ⟨f, hf, hfe⟩, hW, hp, hn⟩ := h
  refine rv_ct (M := m_WindowList_find) rfl (by decide) rfl rfl ?_
  refine rv_V.run rv_gd_WindowList_find [] 400 ?_
  refine And.intro (fun c1 => ?_) (fun c1 => ?_)
  · -- path T ret .null
    obtain ⟨q, hq⟩ := rv_pl_ex hs o k (-1000000)
    exact ⟨⟨q, hq, by rw [if_pos (Or.inl c1)]; rfl⟩, rfl⟩
  · refine Exists.intro _ (And.intro hx ?_)
    refine And.intro (fun c2 => ?_) (fun c2 => ?_)
    · refine And.intro (Exists.intro _ hx) ?_
      refine ⟨_, _, _, ct_place h0 hs o k (-1000000), Nat.zero_le _, Nat.zero_le _, rfl, ?_⟩
      rintro _ _ ⟨⟨q, hq, rfl⟩, rfl⟩
      obtain ⟨t, ht, rfl⟩ : ∃ t : Nat, t < n ∧ i = nI t := by
        rcases pk_ix i (n := n) (by omega) with z | z | z
        · exact absurd z c1
        · exact absurd z (Int32.not_le.mpr c2)
        · exact z
      have hq1 := hq.1
      have hcl : (nI t).toNatClampNeg = t := nI_clamp (by omega)
      have hno : ¬ (nI t < 0 ∨ nI n ≤ nI t) := fun z => z.elim c1 (Int32.not_le.mpr c2)
      rcases Nat.lt_or_ge (q + t) n with hqt | hqt
      · refine And.intro (Exists.intro _ hx) ?_
        refine ⟨_, _, _, (by rw [nI_add]; exact ct_at_in h0 (q + t) hqt), Nat.zero_le _, Nat.zero_le _, rfl, ?_⟩
        rintro _ _ ⟨rfl, rfl⟩
        refine And.intro (Exists.intro _ (hW _ (hp.1 (q + t) (by omega))).1) ?_
        refine ⟨_, _, _, ct_belongsTo _ _ _ _ _ _ _ _ _ o k (hW _ (hp.1 (q + t) (by omega))).1, Nat.zero_le _, Nat.zero_le _, rfl, ?_⟩
        rintro _ _ ⟨rfl, rfl⟩
        refine And.intro (fun c3 => ?_) (fun c3 => ?_)
        · -- path FTaT ret .null
          exact ⟨⟨q, hq, by rw [if_neg hno, hcl, if_neg (fun z => by have := rv_b0.mp c3; rw [decide_eq_true z.2] at this; cases this)]; rfl⟩, rfl⟩
        · -- path FTaF ret .ref (wa wl (p (q + t)))
          exact ⟨⟨q, hq, by rw [if_neg hno, hcl, if_pos ⟨hqt, of_decide_eq_true (rv_bn c3)⟩]; rfl⟩, rfl⟩
      · refine And.intro (Exists.intro _ hx) ?_
        refine ⟨_, _, _, ct_at_out h0 _ (Or.inr (by rw [nI_add]; exact (nI_leI (by omega) (by omega)).mpr hqt)), Nat.zero_le _, Nat.zero_le _, rfl, ?_⟩
        rintro _ _ ⟨rfl, rfl⟩
        -- path FTb ret .null
        exact ⟨⟨q, hq, by rw [if_neg hno, hcl, if_neg (fun z => absurd z.1 (by omega))]; rfl⟩, rfl⟩
    · -- path FF ret .null
      obtain ⟨q, hq⟩ := rv_pl_ex hs o k (-1000000)
      exact ⟨⟨q, hq, by rw [if_pos (Or.inr (Int32.not_lt.mp c2))]; rfl⟩, rfl⟩
end
section
/-! KEEPING A RECORD in a ring -/
theorem rv_mod {e a R : Nat} (he : e < R) (ha : a ≤ R) : (e + a) % R = if R ≤ e + a then e + a - R else e + a := by
  by_cases h : R ≤ e + a
  · rw [if_pos h]
    rcases Nat.lt_or_ge (e + a) (2 * R) with h2 | h2
    · rw [Nat.mod_eq_sub_mod h, Nat.mod_eq_of_lt (by omega)]
    · omega
  · rw [if_neg h, Nat.mod_eq_of_lt (by omega)]
theorem rv_cell {R w l k : Nat} (hl : l < R) (hk : k < w) : l * w + k < R * w := by
  calc l * w + k < l * w + w := by omega
    _ = (l + 1) * w := by rw [Nat.succ_mul]
    _ ≤ R * w := Nat.mul_le_mul_right w hl
theorem rv_cell_ne {w l l' k k' : Nat} (hk : k < w) (hk' : k' < w) (h : l ≠ l') : l * w + k ≠ l' * w + k' := by
  intro q
  rcases Nat.lt_or_ge l l' with z | z
  · have : (l + 1) * w ≤ l' * w := Nat.mul_le_mul_right w z
    rw [Nat.succ_mul] at this
    omega
  · have : (l' + 1) * w ≤ l * w := Nat.mul_le_mul_right w (by omega)
    rw [Nat.succ_mul] at this
    omega
theorem ct_set_n {G : rv_G} {σ : rv_S} (x : Nat) (R W l k : Nat) (c : Nat) (el sz : Int32) (f : Nat → Int64) (v : Int64) (hl : l < R) (hk : k < W) (hRW : R * W < 2 ^ 30) (hx : σ.2 x = some (oRing (nI R) (nI W) c el (nI l) sz)) (hc : σ.2 c = some (rv_aJ (R * W) f)) :
    rv_Ct G i_Ring_set 0 0 [.ref x, .int (nI k), .long v] σ (fun r σ' => r = none ∧ σ' = (σ.1, rv_up σ.2 c (rv_aJ (R * W) (vp_updL f (l * W + k) v)))) := by
  have hc1 := rv_cell hl hk
  have hW : W < 2 ^ 30 := Nat.lt_of_le_of_lt (Nat.le_mul_of_pos_left W (by omega)) hRW
  have e1 : nI l * nI W + nI k = nI (l * W + k) := by rw [pk_mul, nI_add]
  refine (ct_Ring_set x (nI R) (nI W) c el (nI l) sz hx (R * W) f hc (nI k) v (nI_pos (by omega)) (fun q => absurd ((nI_leI (by omega) (by omega)).mp q) (by omega)) (by rw [e1]; exact vp_in_nI hc1 (by omega))).mono (fun r σ' h => ⟨h.1, ?_⟩)
  rw [h.2, e1, nI_clamp (by omega)]
/-- what the cells hold behind a record more -/
theorem rv_push {R w s e : Nat} {f f' : Nat → Int64} {q : Nat → Nat → Int64} {v : Nat → Int64} (he : e < R) (hs : s ≤ R) (hf : ∀ j, j < s → ∀ k, k < w → f ((e + j) % R * w + k) = q j k) (h1 : ∀ k, k < w → f' ((e + s) % R * w + k) = v k) (h2 : ∀ l k, l ≠ (e + s) % R → k < w → f' (l * w + k) = f (l * w + k)) :
    ∀ j, j < rv_qn R s → ∀ k, k < w → f' (((if s < R then e else (e + 1) % R) + j) % R * w + k) = rv_qp R s q v j k := by
  intro j hj k hk
  unfold rv_qn at hj
  unfold rv_qp
  by_cases hsR : s < R
  · rw [if_pos hsR] at hj
    rw [if_pos hsR, if_pos hsR]
    by_cases hjs : j = s
    · subst hjs
      rw [if_pos rfl]
      exact h1 k hk
    · rw [if_neg hjs, h2 _ k _ hk]
      · exact hf j (by omega) k hk
      · rw [rv_mod he (by omega), rv_mod he hs]
        split <;> split <;> omega
  · have hRs : s = R := by omega
    subst hRs
    rw [if_neg hsR] at hj
    rw [if_neg hsR, if_neg hsR, Nat.mod_add_mod, show e + 1 + j = e + (j + 1) by omega]
    by_cases hj1 : j + 1 = s
    · rw [if_pos hj1, hj1]
      exact h1 k hk
    · rw [if_neg hj1, h2 _ k _ hk]
      · exact hf (j + 1) (by omega) k hk
      · rw [rv_mod he (by omega), rv_mod he hs]
        split <;> split <;> omega
def oLate (x : Nat) (nop nsr ever bd rl dr : Int32) : rv_E := .inl (k_Late, [.ref (x + 1), .int nop, .ref (x + 2), .int nsr, .ref (x + 3), .ref (x + 5), .ref (x + 367), .ref (x + 368), .int ever, .ref (x + 370), .int bd, .int rl, .int dr, .ref (x + 372)])
/-- only at S something has changed -/
def rv_only (S : Nat → Prop) (g g' : Nat → Option rv_E) : Prop := ∀ a, ¬ S a → g' a = g a
theorem rv_only.rf {S : Nat → Prop} {g : Nat → Option rv_E} : rv_only S g g := fun _ _ => rfl
theorem rv_only.tr {S : Nat → Prop} {g g1 g2 : Nat → Option rv_E} (h1 : rv_only S g g1) (h2 : rv_only S g1 g2) : rv_only S g g2 := fun a ha => (h2 a ha).trans (h1 a ha)
theorem rv_only.up {S : Nat → Prop} {a : Nat} {g : Nat → Option rv_E} {x : rv_E} (h : S a) : rv_only S g (rv_up g a x) := fun q hq => rv_up_n (fun z => hq (z ▸ h))
/-- a result: sign, operator, key, begin, end, and what was told -/
def rv_rec (sg : Int32) (d : Wd) : Nat → Int64 := fun k => match k with
  | 0 => sg.toInt64
  | 1 => d.1.1.toInt64
  | 2 => d.1.2.1.toInt64
  | 3 => d.1.2.2.1.toInt64
  | 4 => d.1.2.2.2.toInt64
  | 5 => d.2.2.2.1.toInt64
  | 6 => d.2.2.2.2.1
  | 7 => d.2.2.2.2.2.1.toInt64
  | _ => d.2.2.2.2.2.2.toInt64
def rv_arec (n k t v w : Int32) : Nat → Int64 := fun i => match i with
  | 0 => n.toInt64
  | 1 => k.toInt64
  | 2 => t.toInt64
  | 3 => v.toInt64
  | _ => w.toInt64
theorem rv_w9 {f : Nat → Int64} {b : Nat} {v : Nat → Int64} : ∀ k, k < 9 → vp_updL (vp_updL (vp_updL (vp_updL (vp_updL (vp_updL (vp_updL (vp_updL (vp_updL f (b + 0) (v 0)) (b + 1) (v 1)) (b + 2) (v 2)) (b + 3) (v 3)) (b + 4) (v 4)) (b + 5) (v 5)) (b + 6) (v 6)) (b + 7) (v 7)) (b + 8) (v 8) (b + k) = v k := by
  intro k hk
  rcases (show k = 0 ∨ k = 1 ∨ k = 2 ∨ k = 3 ∨ k = 4 ∨ k = 5 ∨ k = 6 ∨ k = 7 ∨ k = 8 by omega) with rfl | rfl | rfl | rfl | rfl | rfl | rfl | rfl | rfl <;> simp [vp_updL]
theorem rv_n9 {f : Nat → Int64} {b i : Nat} {v : Nat → Int64} (h : ∀ k, k < 9 → i ≠ b + k) : vp_updL (vp_updL (vp_updL (vp_updL (vp_updL (vp_updL (vp_updL (vp_updL (vp_updL f (b + 0) (v 0)) (b + 1) (v 1)) (b + 2) (v 2)) (b + 3) (v 3)) (b + 4) (v 4)) (b + 5) (v 5)) (b + 6) (v 6)) (b + 7) (v 7)) (b + 8) (v 8) i = f i := by
  have h0 := h 0 (by omega)
  have h1 := h 1 (by omega)
  have h2 := h 2 (by omega)
  have h3 := h 3 (by omega)
  have h4 := h 4 (by omega)
  have h5 := h 5 (by omega)
  have h6 := h 6 (by omega)
  have h7 := h 7 (by omega)
  have h8 := h 8 (by omega)
  simp only [vp_updL, if_neg h0, if_neg h1, if_neg h2, if_neg h3, if_neg h4, if_neg h5, if_neg h6, if_neg h7, if_neg h8]
theorem rv_w5 {f : Nat → Int64} {b : Nat} {v : Nat → Int64} : ∀ k, k < 5 → vp_updL (vp_updL (vp_updL (vp_updL (vp_updL f (b + 0) (v 0)) (b + 1) (v 1)) (b + 2) (v 2)) (b + 3) (v 3)) (b + 4) (v 4) (b + k) = v k := by
  intro k hk
  rcases (show k = 0 ∨ k = 1 ∨ k = 2 ∨ k = 3 ∨ k = 4 by omega) with rfl | rfl | rfl | rfl | rfl <;> simp [vp_updL]
theorem rv_n5 {f : Nat → Int64} {b i : Nat} {v : Nat → Int64} (h : ∀ k, k < 5 → i ≠ b + k) : vp_updL (vp_updL (vp_updL (vp_updL (vp_updL f (b + 0) (v 0)) (b + 1) (v 1)) (b + 2) (v 2)) (b + 3) (v 3)) (b + 4) (v 4) i = f i := by
  have h0 := h 0 (by omega)
  have h1 := h 1 (by omega)
  have h2 := h 2 (by omega)
  have h3 := h 3 (by omega)
  have h4 := h 4 (by omega)
  simp only [vp_updL, if_neg h0, if_neg h1, if_neg h2, if_neg h3, if_neg h4]

set_option maxRecDepth 100000 in
theorem ct_keepResult {G : rv_G} {σ : rv_S} (x a : Nat) (nop nsr ev bd rl dr : Int32) (sg : Int32) (d : Wd) {s : Nat} {q : Nat → Nat → Int64} (hx : σ.2 x = some (oLate x nop nsr ev bd rl dr)) (hq : PR σ.2 (x + 368) (x + 369) 400 9 s q) (ha : σ.2 a = some (oW d a)) (ha2 : σ.2 (a + 2) = some (oT d.2.2.2)) (hd : a + 2 < x + 368 ∨ x + 369 < a) (hd2 : x < a) : rv_Ct G i_Late_keepResult 0 0 [.ref x, .int sg, .ref a] σ (fun r σ' => r = none ∧ σ'.1 = σ.1 ∧ PR σ'.2 (x + 368) (x + 369) 400 9 (rv_qn 400 s) (rv_qp 400 s q (rv_rec sg d)) ∧ σ'.2 x = some (oLate x nop nsr (ev + 1) bd rl dr) ∧ rv_only (fun q => q = x ∨ q = x + 368 ∨ q = x + 369) σ.2 σ'.2) := by
  obtain ⟨e, la, f, he, hs, hr, hc, hf⟩ := hq
  refine rv_ct (M := m_Late_keepResult) rfl (by decide) rfl rfl ?_
  refine rv_V.run rv_gd_Late_keepResult [] 400 ?_
  refine Exists.intro _ (And.intro hx ?_)
  refine And.intro (Exists.intro _ hr) ?_
  refine ⟨_, _, _, ct_open_n _ 400 e s (nI 9) _ la he hs (by omega) hr, Nat.zero_le _, Nat.zero_le _, rfl, ?_⟩
  rintro _ _ ⟨rfl, rfl⟩
  refine Exists.intro _ (And.intro ((rv_up_n (by first | omega | (unfold wa; omega))).trans hx) ?_)
  refine And.intro (Exists.intro _ rv_up_s) ?_
  refine ⟨_, _, _, ct_set_n _ 400 9 ((e + s) % 400) 0 _ _ _ _ _ (Nat.mod_lt _ (by omega)) (by omega) (by omega) rv_up_s ((rv_up_n (by first | omega | (unfold wa; omega))).trans hc), Nat.zero_le _, Nat.zero_le _, rfl, ?_⟩
  rintro _ _ ⟨rfl, rfl⟩
  refine Exists.intro _ (And.intro ((rv_up_n (by first | omega | (unfold wa; omega))).trans ((rv_up_n (by first | omega | (unfold wa; omega))).trans hx)) ?_)
  refine Exists.intro _ (And.intro ((rv_up_n (by first | omega | (unfold wa; omega))).trans ((rv_up_n (by first | omega | (unfold wa; omega))).trans ha)) ?_)
  refine And.intro (Exists.intro _ ((rv_up_n (by first | omega | (unfold wa; omega))).trans rv_up_s)) ?_
  refine ⟨_, _, _, ct_set_n _ 400 9 ((e + s) % 400) 1 _ _ _ _ _ (Nat.mod_lt _ (by omega)) (by omega) (by omega) ((rv_up_n (by first | omega | (unfold wa; omega))).trans rv_up_s) rv_up_s, Nat.zero_le _, Nat.zero_le _, rfl, ?_⟩
  rintro _ _ ⟨rfl, rfl⟩
  rw [rv_up_up]
  refine Exists.intro _ (And.intro ((rv_up_n (by first | omega | (unfold wa; omega))).trans ((rv_up_n (by first | omega | (unfold wa; omega))).trans hx)) ?_)
  refine Exists.intro _ (And.intro ((rv_up_n (by first | omega | (unfold wa; omega))).trans ((rv_up_n (by first | omega | (unfold wa; omega))).trans ha)) ?_)
  refine And.intro (Exists.intro _ ((rv_up_n (by first | omega | (unfold wa; omega))).trans rv_up_s)) ?_
  refine ⟨_, _, _, ct_set_n _ 400 9 ((e + s) % 400) 2 _ _ _ _ _ (Nat.mod_lt _ (by omega)) (by omega) (by omega) ((rv_up_n (by first | omega | (unfold wa; omega))).trans rv_up_s) rv_up_s, Nat.zero_le _, Nat.zero_le _, rfl, ?_⟩
  rintro _ _ ⟨rfl, rfl⟩
  rw [rv_up_up]
  refine Exists.intro _ (And.intro ((rv_up_n (by first | omega | (unfold wa; omega))).trans ((rv_up_n (by first | omega | (unfold wa; omega))).trans hx)) ?_)
  refine Exists.intro _ (And.intro ((rv_up_n (by first | omega | (unfold wa; omega))).trans ((rv_up_n (by first | omega | (unfold wa; omega))).trans ha)) ?_)
  refine And.intro (Exists.intro _ ((rv_up_n (by first | omega | (unfold wa; omega))).trans rv_up_s)) ?_
  refine ⟨_, _, _, ct_set_n _ 400 9 ((e + s) % 400) 3 _ _ _ _ _ (Nat.mod_lt _ (by omega)) (by omega) (by omega) ((rv_up_n (by first | omega | (unfold wa; omega))).trans rv_up_s) rv_up_s, Nat.zero_le _, Nat.zero_le _, rfl, ?_⟩
  rintro _ _ ⟨rfl, rfl⟩
  rw [rv_up_up]
  refine Exists.intro _ (And.intro ((rv_up_n (by first | omega | (unfold wa; omega))).trans ((rv_up_n (by first | omega | (unfold wa; omega))).trans hx)) ?_)
  refine Exists.intro _ (And.intro ((rv_up_n (by first | omega | (unfold wa; omega))).trans ((rv_up_n (by first | omega | (unfold wa; omega))).trans ha)) ?_)
  refine And.intro (Exists.intro _ ((rv_up_n (by first | omega | (unfold wa; omega))).trans rv_up_s)) ?_
  refine ⟨_, _, _, ct_set_n _ 400 9 ((e + s) % 400) 4 _ _ _ _ _ (Nat.mod_lt _ (by omega)) (by omega) (by omega) ((rv_up_n (by first | omega | (unfold wa; omega))).trans rv_up_s) rv_up_s, Nat.zero_le _, Nat.zero_le _, rfl, ?_⟩
  rintro _ _ ⟨rfl, rfl⟩
  rw [rv_up_up]
  refine Exists.intro _ (And.intro ((rv_up_n (by first | omega | (unfold wa; omega))).trans ((rv_up_n (by first | omega | (unfold wa; omega))).trans hx)) ?_)
  refine Exists.intro _ (And.intro ((rv_up_n (by first | omega | (unfold wa; omega))).trans ((rv_up_n (by first | omega | (unfold wa; omega))).trans ha)) ?_)
  refine Exists.intro _ (And.intro ((rv_up_n (by first | omega | (unfold wa; omega))).trans ((rv_up_n (by first | omega | (unfold wa; omega))).trans ha2)) ?_)
  refine And.intro (Exists.intro _ ((rv_up_n (by first | omega | (unfold wa; omega))).trans rv_up_s)) ?_
  refine ⟨_, _, _, ct_set_n _ 400 9 ((e + s) % 400) 5 _ _ _ _ _ (Nat.mod_lt _ (by omega)) (by omega) (by omega) ((rv_up_n (by first | omega | (unfold wa; omega))).trans rv_up_s) rv_up_s, Nat.zero_le _, Nat.zero_le _, rfl, ?_⟩
  rintro _ _ ⟨rfl, rfl⟩
  rw [rv_up_up]
  refine Exists.intro _ (And.intro ((rv_up_n (by first | omega | (unfold wa; omega))).trans ((rv_up_n (by first | omega | (unfold wa; omega))).trans hx)) ?_)
  refine Exists.intro _ (And.intro ((rv_up_n (by first | omega | (unfold wa; omega))).trans ((rv_up_n (by first | omega | (unfold wa; omega))).trans ha)) ?_)
  refine Exists.intro _ (And.intro ((rv_up_n (by first | omega | (unfold wa; omega))).trans ((rv_up_n (by first | omega | (unfold wa; omega))).trans ha2)) ?_)
  refine And.intro (Exists.intro _ ((rv_up_n (by first | omega | (unfold wa; omega))).trans rv_up_s)) ?_
  refine ⟨_, _, _, ct_set_n _ 400 9 ((e + s) % 400) 6 _ _ _ _ _ (Nat.mod_lt _ (by omega)) (by omega) (by omega) ((rv_up_n (by first | omega | (unfold wa; omega))).trans rv_up_s) rv_up_s, Nat.zero_le _, Nat.zero_le _, rfl, ?_⟩
  rintro _ _ ⟨rfl, rfl⟩
  rw [rv_up_up]
  refine Exists.intro _ (And.intro ((rv_up_n (by first | omega | (unfold wa; omega))).trans ((rv_up_n (by first | omega | (unfold wa; omega))).trans hx)) ?_)
  refine Exists.intro _ (And.intro ((rv_up_n (by first | omega | (unfold wa; omega))).trans ((rv_up_n (by first | omega | (unfold wa; omega))).trans ha)) ?_)
  refine Exists.intro _ (And.intro ((rv_up_n (by first | omega | (unfold wa; omega))).trans ((rv_up_n (by first | omega | (unfold wa; omega))).trans ha2)) ?_)
  refine And.intro (Exists.intro _ ((rv_up_n (by first | omega | (unfold wa; omega))).trans rv_up_s)) ?_
  refine ⟨_, _, _, ct_set_n _ 400 9 ((e + s) % 400) 7 _ _ _ _ _ (Nat.mod_lt _ (by omega)) (by omega) (by omega) ((rv_up_n (by first | omega | (unfold wa; omega))).trans rv_up_s) rv_up_s, Nat.zero_le _, Nat.zero_le _, rfl, ?_⟩
  rintro _ _ ⟨rfl, rfl⟩
  rw [rv_up_up]
  refine Exists.intro _ (And.intro ((rv_up_n (by first | omega | (unfold wa; omega))).trans ((rv_up_n (by first | omega | (unfold wa; omega))).trans hx)) ?_)
  refine Exists.intro _ (And.intro ((rv_up_n (by first | omega | (unfold wa; omega))).trans ((rv_up_n (by first | omega | (unfold wa; omega))).trans ha)) ?_)
  refine Exists.intro _ (And.intro ((rv_up_n (by first | omega | (unfold wa; omega))).trans ((rv_up_n (by first | omega | (unfold wa; omega))).trans ha2)) ?_)
  refine And.intro (Exists.intro _ ((rv_up_n (by first | omega | (unfold wa; omega))).trans rv_up_s)) ?_
  refine ⟨_, _, _, ct_set_n _ 400 9 ((e + s) % 400) 8 _ _ _ _ _ (Nat.mod_lt _ (by omega)) (by omega) (by omega) ((rv_up_n (by first | omega | (unfold wa; omega))).trans rv_up_s) rv_up_s, Nat.zero_le _, Nat.zero_le _, rfl, ?_⟩
  rintro _ _ ⟨rfl, rfl⟩
  rw [rv_up_up]
  refine Exists.intro _ (And.intro ((rv_up_n (by first | omega | (unfold wa; omega))).trans ((rv_up_n (by first | omega | (unfold wa; omega))).trans hx)) ?_)
  refine Exists.intro _ (And.intro ((rv_up_n (by first | omega | (unfold wa; omega))).trans ((rv_up_n (by first | omega | (unfold wa; omega))).trans hx)) (And.intro trivial ?_))
  -- path  ret None
  refine ⟨rfl, rfl, ?_, rv_up_s, ?_⟩
  · refine ⟨_, _, _, ?_, ?_, ((rv_up_n (by omega)).trans ((rv_up_n (by omega)).trans rv_up_s)), ((rv_up_n (by omega)).trans rv_up_s), rv_push he hs hf (f' := (vp_updL (vp_updL (vp_updL (vp_updL (vp_updL (vp_updL (vp_updL (vp_updL (vp_updL f ((e + s) % 400 * 9 + 0) (rv_rec sg d 0)) ((e + s) % 400 * 9 + 1) (rv_rec sg d 1)) ((e + s) % 400 * 9 + 2) (rv_rec sg d 2)) ((e + s) % 400 * 9 + 3) (rv_rec sg d 3)) ((e + s) % 400 * 9 + 4) (rv_rec sg d 4)) ((e + s) % 400 * 9 + 5) (rv_rec sg d 5)) ((e + s) % 400 * 9 + 6) (rv_rec sg d 6)) ((e + s) % 400 * 9 + 7) (rv_rec sg d 7)) ((e + s) % 400 * 9 + 8) (rv_rec sg d 8))) (v := rv_rec sg d) (fun k hk => rv_w9 k hk) (fun l k hl hk => rv_n9 (fun k' hk' => rv_cell_ne hk hk' hl))⟩
    · split <;> first | exact he | exact Nat.mod_lt _ (by omega)
    · unfold rv_qn; split <;> omega
  · exact ((rv_only.up (Or.inr (Or.inl rfl))).tr (rv_only.up (Or.inr (Or.inr rfl)))).tr (rv_only.up (Or.inl rfl))
end
section
/-! TELLING A WINDOW -/
theorem PR.kept {g g' : Nat → Option rv_E} {r c R w s : Nat} {q : Nat → Nat → Int64} (h : PR g r c R w s q) (h1 : g' r = g r) (h2 : g' c = g c) : PR g' r c R w s q := by
  obtain ⟨e, la, f, a1, a2, a3, a4, a5⟩ := h
  exact ⟨e, la, f, a1, a2, h1.trans a3, h2.trans a4, a5⟩
theorem PWL.kept {g g' : Nat → Option rv_E} {wl n : Nat} {p : Nat → Nat} {D : Nat → Wd} (h : PWL g wl n p D) (hk : ∀ q, wl ≤ q → q < wl + 362 → g' q = g q) : PWL g' wl n p D := by
  obtain ⟨hx, ⟨f, hf, hfe⟩, hW, hp, hn⟩ := h
  exact ⟨(hk _ (by omega) (by omega)).trans hx, ⟨f, (hk _ (by omega) (by omega)).trans hf, hfe⟩, fun j hj => (hW j hj).kept (hk _ (by unfold wa; omega) (by unfold wa; omega)) (hk _ (by unfold wa; omega) (by unfold wa; omega)) (hk _ (by unfold wa; omega) (by unfold wa; omega)), hp, hn⟩
/-- the results: how many are kept, what they hold, how many there were in all -/
abbrev Rs : Type := Nat × (Nat → Nat → Int64) × Int32
def rs_push (R : Rs) (v : Nat → Int64) : Rs := (rv_qn 400 R.1, rv_qp 400 R.1 R.2.1 v, R.2.2 + 1)
def wtold (d : Wd) : Wd := (d.1, (true, false), d.2.2.1, d.2.2.1)
def rs_tell (R : Rs) (d : Wd) : Rs := rs_push (if d.2.1.1 = true then rs_push R (rv_rec (-1) d) else R) (rv_rec 1 (wtold d))
/-- the object, its list of windows, its results -/
def PT (g : Nat → Option rv_E) (x : Nat) (nop nsr bd rl dr : Int32) (n : Nat) (p : Nat → Nat) (D : Nat → Wd) (R : Rs) : Prop := g x = some (oLate x nop nsr R.2.2 bd rl dr) ∧ PWL g (x + 5) n p D ∧ PR g (x + 368) (x + 369) 400 9 R.1 R.2.1
def SC (x q : Nat) : Prop := q = x ∨ (x + 5 ≤ q ∧ q < x + 367) ∨ q = x + 368 ∨ q = x + 369
theorem PT.keep {G : rv_G} {σ : rv_S} {x : Nat} {nop nsr bd rl dr : Int32} {n : Nat} {p : Nat → Nat} {D : Nat → Wd} {R : Rs} (h : PT σ.2 x nop nsr bd rl dr n p D R) {i : Nat} (hi : i < 120) (sg : Int32) : rv_Ct G i_Late_keepResult 0 0 [.ref x, .int sg, .ref (wa (x + 5) i)] σ (fun r σ' => r = none ∧ σ'.1 = σ.1 ∧ PT σ'.2 x nop nsr bd rl dr n p D (rs_push R (rv_rec sg (D i))) ∧ rv_only (SC x) σ.2 σ'.2) := by
  have hw := h.2.1.2.2.1 i hi
  refine (ct_keepResult x (wa (x + 5) i) nop nsr R.2.2 bd rl dr sg (D i) h.1 h.2.2 hw.1 hw.2.2 (by unfold wa; omega) (by unfold wa; omega)).mono ?_
  rintro r σ' ⟨h1, h2, h3, h4, h5⟩
  refine ⟨h1, h2, ⟨h4, h.2.1.kept (fun q h6 h7 => h5 q (by omega)), h3⟩, fun q hq => h5 q (fun z => hq ?_)⟩
  unfold SC
  omega
set_option maxRecDepth 100000 in
theorem lp_tell {G : rv_G} {σ : rv_S} {x : Nat} {nop nsr bd rl dr : Int32} {n : Nat} {p : Nat → Nat} {D : Nat → Wd} {R : Rs} (h : PT σ.2 x nop nsr bd rl dr n p D R) {i : Nat} (hi : i < 120) :
    rv_V G m_Late_tell 0 0 (fun r σ' => r = none ∧ σ'.1 = σ.1 ∧ PT σ'.2 x nop nsr bd rl dr n p (va_up D i (wtold (D i))) (rs_push R (rv_rec 1 (wtold (D i)))) ∧ rv_only (SC x) σ.2 σ'.2) 13 [some (.ref x), some (.ref (wa (x + 5) i))] [] σ 0 0 := by
  have hw := h.2.1.2.2.1 i hi
  have hP2 := (h.2.1.setT hi (D i).2.2.1).setW hi (D i).1 (true, false)
  rw [va_up_self, bx_uu] at hP2
  refine rv_V.run rv_gd_Late_tell [] 400 ?_
  refine Exists.intro _ (And.intro hw.1 ?_)
  refine Exists.intro _ (And.intro hw.1 ?_)
  refine And.intro (Exists.intro _ hw.2.2) ?_
  refine ⟨_, _, _, ct_Tally_copy _ _ _ _ _ _ _ _ _ _ hw.2.2 hw.2.1 (by omega), Nat.zero_le _, Nat.zero_le _, rfl, ?_⟩
  rintro _ _ ⟨rfl, rfl⟩
  refine Exists.intro _ (And.intro ((rv_up_n (by omega)).trans hw.1) (And.intro (Or.inr rfl) ?_))
  refine Exists.intro _ (And.intro rv_up_s (And.intro (Or.inl rfl) ?_))
  rw [rv_up_up]
  have hT : PT (rv_up (rv_up σ.2 (wa (x + 5) i + 2) (oT (D i).2.2.1)) (wa (x + 5) i) (oW ((D i).1, (true, false), (D i).2.2.1, (D i).2.2.1) (wa (x + 5) i))) x nop nsr bd rl dr n p (va_up D i (wtold (D i))) R :=
    ⟨(rv_up_n (by unfold wa; omega)).trans ((rv_up_n (by unfold wa; omega)).trans h.1), hP2, h.2.2.kept ((rv_up_n (by unfold wa; omega)).trans (rv_up_n (by unfold wa; omega))) ((rv_up_n (by unfold wa; omega)).trans (rv_up_n (by unfold wa; omega)))⟩
  refine And.intro (Exists.intro _ hT.1) ?_
  refine ⟨_, _, _, PT.keep (σ := (σ.1, _)) hT hi 1, Nat.zero_le _, Nat.zero_le _, rfl, ?_⟩
  rintro _ σ2 ⟨rfl, e1, h2, h3⟩
  rw [va_up_self] at h2
  refine ⟨rfl, e1, h2, rv_only.tr (rv_only.tr (rv_only.up ?_) (rv_only.up ?_)) h3⟩
  · unfold SC wa; omega
  · unfold SC wa; omega
set_option maxRecDepth 100000 in
/-- A WINDOW IS TOLD (what was told of it before is taken back first) -/
theorem ct_tell {G : rv_G} {σ : rv_S} {x : Nat} {nop nsr bd rl dr : Int32} {n : Nat} {p : Nat → Nat} {D : Nat → Wd} {R : Rs} (h : PT σ.2 x nop nsr bd rl dr n p D R) {i : Nat} (hi : i < 120) :
    rv_Ct G i_Late_tell 0 0 [.ref x, .ref (wa (x + 5) i)] σ (fun r σ' => r = none ∧ σ'.1 = σ.1 ∧ PT σ'.2 x nop nsr bd rl dr n p (va_up D i (wtold (D i))) (rs_tell R (D i)) ∧ rv_only (SC x) σ.2 σ'.2) := by
  have hw := h.2.1.2.2.1 i hi
  refine rv_ct (M := m_Late_tell) rfl (by decide) rfl rfl ?_
  refine rv_V.run rv_gd_Late_tell [13] 400 ?_
  refine Exists.intro _ (And.intro hw.1 ?_)
  refine And.intro (fun c1 => ?_) (fun c1 => ?_)
  · have hb := rv_b0.mp c1
    refine (lp_tell h hi).mono ?_
    rintro r σ' ⟨h1, h2, h3, h4⟩
    refine ⟨h1, h2, ?_, h4⟩
    unfold rs_tell
    rw [hb, if_neg (by decide)]
    exact h3
  · have hb := rv_bn c1
    refine And.intro (Exists.intro _ h.1) ?_
    refine ⟨_, _, _, h.keep hi (-1), Nat.zero_le _, Nat.zero_le _, rfl, ?_⟩
    rintro _ σ2 ⟨rfl, e1, h2, h3⟩
    refine (lp_tell h2 hi).mono ?_
    rintro r σ' ⟨k1, k2, k3, k4⟩
    refine ⟨k1, k2.trans e1, ?_, h3.tr k4⟩
    unfold rs_tell
    rw [hb, if_pos rfl]
    exact k3
end
section
/-! WHEN THE MARK MOVES: all that are due are told; those that are closed go -/
/-- the first of least E among those below i that Q has -/
def rv_fj (Q : Nat → Bool) (E : Nat → Int32) (i : Nat) (r : Option Nat) : Prop := match r with
  | none => ∀ t, t < i → Q t = false
  | some j => j < i ∧ Q j = true ∧ ∀ t, t < i → Q t = true → (E j < E t ∨ (E j = E t ∧ j ≤ t))
def rv_pick (Q : Nat → Bool) (E : Nat → Int32) : Nat → Option Nat
  | 0 => none
  | i + 1 => match rv_pick Q E i with
    | none => if Q i = true then some i else none
    | some j => if Q i = true ∧ E i < E j then some i else some j
theorem rv_pick_ok (Q : Nat → Bool) (E : Nat → Int32) : ∀ i, rv_fj Q E i (rv_pick Q E i)
  | 0 => fun t ht => absurd ht (by omega)
  | i + 1 => by
    have ih := rv_pick_ok Q E i
    unfold rv_pick
    cases hp : rv_pick Q E i with
    | none =>
      rw [hp] at ih
      by_cases hQ : Q i = true
      · simp only [hQ, if_true]
        refine ⟨by omega, hQ, fun t ht hq => ?_⟩
        rcases Nat.lt_or_ge t i with z | z
        · rw [ih t z] at hq; cases hq
        · obtain rfl : t = i := by omega
          exact Or.inr ⟨rfl, Nat.le_refl _⟩
      · simp only [hQ]
        intro t ht
        rcases Nat.lt_or_ge t i with z | z
        · exact ih t z
        · obtain rfl : t = i := by omega
          simpa using hQ
    | some j =>
      rw [hp] at ih
      obtain ⟨h1, h2, h3⟩ := ih
      by_cases hQ : Q i = true ∧ E i < E j
      · simp only [hQ, and_self, if_true]
        refine ⟨by omega, hQ.1, fun t ht hq => ?_⟩
        rcases Nat.lt_or_ge t i with z | z
        · rcases h3 t z hq with y | y
          · exact Or.inl (Int32.lt_trans hQ.2 y)
          · exact Or.inl (by rw [← y.1]; exact hQ.2)
        · obtain rfl : t = i := by omega
          exact Or.inr ⟨rfl, Nat.le_refl _⟩
      · simp only [if_neg hQ]
        refine ⟨by omega, h2, fun t ht hq => ?_⟩
        rcases Nat.lt_or_ge t i with z | z
        · exact h3 t z hq
        · obtain rfl : t = i := by omega
          have hE : ¬ E t < E j := fun y => hQ ⟨hq, y⟩
          rcases Int32.lt_or_eq_of_le (Int32.not_lt.mp hE) with y | y
          · exact Or.inl y
          · exact Or.inr ⟨y, by omega⟩
theorem rv_fj_uniq {Q : Nat → Bool} {E : Nat → Int32} {i : Nat} {r r' : Option Nat} (h : rv_fj Q E i r) (h' : rv_fj Q E i r') : r = r' := by
  cases r with
  | none =>
    cases r' with
    | none => rfl
    | some j => have := h j h'.1; rw [h'.2.1] at this; cases this
  | some j =>
    cases r' with
    | none => have := h' j h.1; rw [h.2.1] at this; cases this
    | some j' =>
      rcases h.2.2 j' h'.1 h'.2.1 with a | a <;> rcases h'.2.2 j h.1 h.2.1 with b | b
      · exact (Int32.lt_irrefl (Int32.lt_trans a b)).elim
      · rw [b.1] at a; exact (Int32.lt_irrefl a).elim
      · rw [a.1] at b; exact (Int32.lt_irrefl b).elim
      · congr 1; omega
theorem rv_first_pick {Q : Nat → Bool} {E : Nat → Int32} {i : Nat} {v : Int32} (h : rv_first Q E i v) : (rv_pick Q E i = none ∧ v = -1) ∨ ∃ j, rv_pick Q E i = some j ∧ v = nI j ∧ j < i ∧ Q j = true := by
  rcases h with ⟨h1, h2⟩ | ⟨j, h1, h2, h3, h4⟩
  · exact Or.inl ⟨rv_fj_uniq (rv_pick_ok Q E i) (r' := none) h2, h1⟩
  · exact Or.inr ⟨j, rv_fj_uniq (rv_pick_ok Q E i) (r' := some j) ⟨h1, h3, h4⟩, h2, h1, h3⟩
/-- telling all that are due -/
def tl_run (o m : Int32) (n : Nat) (p : Nat → Nat) : Nat → (Nat → Wd) × Rs → (Nat → Wd) × Rs
  | 0, s => s
  | f + 1, s => match rv_pick (fun t => wdue (s.1 (p t)) o m) (fun t => (s.1 (p t)).1.2.2.2) n with
    | none => s
    | some j => tl_run o m n p f (va_up s.1 (p j) (wtold (s.1 (p j))), rs_tell s.2 (s.1 (p j)))
set_option maxRecDepth 100000 in
theorem lp_tellAllDue {G : rv_G} {x oa : Nat} {nop nsr bd rl dr : Int32} {n : Nat} {p : Nat → Nat} (o k sz st l r0 m : Int32) (hoa : ¬ SC x oa) : ∀ (t c : Nat) (vc : Int32) (x3 : Option Value) (D : Nat → Wd) (R : Rs) (σ : rv_S), vc = nI c → c + t = 120 → PT σ.2 x nop nsr bd rl dr n p D R → σ.2 oa = some (oOp o k sz st l r0 m) →
    rv_V G m_Late_tellAllDue 0 0 (fun r σ' => r = none ∧ σ'.1 = σ.1 ∧ PT σ'.2 x nop nsr bd rl dr n p (tl_run o m n p t (D, R)).1 (tl_run o m n p t (D, R)).2 ∧ rv_only (SC x) σ.2 σ'.2) 2 [some (.ref x), some (.ref oa), some (.int vc), x3] [] σ 0 0 := by
  intro t
  induction t with
  | zero =>
    intro c vc x3 D R σ ec h1 h ho
    refine rv_V.run rv_gd_Late_tellAllDue [2] 400 ?_
    refine And.intro (fun c1 => ?_) (fun c1 => ?_)
    · exact ⟨rfl, rfl, h, rv_only.rf⟩
    · exact absurd ((rv_leN (a := 120) rfl ec (by omega) (by omega)).mpr (by omega)) c1
  | succ t ih =>
    intro c vc x3 D R σ ec h1 h ho
    refine rv_V.run rv_gd_Late_tellAllDue [2] 400 ?_
    refine And.intro (fun c1 => ?_) (fun c1 => ?_)
    · exact absurd ((rv_leN (a := 120) rfl ec (by omega) (by omega)).mp c1) (by omega)
    refine Exists.intro _ (And.intro h.1 ?_)
    refine Exists.intro _ (And.intro h.1 ?_)
    refine And.intro (Exists.intro _ h.2.1.1) ?_
    refine ⟨_, _, _, ct_nextDue h.2.1 oa o k sz st l r0 m ho, Nat.zero_le _, Nat.zero_le _, rfl, ?_⟩
    rintro _ σ ⟨⟨v, hv, rfl⟩, rfl⟩
    have hn := h.2.1.2.2.2.2
    rcases rv_first_pick hv with ⟨hp, rfl⟩ | ⟨j, hp, rfl, hj, hQ⟩
    · refine And.intro (Exists.intro _ h.2.1.1) ?_
      refine ⟨_, _, _, ct_at_out h.2.1 (-1) (Or.inl (by decide)), Nat.zero_le _, Nat.zero_le _, rfl, ?_⟩
      rintro _ _ ⟨rfl, rfl⟩
      refine ⟨rfl, rfl, ?_, rv_only.rf⟩
      unfold tl_run
      dsimp only
      rw [hp]
      exact h
    · refine And.intro (Exists.intro _ h.2.1.1) ?_
      refine ⟨_, _, _, ct_at_in h.2.1 j hj, Nat.zero_le _, Nat.zero_le _, rfl, ?_⟩
      rintro _ _ ⟨rfl, rfl⟩
      refine And.intro (Exists.intro _ h.1) ?_
      refine ⟨_, _, _, ct_tell h (h.2.1.2.2.2.1.1 j (by omega)), Nat.zero_le _, Nat.zero_le _, rfl, ?_⟩
      rintro _ σ2 ⟨rfl, e1, h2, h3⟩
      refine (ih (c + 1) _ _ _ _ σ2 (by rw [ec]; exact nI_1 c) (by omega) h2 ((h3 oa hoa).trans ho)).mono ?_
      rintro r σ' ⟨k1, k2, k3, k4⟩
      refine ⟨k1, k2.trans e1, ?_, h3.tr k4⟩
      rw [show tl_run o m n p (t + 1) (D, R) = tl_run o m n p t (va_up D (p j) (wtold (D (p j))), rs_tell R (D (p j))) by
        conv => lhs; unfold tl_run
        dsimp only
        rw [hp]]
      exact k3
set_option maxRecDepth 100000 in
theorem ct_tellAllDue {G : rv_G} {σ : rv_S} {x oa : Nat} {nop nsr bd rl dr : Int32} {n : Nat} {p : Nat → Nat} {D : Nat → Wd} {R : Rs} (o k sz st l r0 m : Int32) (hoa : ¬ SC x oa) (h : PT σ.2 x nop nsr bd rl dr n p D R) (ho : σ.2 oa = some (oOp o k sz st l r0 m)) :
    rv_Ct G i_Late_tellAllDue 0 0 [.ref x, .ref oa] σ (fun r σ' => r = none ∧ σ'.1 = σ.1 ∧ PT σ'.2 x nop nsr bd rl dr n p (tl_run o m n p 120 (D, R)).1 (tl_run o m n p 120 (D, R)).2 ∧ rv_only (SC x) σ.2 σ'.2) := by
  refine rv_ct (M := m_Late_tellAllDue) rfl (by decide) rfl rfl ?_
  refine rv_V.run rv_gd_Late_tellAllDue [2] 400 ?_
  exact lp_tellAllDue o k sz st l r0 m hoa 120 0 _ _ D R σ rfl rfl h ho
/-- those that are closed go -/
def lc_one (s : (Nat → Wd) × Rs) (i : Nat) : (Nat → Wd) × Rs := if (s.1 i).2.1.2 = true then (va_up s.1 i (wtold (s.1 i)), rs_tell s.2 (s.1 i)) else s
def lc_run (o l m : Int32) : Nat → Nat × (Nat → Nat) × (Nat → Wd) × Rs → Nat × (Nat → Nat) × (Nat → Wd) × Rs
  | 0, s => s
  | f + 1, s => match rv_pick (fun t => wcls (s.2.2.1 (s.2.1 t)) o l m) (fun t => (s.2.2.1 (s.2.1 t)).1.2.2.2) s.1 with
    | none => s
    | some j => lc_run o l m f (s.1 - 1, rv_del s.2.1 j s.1, lc_one s.2.2 (s.2.1 j))
set_option maxRecDepth 100000 in
theorem lp_letClosedGo {G : rv_G} {x oa : Nat} {nop nsr bd rl dr : Int32} (o k sz st l r0 m : Int32) (hoa : ¬ SC x oa) : ∀ (t c : Nat) (vc : Int32) (x3 x4 : Option Value) (n : Nat) (p : Nat → Nat) (D : Nat → Wd) (R : Rs) (σ : rv_S), vc = nI c → c + t = 120 → PT σ.2 x nop nsr bd rl dr n p D R → σ.2 oa = some (oOp o k sz st l r0 m) →
    rv_V G m_Late_letClosedGo 0 0 (fun r σ' => r = none ∧ σ'.1 = σ.1 ∧ PT σ'.2 x nop nsr bd rl dr (lc_run o l m t (n, p, D, R)).1 (lc_run o l m t (n, p, D, R)).2.1 (lc_run o l m t (n, p, D, R)).2.2.1 (lc_run o l m t (n, p, D, R)).2.2.2 ∧ rv_only (SC x) σ.2 σ'.2) 2 [some (.ref x), some (.ref oa), some (.int vc), x3, x4] [] σ 0 0 := by
  intro t
  induction t with
  | zero =>
    intro c vc x3 x4 n p D R σ ec h1 h ho
    refine rv_V.run rv_gd_Late_letClosedGo [2] 400 ?_
    refine And.intro (fun c1 => ?_) (fun c1 => ?_)
    · exact ⟨rfl, rfl, h, rv_only.rf⟩
    · exact absurd ((rv_leN (a := 120) rfl ec (by omega) (by omega)).mpr (by omega)) c1
  | succ t ih =>
    intro c vc x3 x4 n p D R σ ec h1 h ho
    refine rv_V.run rv_gd_Late_letClosedGo [2, 47] 400 ?_
    refine And.intro (fun c1 => ?_) (fun c1 => ?_)
    · exact absurd ((rv_leN (a := 120) rfl ec (by omega) (by omega)).mp c1) (by omega)
    refine Exists.intro _ (And.intro h.1 ?_)
    refine And.intro (Exists.intro _ h.2.1.1) ?_
    refine ⟨_, _, _, ct_nextClosed h.2.1 oa o k sz st l r0 m ho, Nat.zero_le _, Nat.zero_le _, rfl, ?_⟩
    rintro _ σ ⟨⟨v, hv, rfl⟩, rfl⟩
    have hn := h.2.1.2.2.2.2
    rcases rv_first_pick hv with ⟨hp, rfl⟩ | ⟨j, hp, rfl, hj, hQ⟩
    · refine Exists.intro _ (And.intro h.1 ?_)
      refine And.intro (Exists.intro _ h.2.1.1) ?_
      refine ⟨_, _, _, ct_at_out h.2.1 (-1) (Or.inl (by decide)), Nat.zero_le _, Nat.zero_le _, rfl, ?_⟩
      rintro _ _ ⟨rfl, rfl⟩
      refine ⟨rfl, rfl, ?_, rv_only.rf⟩
      unfold lc_run
      dsimp only
      rw [hp]
      exact h
    · have hpj := h.2.1.2.2.2.1.1 j (by omega)
      have hw := h.2.1.2.2.1 _ hpj
      have hrun : lc_run o l m (t + 1) (n, p, D, R) = lc_run o l m t (n - 1, rv_del p j n, lc_one (D, R) (p j)) := by
        conv => lhs; unfold lc_run
        dsimp only
        rw [hp]
      -- behind the telling: the removal, and the next turn
      have tail : ∀ (D1 : Nat → Wd) (R1 : Rs) (σ1 : rv_S), σ1.1 = σ.1 → PT σ1.2 x nop nsr bd rl dr n p D1 R1 → rv_only (SC x) σ.2 σ1.2 → lc_one (D, R) (p j) = (D1, R1) →
          rv_V G m_Late_letClosedGo 0 0 (fun r σ' => r = none ∧ σ'.1 = σ.1 ∧ PT σ'.2 x nop nsr bd rl dr (lc_run o l m (t + 1) (n, p, D, R)).1 (lc_run o l m (t + 1) (n, p, D, R)).2.1 (lc_run o l m (t + 1) (n, p, D, R)).2.2.1 (lc_run o l m (t + 1) (n, p, D, R)).2.2.2 ∧ rv_only (SC x) σ.2 σ'.2) 47 [some (.ref x), some (.ref oa), some (.int vc), some (.int (nI j)), some (.ref (wa (x + 5) (p j)))] [] σ1 0 0 := by
        intro D1 R1 σ1 s1 hT s2 s3
        refine rv_V.run rv_gd_Late_letClosedGo [2] 400 ?_
        refine Exists.intro _ (And.intro hT.1 ?_)
        refine And.intro (Exists.intro _ hT.2.1.1) ?_
        refine ⟨_, _, _, ct_WL_remove hT.2.1 j hj, Nat.zero_le _, Nat.zero_le _, rfl, ?_⟩
        rintro _ σ2 ⟨rfl, e1, h2, h3⟩
        have hT2 : PT σ2.2 x nop nsr bd rl dr (n - 1) (rv_del p j n) D1 R1 := ⟨(h3 x (by omega)).trans hT.1, h2, hT.2.2.kept (h3 _ (by omega)) (h3 _ (by omega))⟩
        have hon : rv_only (SC x) σ1.2 σ2.2 := fun q hq => h3 q (by unfold SC at hq; omega)
        refine (ih (c + 1) _ _ _ _ _ _ _ σ2 (by rw [ec]; exact nI_1 c) (by omega) hT2 (((hon oa hoa).trans (s2 oa hoa)).trans ho)).mono ?_
        rintro r σ' ⟨k1, k2, k3, k4⟩
        refine ⟨k1, (k2.trans e1).trans s1, ?_, (s2.tr hon).tr k4⟩
        rw [hrun, s3]
        exact k3
      refine Exists.intro _ (And.intro h.1 ?_)
      refine And.intro (Exists.intro _ h.2.1.1) ?_
      refine ⟨_, _, _, ct_at_in h.2.1 j hj, Nat.zero_le _, Nat.zero_le _, rfl, ?_⟩
      rintro _ σ ⟨rfl, rfl⟩
      refine Exists.intro _ (And.intro hw.1 ?_)
      refine And.intro (fun c2 => ?_) (fun c2 => ?_)
      · exact tail D R σ rfl h rv_only.rf (by unfold lc_one; rw [if_neg (by rw [rv_b0.mp c2]; decide)])
      · refine And.intro (Exists.intro _ h.1) ?_
        refine ⟨_, _, _, ct_tell h hpj, Nat.zero_le _, Nat.zero_le _, rfl, ?_⟩
        rintro _ σ2 ⟨rfl, e1, h2, h3⟩
        exact tail _ _ σ2 e1 h2 h3 (by unfold lc_one; rw [if_pos (rv_bn c2)])
set_option maxRecDepth 100000 in
theorem ct_letClosedGo {G : rv_G} {σ : rv_S} {x oa : Nat} {nop nsr bd rl dr : Int32} {n : Nat} {p : Nat → Nat} {D : Nat → Wd} {R : Rs} (o k sz st l r0 m : Int32) (hoa : ¬ SC x oa) (h : PT σ.2 x nop nsr bd rl dr n p D R) (ho : σ.2 oa = some (oOp o k sz st l r0 m)) :
    rv_Ct G i_Late_letClosedGo 0 0 [.ref x, .ref oa] σ (fun r σ' => r = none ∧ σ'.1 = σ.1 ∧ PT σ'.2 x nop nsr bd rl dr (lc_run o l m 120 (n, p, D, R)).1 (lc_run o l m 120 (n, p, D, R)).2.1 (lc_run o l m 120 (n, p, D, R)).2.2.1 (lc_run o l m 120 (n, p, D, R)).2.2.2 ∧ rv_only (SC x) σ.2 σ'.2) := by
  refine rv_ct (M := m_Late_letClosedGo) rfl (by decide) rfl rfl ?_
  refine rv_V.run rv_gd_Late_letClosedGo [2] 400 ?_
  exact lp_letClosedGo o k sz st l r0 m hoa 120 0 _ _ _ n p D R σ rfl rfl h ho
end
section
/-! A NUMBER COMES INTO A WINDOW -/
def tl_add (t : Tl) (v : Int32) : Tl := (t.1 + 1, t.2.1 + v.toInt64, (if t.1 = 0 then v else rv_min t.2.2.1 v), (if t.1 = 0 then v else rv_max t.2.2.2 v))
def wadd (d : Wd) (v : Int32) : Wd := (d.1, d.2.1, tl_add d.2.2.1 v, d.2.2.2)
def wchg (d : Wd) : Wd := (d.1, (d.2.1.1, true), d.2.2)
def ci_one (r0 m : Int32) (s : (Nat → Wd) × Rs) (i : Nat) (v : Int32) : (Nat → Wd) × Rs :=
  if (s.1 i).2.1.1 = true ∧ r0 = 1 then (va_up s.1 i (wchg (wadd (s.1 i) v)), s.2)
  else if (s.1 i).1.2.2.2 ≤ m then (va_up s.1 i (wtold (wadd (s.1 i) v)), rs_tell s.2 (wadd (s.1 i) v))
  else (va_up s.1 i (wadd (s.1 i) v), s.2)
theorem ci_a {r0 m : Int32} {D : Nat → Wd} {R : Rs} {i : Nat} {v : Int32} (h : (D i).2.1.1 = true ∧ r0 = 1) : ci_one r0 m (D, R) i v = (va_up D i (wchg (wadd (D i) v)), R) := if_pos h
theorem ci_b {r0 m : Int32} {D : Nat → Wd} {R : Rs} {i : Nat} {v : Int32} (h : ¬ ((D i).2.1.1 = true ∧ r0 = 1)) (hm : (D i).1.2.2.2 ≤ m) : ci_one r0 m (D, R) i v = (va_up D i (wtold (wadd (D i) v)), rs_tell R (wadd (D i) v)) := (if_neg h).trans (if_pos hm)
theorem ci_c {r0 m : Int32} {D : Nat → Wd} {R : Rs} {i : Nat} {v : Int32} (h : ¬ ((D i).2.1.1 = true ∧ r0 = 1)) (hm : ¬ (D i).1.2.2.2 ≤ m) : ci_one r0 m (D, R) i v = (va_up D i (wadd (D i) v), R) := (if_neg h).trans (if_neg hm)
theorem PT.up {g : Nat → Option rv_E} {x : Nat} {nop nsr bd rl dr : Int32} {n n' : Nat} {p p' : Nat → Nat} {D D' : Nat → Wd} {R : Rs} (h : PT g x nop nsr bd rl dr n p D R) {a : Nat} {y : rv_E} (ha : x + 5 ≤ a ∧ a < x + 367) (hP : PWL (rv_up g a y) (x + 5) n' p' D') : PT (rv_up g a y) x nop nsr bd rl dr n' p' D' R :=
  ⟨(rv_up_n (by omega)).trans h.1, hP, h.2.2.kept (rv_up_n (by omega)) (rv_up_n (by omega))⟩
set_option maxRecDepth 100000 in
theorem ct_comeInto {G : rv_G} {σ : rv_S} {x oa : Nat} {nop nsr bd rl dr : Int32} {n : Nat} {p : Nat → Nat} {D : Nat → Wd} {R : Rs} (o k sz st l r0 m : Int32) (hoa : ¬ SC x oa) (h : PT σ.2 x nop nsr bd rl dr n p D R) (ho : σ.2 oa = some (oOp o k sz st l r0 m)) {i : Nat} (hi : i < 120) (v : Int32) :
    rv_Ct G i_Late_comeInto 0 0 [.ref x, .ref oa, .ref (wa (x + 5) i), .int v] σ (fun r σ' => r = none ∧ σ'.1 = σ.1 ∧ PT σ'.2 x nop nsr bd rl dr n p (ci_one r0 m (D, R) i v).1 (ci_one r0 m (D, R) i v).2 ∧ rv_only (SC x) σ.2 σ'.2) := by
  have hw := h.2.1.2.2.1 i hi
  have h1 : PT (rv_up σ.2 (wa (x + 5) i + 1) (oT (tl_add (D i).2.2.1 v))) x nop nsr bd rl dr n p (va_up D i (wadd (D i) v)) R := h.up (by unfold wa; omega) (h.2.1.setH hi _)
  have hsc : SC x (wa (x + 5) i + 1) := by unfold SC wa; omega
  have hsc0 : SC x (wa (x + 5) i) := by unfold SC wa; omega
  have ho1 : rv_up σ.2 (wa (x + 5) i + 1) (oT (tl_add (D i).2.2.1 v)) oa = some (oOp o k sz st l r0 m) := (rv_up_n (fun z => hoa (by rw [z]; exact hsc))).trans ho
  have hw1 := h1.2.1.2.2.1 i hi
  rw [va_up_self] at hw1
  -- the way without 'changed'
  have rest : ¬ ((D i).2.1.1 = true ∧ r0 = 1) → rv_V G m_Late_comeInto 0 0 (fun r σ' => r = none ∧ σ'.1 = σ.1 ∧ PT σ'.2 x nop nsr bd rl dr n p (ci_one r0 m (D, R) i v).1 (ci_one r0 m (D, R) i v).2 ∧ rv_only (SC x) σ.2 σ'.2) 36 [some (.ref x), some (.ref oa), some (.ref (wa (x + 5) i)), some (.int v)] [] (σ.1, rv_up σ.2 (wa (x + 5) i + 1) (oT (tl_add (D i).2.2.1 v))) 0 0 := by
    intro hno
    refine rv_V.run rv_gd_Late_comeInto [] 400 ?_
    refine Exists.intro _ (And.intro hw1.1 ?_)
    refine And.intro (Exists.intro _ ho1) ?_
    refine ⟨_, _, _, ct_hasReached (σ := (σ.1, rv_up σ.2 (wa (x + 5) i + 1) (oT (tl_add (D i).2.2.1 v)))) oa o k sz st l r0 m _ ho1, Nat.zero_le _, Nat.zero_le _, rfl, ?_⟩
    rintro _ _ ⟨rfl, rfl⟩
    refine And.intro (fun c1 => ?_) (fun c1 => ?_)
    · have hm := of_decide_eq_false (rv_b0.mp c1)
      refine ⟨rfl, rfl, ?_, rv_only.up hsc⟩
      rw [ci_c hno hm]
      exact h1
    · have hm := of_decide_eq_true (rv_bn c1)
      refine And.intro (Exists.intro _ h1.1) ?_
      refine ⟨_, _, _, ct_tell (σ := (σ.1, rv_up σ.2 (wa (x + 5) i + 1) (oT (tl_add (D i).2.2.1 v)))) h1 hi, Nat.zero_le _, Nat.zero_le _, rfl, ?_⟩
      rintro _ σ2 ⟨rfl, e1, h2, h3⟩
      rw [va_up_self, bx_uu] at h2
      refine ⟨rfl, e1, ?_, rv_only.tr (rv_only.up hsc) h3⟩
      rw [ci_b hno hm]
      exact h2
  refine rv_ct (M := m_Late_comeInto) rfl (by decide) rfl rfl ?_
  refine rv_V.run rv_gd_Late_comeInto [36] 400 ?_
  refine Exists.intro _ (And.intro hw.1 ?_)
  refine And.intro (Exists.intro _ hw.2.1) ?_
  refine ⟨_, _, _, ct_Tally_add _ _ _ _ _ v hw.2.1, Nat.zero_le _, Nat.zero_le _, rfl, ?_⟩
  rintro _ _ ⟨rfl, rfl⟩
  refine Exists.intro _ (And.intro hw1.1 ?_)
  refine And.intro (fun c1 => ?_) (fun c1 => ?_)
  · exact rest (fun z => by have := rv_b0.mp c1; rw [show (wadd (D i) v).2.1.1 = (D i).2.1.1 from rfl, z.1] at this; cases this)
  · refine Exists.intro _ (And.intro ho1 ?_)
    refine And.intro (fun c2 => ?_) (fun c2 => ?_)
    · refine Exists.intro _ (And.intro hw1.1 (And.intro (Or.inr rfl) ?_))
      have h2 := h1.up (a := wa (x + 5) i) (y := oW (wchg (wadd (D i) v)) (wa (x + 5) i)) (by unfold wa; omega) (by
        have q := h1.2.1.setW hi (D i).1 ((D i).2.1.1, true)
        rw [va_up_self, bx_uu] at q
        exact q)
      refine ⟨rfl, rfl, ?_, rv_only.tr (rv_only.up hsc) (rv_only.up hsc0)⟩
      rw [ci_a ⟨rv_bn c1, c2⟩]
      exact h2
    · exact rest (fun z => c2 z.2)
end
section
/-! KEEPING A ROW ASIDE -/
set_option maxRecDepth 100000 in
theorem ct_keepAside {G : rv_G} {σ : rv_S} (x sa : Nat) (nop nsr ev bd rl dr : Int32) (nu : Int32) (ow : Nat) (pr : Int32) (en sp : Bool) (us as br fi : Int32) (k t v why : Int32) {s : Nat} {q : Nat → Nat → Int64} (hx : σ.2 x = some (oLate x nop nsr ev bd rl dr)) (hq : PR σ.2 (x + 370) (x + 371) 100 5 s q) (hsa : σ.2 sa = some (oSource nu ow pr en sp us as br fi)) (hd : x + 371 < sa) : rv_Ct G i_Late_keepAside 0 0 [.ref x, .ref sa, .int k, .int t, .int v, .int why] σ (fun r σ' => r = none ∧ σ'.1 = σ.1 ∧ PR σ'.2 (x + 370) (x + 371) 100 5 (rv_qn 100 s) (rv_qp 100 s q (rv_arec nu k t v why)) ∧ rv_only (fun q => q = x + 370 ∨ q = x + 371) σ.2 σ'.2) := by
  obtain ⟨e, la, f, he, hs, hr, hc, hf⟩ := hq
  refine rv_ct (M := m_Late_keepAside) rfl (by decide) rfl rfl ?_
  refine rv_V.run rv_gd_Late_keepAside [] 400 ?_
  refine Exists.intro _ (And.intro hx ?_)
  refine And.intro (Exists.intro _ hr) ?_
  refine ⟨_, _, _, ct_open_n _ 100 e s (nI 5) _ la he hs (by omega) hr, Nat.zero_le _, Nat.zero_le _, rfl, ?_⟩
  rintro _ _ ⟨rfl, rfl⟩
  refine Exists.intro _ (And.intro ((rv_up_n (by first | omega | (unfold wa; omega))).trans hx) ?_)
  refine Exists.intro _ (And.intro ((rv_up_n (by first | omega | (unfold wa; omega))).trans hsa) ?_)
  refine And.intro (Exists.intro _ rv_up_s) ?_
  refine ⟨_, _, _, ct_set_n _ 100 5 ((e + s) % 100) 0 _ _ _ _ _ (Nat.mod_lt _ (by omega)) (by omega) (by omega) rv_up_s ((rv_up_n (by first | omega | (unfold wa; omega))).trans hc), Nat.zero_le _, Nat.zero_le _, rfl, ?_⟩
  rintro _ _ ⟨rfl, rfl⟩
  refine Exists.intro _ (And.intro ((rv_up_n (by first | omega | (unfold wa; omega))).trans ((rv_up_n (by first | omega | (unfold wa; omega))).trans hx)) ?_)
  refine And.intro (Exists.intro _ ((rv_up_n (by first | omega | (unfold wa; omega))).trans rv_up_s)) ?_
  refine ⟨_, _, _, ct_set_n _ 100 5 ((e + s) % 100) 1 _ _ _ _ _ (Nat.mod_lt _ (by omega)) (by omega) (by omega) ((rv_up_n (by first | omega | (unfold wa; omega))).trans rv_up_s) rv_up_s, Nat.zero_le _, Nat.zero_le _, rfl, ?_⟩
  rintro _ _ ⟨rfl, rfl⟩
  rw [rv_up_up]
  refine Exists.intro _ (And.intro ((rv_up_n (by first | omega | (unfold wa; omega))).trans ((rv_up_n (by first | omega | (unfold wa; omega))).trans hx)) ?_)
  refine And.intro (Exists.intro _ ((rv_up_n (by first | omega | (unfold wa; omega))).trans rv_up_s)) ?_
  refine ⟨_, _, _, ct_set_n _ 100 5 ((e + s) % 100) 2 _ _ _ _ _ (Nat.mod_lt _ (by omega)) (by omega) (by omega) ((rv_up_n (by first | omega | (unfold wa; omega))).trans rv_up_s) rv_up_s, Nat.zero_le _, Nat.zero_le _, rfl, ?_⟩
  rintro _ _ ⟨rfl, rfl⟩
  rw [rv_up_up]
  refine Exists.intro _ (And.intro ((rv_up_n (by first | omega | (unfold wa; omega))).trans ((rv_up_n (by first | omega | (unfold wa; omega))).trans hx)) ?_)
  refine And.intro (Exists.intro _ ((rv_up_n (by first | omega | (unfold wa; omega))).trans rv_up_s)) ?_
  refine ⟨_, _, _, ct_set_n _ 100 5 ((e + s) % 100) 3 _ _ _ _ _ (Nat.mod_lt _ (by omega)) (by omega) (by omega) ((rv_up_n (by first | omega | (unfold wa; omega))).trans rv_up_s) rv_up_s, Nat.zero_le _, Nat.zero_le _, rfl, ?_⟩
  rintro _ _ ⟨rfl, rfl⟩
  rw [rv_up_up]
  refine Exists.intro _ (And.intro ((rv_up_n (by first | omega | (unfold wa; omega))).trans ((rv_up_n (by first | omega | (unfold wa; omega))).trans hx)) ?_)
  refine And.intro (Exists.intro _ ((rv_up_n (by first | omega | (unfold wa; omega))).trans rv_up_s)) ?_
  refine ⟨_, _, _, ct_set_n _ 100 5 ((e + s) % 100) 4 _ _ _ _ _ (Nat.mod_lt _ (by omega)) (by omega) (by omega) ((rv_up_n (by first | omega | (unfold wa; omega))).trans rv_up_s) rv_up_s, Nat.zero_le _, Nat.zero_le _, rfl, ?_⟩
  rintro _ _ ⟨rfl, rfl⟩
  rw [rv_up_up]
  -- path  ret None
  refine ⟨rfl, rfl, ?_, ?_⟩
  · refine ⟨_, _, _, ?_, ?_, ((rv_up_n (by omega)).trans rv_up_s), rv_up_s, rv_push he hs hf (f' := (vp_updL (vp_updL (vp_updL (vp_updL (vp_updL f ((e + s) % 100 * 5 + 0) (rv_arec nu k t v why 0)) ((e + s) % 100 * 5 + 1) (rv_arec nu k t v why 1)) ((e + s) % 100 * 5 + 2) (rv_arec nu k t v why 2)) ((e + s) % 100 * 5 + 3) (rv_arec nu k t v why 3)) ((e + s) % 100 * 5 + 4) (rv_arec nu k t v why 4))) (v := rv_arec nu k t v why) (fun k hk => rv_w5 k hk) (fun l k hl hk => rv_n5 (fun k' hk' => rv_cell_ne hk hk' hl))⟩
    · split <;> first | exact he | exact Nat.mod_lt _ (by omega)
    · unfold rv_qn; split <;> omega
  · exact (rv_only.up (Or.inl rfl)).tr (rv_only.up (Or.inr rfl))
end
section
/-! THE LOG OF ROWS, by keys and times -/
/-- a row: its source's address, key, time, number, whether it was used -/
abbrev Rd : Type := Nat × Int32 × Int32 × Int32 × Bool
def oR (d : Rd) : rv_E := oRow d.1 d.2.1 d.2.2.1 d.2.2.2.1 d.2.2.2.2
def PRL (g : Nat → Option rv_E) (rl n : Nat) (ra : Nat → Nat) (rd : Nat → Rd) : Prop := g rl = some (oRowLog (rl + 1) (nI n)) ∧ (∃ f : Nat → Option Nat, g (rl + 1) = some (rv_aO RX4 300 f) ∧ ∀ j, j < n → f j = some (ra j)) ∧ (∀ j, j < n → g (ra j) = some (oR (rd j)) ∧ rl + 1 < ra j) ∧ n ≤ 300
/-- all cells lie below the next address -/
def rv_bd (σ : rv_S) : Prop := ∀ (a : Nat) (y : rv_E), σ.2 a = some y → a < σ.1
def rv_insf {α : Type} (f : Nat → α) (q : Nat) (v : α) : Nat → α := fun j => if j < q then f j else if j = q then v else f (j - 1)
def raft (d : Rd) (k t : Int32) : Bool := rv_after d.2.1 d.2.2.1 k t
set_option maxRecDepth 100000 in
theorem lp_rowadd {G : rv_G} {rl n src : Nat} {ra : Nat → Nat} {rd : Nat → Rd} (k t v : Int32) (u : Bool) (hn : n < 300) : ∀ (q : Nat) (vq : Int32) (f : Nat → Option Nat) (σ : rv_S), vq = nI q → q ≤ n → σ.2 rl = some (oRowLog (rl + 1) (nI n)) → σ.2 (rl + 1) = some (rv_aO RX4 300 f) → (∀ j, j < q → f j = some (ra j)) → (∀ j, j < n → σ.2 (ra j) = some (oR (rd j)) ∧ rl + 1 < ra j) → rl + 1 < σ.1 →
    rv_V G m_RowLog_add 1 5 (fun r σ' => r = none ∧ σ'.1 = σ.1 + 1 ∧ ∃ q', q' ≤ q ∧ (∀ j, q' ≤ j → j < q → raft (rd j) k t = true) ∧ (q' = 0 ∨ raft (rd (q' - 1)) k t = false) ∧ σ'.2 = rv_up (rv_up (rv_up σ.2 σ.1 (oRow src k t v u)) (rl + 1) (rv_aO RX4 300 (rv_shf f q' q σ.1))) rl (oRowLog (rl + 1) (nI (n + 1)))) 19 [some (.ref rl), some (.ref src), some (.int k), some (.int t), some (.int v), some (.int (rv_b u)), some (.int vq)] [] σ 0 0 := by
  intro q
  induction q with
  | zero =>
    intro vq f σ eq h1 hx hf hfe hr hb
    refine rv_V.run rv_gd_RowLog_add [] 400 ?_
    refine And.intro (fun c1 => ?_) (fun c1 => ?_)
    · refine Exists.intro _ (And.intro hx ?_)
      refine And.intro (by decide) (And.intro (by decide) ?_)
      refine ⟨_, _, _, ct_Row_init σ.1 src k t v u rv_up_s, by decide, by decide, rfl, ?_⟩
      rintro _ _ ⟨rfl, rfl⟩
      rw [rv_up_up]
      refine ⟨_, _, _, _, _, rv_up_s, rfl, (rv_up_n (by omega)).trans hf, by decide, (by rw [eq]; exact vp_in_nI (by omega) (by omega)), ?_⟩
      refine Exists.intro _ (And.intro ((rv_up_n (by omega)).trans ((rv_up_n (by omega)).trans hx)) ?_)
      refine Exists.intro _ (And.intro ((rv_up_n (by omega)).trans ((rv_up_n (by omega)).trans hx)) (And.intro trivial ?_))
      refine ⟨rfl, rfl, 0, Nat.le_refl _, fun j h2 h3 => absurd h3 (by omega), Or.inl rfl, ?_⟩
      rw [rv_shf_0, ← nI_1, show vq.toNatClampNeg = 0 by rw [eq]; exact nI_clamp (by omega)]
      rfl
    · exact absurd (by rw [eq]; decide) c1
  | succ q ih =>
    intro vq f σ eq h1 hx hf hfe hr hb
    have hq1 : vq - 1 = nI q := by rw [eq]; exact nI_pred q
    have hcl : vq.toNatClampNeg = q + 1 := by rw [eq]; exact nI_clamp (by omega)
    obtain ⟨hrq, hrl⟩ := hr q (by omega)
    have fin : raft (rd q) k t = false → rv_V G m_RowLog_add 1 5 (fun r σ' => r = none ∧ σ'.1 = σ.1 + 1 ∧ ∃ q', q' ≤ q + 1 ∧ (∀ j, q' ≤ j → j < q + 1 → raft (rd j) k t = true) ∧ (q' = 0 ∨ raft (rd (q' - 1)) k t = false) ∧ σ'.2 = rv_up (rv_up (rv_up σ.2 σ.1 (oRow src k t v u)) (rl + 1) (rv_aO RX4 300 (rv_shf f q' (q + 1) σ.1))) rl (oRowLog (rl + 1) (nI (n + 1)))) 63 [some (.ref rl), some (.ref src), some (.int k), some (.int t), some (.int v), some (.int (rv_b u)), some (.int vq)] [] σ 0 0 := by
      intro hno
      refine rv_V.run rv_gd_RowLog_add [] 400 ?_
      refine Exists.intro _ (And.intro hx ?_)
      refine And.intro (by decide) (And.intro (by decide) ?_)
      refine ⟨_, _, _, ct_Row_init σ.1 src k t v u rv_up_s, by decide, by decide, rfl, ?_⟩
      rintro _ _ ⟨rfl, rfl⟩
      rw [rv_up_up]
      refine ⟨_, _, _, _, _, rv_up_s, rfl, (rv_up_n (by omega)).trans hf, by decide, (by rw [eq]; exact vp_in_nI (by omega) (by omega)), ?_⟩
      refine Exists.intro _ (And.intro ((rv_up_n (by omega)).trans ((rv_up_n (by omega)).trans hx)) ?_)
      refine Exists.intro _ (And.intro ((rv_up_n (by omega)).trans ((rv_up_n (by omega)).trans hx)) (And.intro trivial ?_))
      refine ⟨rfl, rfl, q + 1, Nat.le_refl _, fun j h2 h3 => absurd h3 (by omega), Or.inr hno, ?_⟩
      rw [rv_shf_0, ← nI_1, hcl]
      rfl
    refine rv_V.run rv_gd_RowLog_add [19, 63] 400 ?_
    refine And.intro (fun c1 => ?_) (fun c1 => ?_)
    · exact absurd c1 (by rw [eq]; exact nI_nle (by omega) (by omega))
    refine Exists.intro _ (And.intro hx ?_)
    refine ⟨_, _, _, some (ra q), hf, by decide, (by rw [hq1]; exact vp_in_nI (by omega) (by omega)), (by rw [hq1, nI_clamp (by omega)]; exact hfe q (by omega)), ?_⟩
    refine And.intro (Exists.intro _ hrq) ?_
    refine ⟨_, _, _, ct_standsAfter _ _ _ _ _ _ k t hrq, by decide, by decide, rfl, ?_⟩
    rintro _ σ ⟨rfl, rfl⟩
    refine And.intro (fun c2 => ?_) (fun c2 => ?_)
    · exact fin (rv_b0.mp c2)
    · refine Exists.intro _ (And.intro hx ?_)
      refine Exists.intro _ (And.intro hx ?_)
      refine ⟨_, _, _, some (ra q), hf, by decide, (by rw [hq1]; exact vp_in_nI (by omega) (by omega)), (by rw [hq1, nI_clamp (by omega)]; exact hfe q (by omega)), ?_⟩
      refine ⟨_, _, _, _, _, hrq, rfl, hf, by decide, (by rw [eq]; exact vp_in_nI (by omega) (by omega)), ?_⟩
      refine (ih (vq + (-1)) (va_up f vq.toNatClampNeg (some (ra q))) (σ.1, rv_up σ.2 (rl + 1) (rv_aO RX4 300 (va_up f vq.toNatClampNeg (some (ra q))))) (by rw [eq]; exact pk_m1 q) (by omega) ((rv_up_n (by omega)).trans hx) rv_up_s (fun j hj => (va_up_ne _ _ (by rw [hcl]; omega)).trans (hfe j (by omega))) (fun j hj => ⟨(rv_up_n (by have := (hr j hj).2; omega)).trans (hr j hj).1, (hr j hj).2⟩) hb).mono ?_
      rintro r σ' ⟨k1, k2, q', k3, k4, k5, k6⟩
      refine ⟨k1, k2, q', by omega, fun j h2 h3 => ?_, k5, ?_⟩
      · rcases Nat.lt_or_ge j q with z | z
        · exact k4 j h2 z
        · obtain rfl : j = q := by omega
          exact rv_bn c2
      · rw [k6, hcl]
        dsimp only
        rw [rv_up_comm (a := rl + 1) (b := σ.1) (by omega), rv_up_up, show rv_shf (va_up f (q + 1) (some (ra q))) q' q σ.1 = rv_shf f q' (q + 1) σ.1 from rv_shf_1 f q' (q + 1) σ.1 (ra q) (by omega) (hfe q (by omega))]
set_option maxRecDepth 100000 in
theorem ct_rowadd {G : rv_G} {σ : rv_S} {rl n src : Nat} {ra : Nat → Nat} {rd : Nat → Rd} (h : PRL σ.2 rl n ra rd) (hn : n < 300) (hb : rv_bd σ) (k t v : Int32) (u : Bool) :
    rv_Ct G i_RowLog_add 1 5 [.ref rl, .ref src, .int k, .int t, .int v, .int (rv_b u)] σ (fun r σ' => r = none ∧ σ'.1 = σ.1 + 1 ∧ (∃ q', q' ≤ n ∧ (∀ j, q' ≤ j → j < n → raft (rd j) k t = true) ∧ (q' = 0 ∨ raft (rd (q' - 1)) k t = false) ∧ PRL σ'.2 rl (n + 1) (rv_insf ra q' σ.1) (rv_insf rd q' (src, k, t, v, u))) ∧ rv_only (fun a => a = rl ∨ a = rl + 1 ∨ a = σ.1) σ.2 σ'.2) := by
  obtain ⟨hx, ⟨f, hf, hfe⟩, hr, hn2⟩ := h
  have hb1 := hb _ _ hf
  refine rv_ct (M := m_RowLog_add) rfl (by decide) rfl rfl ?_
  refine rv_V.run rv_gd_RowLog_add [19] 400 ?_
  refine Exists.intro _ (And.intro hx ?_)
  refine Exists.intro _ (And.intro hx ?_)
  refine Exists.intro _ (Exists.intro _ (Exists.intro _ (And.intro hf ?_)))
  refine And.intro (fun c1 => ?_) (fun c1 => ?_)
  · refine Exists.intro _ (And.intro hx ?_)
    refine (lp_rowadd (ra := ra) (rd := rd) k t v u hn n _ f σ rfl (Nat.le_refl _) hx hf hfe hr hb1).mono ?_
    rintro r σ' ⟨k1, k2, q', k3, k4, k5, k6⟩
    refine ⟨k1, k2, ⟨q', k3, k4, k5, ?_⟩, ?_⟩
    · rw [k6]
      refine ⟨rv_up_s, ⟨_, (rv_up_n (by omega)).trans rv_up_s, fun j hj => ?_⟩, fun j hj => ?_, by omega⟩
      · unfold rv_shf rv_insf
        by_cases h1 : j = q'
        · rw [if_pos h1, if_neg (by omega), if_pos h1]
        · rw [if_neg h1]
          by_cases h2 : j < q'
          · rw [if_neg (by omega), if_pos h2]; exact hfe j (by omega)
          · rw [if_pos (by omega), if_neg h2, if_neg h1]; exact hfe _ (by omega)
      · have key : ∀ i, i < n → (rv_up (rv_up (rv_up σ.2 σ.1 (oRow src k t v u)) (rl + 1) (rv_aO RX4 300 (rv_shf f q' n σ.1))) rl (oRowLog (rl + 1) (nI (n + 1)))) (ra i) = some (oR (rd i)) ∧ rl + 1 < ra i := fun i hi => ⟨(rv_up_n (by have := (hr i hi).2; omega)).trans ((rv_up_n (by have := (hr i hi).2; omega)).trans ((rv_up_n (by have := hb _ _ (hr i hi).1; omega)).trans (hr i hi).1)), (hr i hi).2⟩
        unfold rv_insf
        by_cases h2 : j < q'
        · simp only [if_pos h2]
          exact key j (by omega)
        · by_cases h1 : j = q'
          · simp only [if_neg h2, if_pos h1]
            exact ⟨(rv_up_n (by omega)).trans ((rv_up_n (by omega)).trans rv_up_s), hb1⟩
          · simp only [if_neg h2, if_neg h1]
            exact key (j - 1) (by omega)
    · rw [k6]
      exact ((rv_only.up (Or.inr (Or.inr rfl))).tr (rv_only.up (Or.inr (Or.inl rfl)))).tr (rv_only.up (Or.inl rfl))
  · exact absurd ((nI_ltI (b := 300) (by omega) (by omega)).mpr hn) c1
end
section
/-! WHAT A ROW OF GAPS WOULD BE JOINED WITH -/
abbrev Jn : Type := Int32 × Int32 × Int32 × Bool
def oJ (f : Int32) (a : Jn) : rv_E := oJoin f a.1 a.2.1 a.2.2.1 a.2.2.2
def jn_cond (d : Wd) (o k en : Int32) : Bool := decide (d.1.1 = o ∧ d.1.2.1 = k) && decide (d.1.2.2.1 < en)
def jn_step (a : Jn) (d : Wd) : Jn := (a.1 + 1, rv_min a.2.1 d.1.2.2.1, rv_max a.2.2.1 d.1.2.2.2, (a.2.2.2 || d.2.1.1))
def jn_run (p : Nat → Nat) (D : Nat → Wd) (o k en : Int32) : Nat → Nat → Jn → Jn
  | 0, _, a => a
  | f + 1, i, a => if jn_cond (D (p i)) o k en = true then jn_run p D o k en f (i + 1) (jn_step a (D (p i))) else a
set_option maxRecDepth 100000 in
theorem lp_gather {G : rv_G} {wl n jn oa : Nat} {p : Nat → Nat} {D : Nat → Wd} {o kd sz st l r0 m : Int32} {k time en vf v6 : Int32} (hjn : jn < wl ∨ wl + 362 ≤ jn) (hjo : oa ≠ jn) : ∀ (t i : Nat) (vi : Int32) (x7 x9 : Option Value) (a : Jn) (σ : rv_S), vi = nI i → i + t = n → PWL σ.2 wl n p D → σ.2 oa = some (oOp o kd sz st l r0 m) → σ.2 jn = some (oJ vf a) →
    rv_V G m_WindowList_gather 0 0 (fun r σ' => r = none ∧ σ' = (σ.1, rv_up σ.2 jn (oJ vf (jn_run p D o k en t i a)))) 77 [some (.ref wl), some (.ref jn), some (.ref oa), some (.int k), some (.int time), some (.int en), some (.int v6), x7, some (.int vi), x9] [] σ 0 0 := by
  intro t
  induction t with
  | zero =>
    intro i vi x7 x9 a σ ei h1 h ho hj
    have hn := h.2.2.2.2
    refine rv_V.run rv_gd_WindowList_gather [77] 400 ?_
    refine Exists.intro _ (And.intro h.1 ?_)
    refine And.intro (fun c1 => ?_) (fun c1 => ?_)
    · exact ⟨rfl, by rw [show jn_run p D o k en 0 i a = a from rfl, rv_up_id hj]⟩
    · exact absurd ((rv_leN rfl ei (by omega) (by omega)).mpr (by omega)) c1
  | succ t ih =>
    intro i vi x7 x9 a σ ei h1 h ho hj
    obtain ⟨hx, ⟨f, hf, hfe⟩, hW, hp, hn⟩ := id h
    have hw := hW _ (hp.1 i (by omega))
    have hwn : wa wl (p i) ≠ jn := by have := hp.1 i (by omega); unfold wa; omega
    refine rv_V.run rv_gd_WindowList_gather [77] 400 ?_
    refine Exists.intro _ (And.intro hx ?_)
    refine And.intro (fun c1 => ?_) (fun c1 => ?_)
    · exact absurd ((rv_leN rfl ei (by omega) (by omega)).mp c1) (by omega)
    refine Exists.intro _ (And.intro hx ?_)
    refine ⟨_, _, _, some (wa wl (p i)), hf, by decide, (by rw [ei]; exact vp_in_nI (by omega) (by omega)), (by rw [ei, nI_clamp (by omega)]; exact hfe i (by omega)), ?_⟩
    refine Exists.intro _ (And.intro ho ?_)
    refine And.intro (Exists.intro _ hw.1) ?_
    refine ⟨_, _, _, ct_belongsTo _ _ _ _ _ _ _ _ _ o k hw.1, Nat.zero_le _, Nat.zero_le _, rfl, ?_⟩
    rintro _ σ ⟨rfl, rfl⟩
    refine And.intro (fun c2 => ?_) (fun c2 => ?_)
    · refine ⟨rfl, ?_⟩
      rw [show jn_run p D o k en (t + 1) i a = a from if_neg (by unfold jn_cond; rw [rv_b0.mp c2]; simp), rv_up_id hj]
    · refine Exists.intro _ (And.intro hw.1 ?_)
      refine And.intro (fun c3 => ?_) (fun c3 => ?_)
      · refine And.intro (Exists.intro _ hj) ?_
        refine ⟨_, _, _, ct_Join_add jn (wa wl (p i)) _ _ _ _ _ _ _ _ _ _ _ _ _ hj hw.1 hwn, Nat.zero_le _, Nat.zero_le _, rfl, ?_⟩
        rintro _ _ ⟨rfl, rfl⟩
        refine (ih (i + 1) (vi + 1) _ (some (.ref (wa wl (p i)))) (jn_step a (D (p i))) (σ.1, rv_up σ.2 jn (oJ vf (jn_step a (D (p i))))) (by rw [ei]; exact nI_1 i) (by omega) (h.kept (fun q h2 h3 => rv_up_n (by omega))) ((rv_up_n hjo).trans ho) rv_up_s).mono ?_
        rintro r σ' ⟨k1, k2⟩
        refine ⟨k1, ?_⟩
        rw [k2, show jn_run p D o k en (t + 1) i a = jn_run p D o k en t (i + 1) (jn_step a (D (p i))) from if_pos (by unfold jn_cond; rw [rv_bn c2, decide_eq_true c3]; rfl)]
        dsimp only
        rw [rv_up_up]
      · refine ⟨rfl, ?_⟩
        rw [show jn_run p D o k en (t + 1) i a = a from if_neg (by unfold jn_cond; rw [decide_eq_false c3]; simp), rv_up_id hj]
/-- where the joined begin -/
def jn_first (p : Nat → Nat) (D : Nat → Wd) (o k time : Int32) (q : Nat) : Nat := if 0 < q ∧ ((D (p (q - 1))).1.1 = o ∧ (D (p (q - 1))).1.2.1 = k) ∧ time < (D (p (q - 1))).1.2.2.2 then q - 1 else q
set_option maxRecDepth 100000 in
theorem ct_gather {G : rv_G} {σ : rv_S} {wl n jn oa : Nat} {p : Nat → Nat} {D : Nat → Wd} {o kd sz st l r0 m : Int32} {vf : Int32} {a : Jn} (k time : Int32) (hjn : jn < wl ∨ wl + 362 ≤ jn) (hjo : oa ≠ jn) (h : PWL σ.2 wl n p D) (hs : WS n p D) (ho : σ.2 oa = some (oOp o kd sz st l r0 m)) (hj : σ.2 jn = some (oJ vf a)) :
    rv_Ct G i_WindowList_gather 0 0 [.ref wl, .ref jn, .ref oa, .int k, .int time] σ (fun r σ' => r = none ∧ ∃ q, rv_pl_ n p D o k time q ∧ σ' = (σ.1, rv_up σ.2 jn (oJ (nI (jn_first p D o k time q)) (jn_run p D o k (time + sz) (n - jn_first p D o k time q) (jn_first p D o k time q) (0, time, time + sz, false))))) := by
  have hn := h.2.2.2.2
  refine rv_ct (M := m_WindowList_gather) rfl (by decide) rfl rfl ?_
  refine rv_V.run rv_gd_WindowList_gather [63] 400 ?_
  refine Exists.intro _ (And.intro ho ?_)
  refine Exists.intro _ (And.intro ho ?_)
  refine And.intro (Exists.intro _ h.1) ?_
  refine ⟨_, _, _, ct_place h hs o k time, Nat.zero_le _, Nat.zero_le _, rfl, ?_⟩
  rintro _ σ ⟨⟨q, hq, rfl⟩, rfl⟩
  have tail : ∀ (fi : Nat) (vfi : Int32) (x7 : Option Value), vfi = nI fi → fi ≤ n → fi = jn_first p D o k time q →
      rv_V G m_WindowList_gather 0 0 (fun r σ' => r = none ∧ ∃ q, rv_pl_ n p D o k time q ∧ σ' = (σ.1, rv_up σ.2 jn (oJ (nI (jn_first p D o k time q)) (jn_run p D o k (time + sz) (n - jn_first p D o k time q) (jn_first p D o k time q) (0, time, time + sz, false))))) 63 [some (.ref wl), some (.ref jn), some (.ref oa), some (.int k), some (.int time), some (.int (time + sz)), some (.int vfi), x7, none, none] [] σ 0 0 := by
    intro fi vfi x7 e1 e2 e3
    refine rv_V.run rv_gd_WindowList_gather [77] 400 ?_
    refine And.intro (Exists.intro _ hj) ?_
    refine ⟨_, _, _, ct_Join_start jn _ _ _ _ _ time (time + sz) vfi hj, Nat.zero_le _, Nat.zero_le _, rfl, ?_⟩
    rintro _ _ ⟨rfl, rfl⟩
    refine (lp_gather (p := p) (D := D) hjn hjo (n - fi) fi vfi _ _ (0, time, time + sz, false) (σ.1, rv_up σ.2 jn (oJoin vfi 0 time (time + sz) false)) e1 (by omega) (h.kept (fun q h2 h3 => rv_up_n (by omega))) ((rv_up_n hjo).trans ho) rv_up_s).mono ?_
    rintro r σ' ⟨k1, k2⟩
    refine ⟨k1, q, hq, ?_⟩
    rw [k2, ← e3, e1]
    dsimp only
    rw [rv_up_up]
  rcases Nat.eq_zero_or_pos q with hq0 | hq0
  · refine And.intro (Exists.intro _ h.1) ?_
    refine ⟨_, _, _, ct_at_out h _ (Or.inl (by rw [hq0]; decide)), Nat.zero_le _, Nat.zero_le _, rfl, ?_⟩
    rintro _ σ ⟨rfl, rfl⟩
    exact tail q _ _ rfl hq.1 (by unfold jn_first; rw [if_neg (by omega)])
  · have hq1 : nI q - 1 = nI (q - 1) := by obtain ⟨t, rfl⟩ : ∃ t, q = t + 1 := ⟨q - 1, by omega⟩; exact nI_pred t
    have hqn := hq.1
    have hw := h.2.2.1 _ (h.2.2.2.1.1 (q - 1) (by omega))
    refine And.intro (Exists.intro _ h.1) ?_
    refine ⟨_, _, _, (by rw [hq1]; exact ct_at_in h (q - 1) (by omega)), Nat.zero_le _, Nat.zero_le _, rfl, ?_⟩
    rintro _ σ ⟨rfl, rfl⟩
    refine Exists.intro _ (And.intro ho ?_)
    refine And.intro (Exists.intro _ hw.1) ?_
    refine ⟨_, _, _, ct_belongsTo _ _ _ _ _ _ _ _ _ o k hw.1, Nat.zero_le _, Nat.zero_le _, rfl, ?_⟩
    rintro _ σ ⟨rfl, rfl⟩
    refine And.intro (fun c1 => ?_) (fun c1 => ?_)
    · exact tail q _ _ rfl hq.1 (by unfold jn_first; rw [if_neg (fun z => of_decide_eq_false (rv_b0.mp c1) z.2.1)])
    · refine Exists.intro _ (And.intro hw.1 ?_)
      refine And.intro (fun c2 => ?_) (fun c2 => ?_)
      · exact tail q _ _ rfl hq.1 (by unfold jn_first; rw [if_neg (fun z => absurd z.2.2 (Int32.not_lt.mpr c2))])
      · exact tail (q - 1) _ _ (by obtain ⟨t, rfl⟩ : ∃ t, q = t + 1 := ⟨q - 1, by omega⟩; exact pk_m1 t) (by omega) (by unfold jn_first; rw [if_pos ⟨hq0, of_decide_eq_true (rv_bn c1), Int32.not_le.mp c2⟩])
end
section
/-! A ROW OF GAPS IS USED -/
/-- those that were told are taken back, by begins -/
def tb_run (p : Nat → Nat) (D : Nat → Wd) : Nat → Nat → Rs → Rs
  | 0, _, R => R
  | f + 1, i, R => tb_run p D f (i + 1) (if (D (p i)).2.1.1 = true then rs_push R (rv_rec (-1) (D (p i))) else R)
theorem SC_n367 (x : Nat) : ¬ SC x (x + 367) := by unfold SC; omega
set_option maxRecDepth 100000 in
theorem lp_takeBack {G : rv_G} {x fi c n : Nat} {nop nsr bd rl dr : Int32} {p : Nat → Nat} {D : Nat → Wd} {a : Jn} (hc : a.1 = nI c) (hfc : fi + c ≤ n) : ∀ (t i : Nat) (vi : Int32) (x2 : Option Value) (R : Rs) (σ : rv_S), vi = nI i → i + t = c → PT σ.2 x nop nsr bd rl dr n p D R → σ.2 (x + 367) = some (oJ (nI fi) a) →
    rv_V G m_Late_takeBackJoined 0 0 (fun r σ' => r = none ∧ σ'.1 = σ.1 ∧ PT σ'.2 x nop nsr bd rl dr n p D (tb_run p D t (fi + i) R) ∧ rv_only (SC x) σ.2 σ'.2) 2 [some (.ref x), some (.int vi), x2] [] σ 0 0 := by
  intro t
  induction t with
  | zero =>
    intro i vi x2 R σ ei h1 h hj
    have hn := h.2.1.2.2.2.2
    refine rv_V.run rv_gd_Late_takeBackJoined [2] 400 ?_
    refine Exists.intro _ (And.intro h.1 ?_)
    refine Exists.intro _ (And.intro hj ?_)
    refine And.intro (fun c1 => ?_) (fun c1 => ?_)
    · exact ⟨rfl, rfl, h, rv_only.rf⟩
    · exact absurd ((rv_leN hc ei (by omega) (by omega)).mpr (by omega)) c1
  | succ t ih =>
    intro i vi x2 R σ ei h1 h hj
    have hn := h.2.1.2.2.2.2
    have hpi := h.2.1.2.2.2.1.1 (fi + i) (by omega)
    have hw := h.2.1.2.2.1 _ hpi
    refine rv_V.run rv_gd_Late_takeBackJoined [2] 400 ?_
    refine Exists.intro _ (And.intro h.1 ?_)
    refine Exists.intro _ (And.intro hj ?_)
    refine And.intro (fun c1 => ?_) (fun c1 => ?_)
    · exact absurd ((rv_leN hc ei (by omega) (by omega)).mp c1) (by omega)
    refine Exists.intro _ (And.intro h.1 ?_)
    refine Exists.intro _ (And.intro h.1 ?_)
    refine Exists.intro _ (And.intro hj ?_)
    refine And.intro (Exists.intro _ h.2.1.1) ?_
    refine ⟨_, _, _, (by rw [show nI fi + vi = nI (fi + i) by rw [ei, nI_add]]; exact ct_at_in h.2.1 (fi + i) (by omega)), Nat.zero_le _, Nat.zero_le _, rfl, ?_⟩
    rintro _ σ ⟨rfl, rfl⟩
    refine Exists.intro _ (And.intro hw.1 ?_)
    refine And.intro (fun c2 => ?_) (fun c2 => ?_)
    · refine (ih (i + 1) (vi + 1) _ R σ (by rw [ei]; exact nI_1 i) (by omega) h hj).mono ?_
      rintro r σ' ⟨k1, k2, k3, k4⟩
      refine ⟨k1, k2, ?_, k4⟩
      rw [show tb_run p D (t + 1) (fi + i) R = tb_run p D t (fi + (i + 1)) R by
        conv => lhs; unfold tb_run
        rw [rv_b0.mp c2, if_neg (by decide)]; rfl]
      exact k3
    · refine And.intro (Exists.intro _ h.1) ?_
      refine ⟨_, _, _, h.keep hpi (-1), Nat.zero_le _, Nat.zero_le _, rfl, ?_⟩
      rintro _ σ2 ⟨rfl, e1, h2, h3⟩
      refine (ih (i + 1) (vi + 1) _ _ σ2 (by rw [ei]; exact nI_1 i) (by omega) h2 ((h3 _ (SC_n367 x)).trans hj)).mono ?_
      rintro r σ' ⟨k1, k2, k3, k4⟩
      refine ⟨k1, k2.trans e1, ?_, h3.tr k4⟩
      rw [show tb_run p D (t + 1) (fi + i) R = tb_run p D t (fi + (i + 1)) (rs_push R (rv_rec (-1) (D (p (fi + i))))) by
        conv => lhs; unfold tb_run
        rw [rv_bn c2, if_pos rfl]; rfl]
      exact k3
set_option maxRecDepth 100000 in
theorem ct_takeBack {G : rv_G} {σ : rv_S} {x fi c n : Nat} {nop nsr bd rl dr : Int32} {p : Nat → Nat} {D : Nat → Wd} {R : Rs} {a : Jn} (hc : a.1 = nI c) (hfc : fi + c ≤ n) (h : PT σ.2 x nop nsr bd rl dr n p D R) (hj : σ.2 (x + 367) = some (oJ (nI fi) a)) :
    rv_Ct G i_Late_takeBackJoined 0 0 [.ref x] σ (fun r σ' => r = none ∧ σ'.1 = σ.1 ∧ PT σ'.2 x nop nsr bd rl dr n p D (tb_run p D c fi R) ∧ rv_only (SC x) σ.2 σ'.2) := by
  refine rv_ct (M := m_Late_takeBackJoined) rfl (by decide) rfl rfl ?_
  refine rv_V.run rv_gd_Late_takeBackJoined [2] 400 ?_
  exact lp_takeBack hc hfc c 0 _ _ R σ rfl (by omega) h hj
def tl_all (a b : Tl) : Tl := (a.1 + b.1, a.2.1 + b.2.1, rv_min a.2.2.1 b.2.2.1, rv_max a.2.2.2 b.2.2.2)
def whas (d : Wd) (t : Tl) : Wd := (d.1, d.2.1, t, d.2.2.2)
/-- the first takes what the others have, from the last on; they go -/
def mg_run (fi i0 : Nat) : Nat → Nat × (Nat → Nat) × (Nat → Wd) → Nat × (Nat → Nat) × (Nat → Wd)
  | 0, s => s
  | t + 1, s => mg_run fi i0 t (s.1 - 1, rv_del s.2.1 (fi + (t + 1)) s.1, va_up s.2.2 i0 (whas (s.2.2 i0) (tl_all (s.2.2 i0).2.2.1 (s.2.2 (s.2.1 (fi + (t + 1)))).2.2.1)))
/-- the joined window stands there, untold -/
def mg_end (i0 : Nat) (b e : Int32) (s : Nat × (Nat → Nat) × (Nat → Wd)) : Nat × (Nat → Nat) × (Nat → Wd) := (s.1, s.2.1, va_up s.2.2 i0 (((s.2.2 i0).1.1, (s.2.2 i0).1.2.1, b, e), (false, false), (s.2.2 i0).2.2))
set_option maxRecDepth 100000 in
theorem lp_merge {G : rv_G} {x fi i0 : Nat} {nop nsr bd rl dr : Int32} {a : Jn} (hi0 : i0 < 120) : ∀ (t : Nat) (vt : Int32) (x3 : Option Value) (n : Nat) (p : Nat → Nat) (D : Nat → Wd) (R : Rs) (σ : rv_S), vt = nI t → fi + t < n → p fi = i0 → PT σ.2 x nop nsr bd rl dr n p D R → σ.2 (x + 367) = some (oJ (nI fi) a) →
    rv_V G m_Late_mergeJoined 0 0 (fun r σ' => r = none ∧ σ'.1 = σ.1 ∧ PT σ'.2 x nop nsr bd rl dr (mg_end i0 a.2.1 a.2.2.1 (mg_run fi i0 t (n, p, D))).1 (mg_end i0 a.2.1 a.2.2.1 (mg_run fi i0 t (n, p, D))).2.1 (mg_end i0 a.2.1 a.2.2.1 (mg_run fi i0 t (n, p, D))).2.2 R ∧ rv_only (SC x) σ.2 σ'.2) 10 [some (.ref x), some (.ref (wa (x + 5) i0)), some (.int vt), x3] [] σ 0 0 := by
  intro t
  induction t with
  | zero =>
    intro vt x3 n p D R σ ei h1 hp0 h hj
    have hw := h.2.1.2.2.1 _ hi0
    have hsc0 : SC x (wa (x + 5) i0) := by unfold SC wa; omega
    have hne : x + 367 ≠ wa (x + 5) i0 := by unfold wa; omega
    refine rv_V.run rv_gd_Late_mergeJoined [10] 400 ?_
    refine And.intro (fun c1 => ?_) (fun c1 => ?_)
    · refine Exists.intro _ (And.intro h.1 ?_)
      refine Exists.intro _ (And.intro hj ?_)
      refine Exists.intro _ (And.intro hw.1 (And.intro trivial ?_))
      refine Exists.intro _ (And.intro ((rv_up_n (by unfold wa; omega)).trans h.1) ?_)
      refine Exists.intro _ (And.intro ((rv_up_n hne).trans hj) ?_)
      refine Exists.intro _ (And.intro rv_up_s (And.intro trivial ?_))
      rw [rv_up_up]
      refine Exists.intro _ (And.intro rv_up_s (And.intro (Or.inl rfl) ?_))
      rw [rv_up_up]
      refine Exists.intro _ (And.intro rv_up_s (And.intro (Or.inl rfl) ?_))
      rw [rv_up_up]
      refine ⟨rfl, rfl, ?_, rv_only.up hsc0⟩
      exact h.up (a := wa (x + 5) i0) (by unfold wa; omega) (h.2.1.setW hi0 ((D i0).1.1, (D i0).1.2.1, a.2.1, a.2.2.1) (false, false))
    · exact absurd (by rw [ei]; decide) c1
  | succ t ih =>
    intro vt x3 n p D R σ ei h1 hp0 h hj
    have hn := h.2.1.2.2.2.2
    have hpj := h.2.1.2.2.2.1.1 (fi + (t + 1)) (by omega)
    have hne : p (fi + (t + 1)) ≠ i0 := by
      intro z
      have := h.2.1.2.2.2.1.2 (fi + (t + 1)) fi (by omega) (by omega) (by rw [z, hp0])
      omega
    have hw := h.2.1.2.2.1 _ hi0
    have hwj := h.2.1.2.2.1 _ hpj
    have hsc1 : SC x (wa (x + 5) i0 + 1) := by unfold SC wa; omega
    have h1' : PT (rv_up σ.2 (wa (x + 5) i0 + 1) (oT (tl_all (D i0).2.2.1 (D (p (fi + (t + 1)))).2.2.1))) x nop nsr bd rl dr n p (va_up D i0 (whas (D i0) (tl_all (D i0).2.2.1 (D (p (fi + (t + 1)))).2.2.1))) R := h.up (by unfold wa; omega) (h.2.1.setH hi0 _)
    have hj' : rv_up σ.2 (wa (x + 5) i0 + 1) (oT (tl_all (D i0).2.2.1 (D (p (fi + (t + 1)))).2.2.1)) (x + 367) = some (oJ (nI fi) a) := (rv_up_n (by unfold wa; omega)).trans hj
    have hadd : nI fi + vt = nI (fi + (t + 1)) := by rw [ei, nI_add]
    refine rv_V.run rv_gd_Late_mergeJoined [10] 400 ?_
    refine And.intro (fun c1 => ?_) (fun c1 => ?_)
    · exact absurd c1 (by rw [ei]; exact nI_nle (by omega) (by omega))
    refine Exists.intro _ (And.intro h.1 ?_)
    refine Exists.intro _ (And.intro h.1 ?_)
    refine Exists.intro _ (And.intro hj ?_)
    refine And.intro (Exists.intro _ h.2.1.1) ?_
    refine ⟨_, _, _, (by rw [hadd]; exact ct_at_in h.2.1 (fi + (t + 1)) h1), Nat.zero_le _, Nat.zero_le _, rfl, ?_⟩
    rintro _ σ ⟨rfl, rfl⟩
    refine Exists.intro _ (And.intro hw.1 ?_)
    refine Exists.intro _ (And.intro hwj.1 ?_)
    refine And.intro (Exists.intro _ hw.2.1) ?_
    refine ⟨_, _, _, ct_Tally_addAll _ _ _ _ _ _ _ _ _ _ hw.2.1 hwj.2.1 (by unfold wa; omega), Nat.zero_le _, Nat.zero_le _, rfl, ?_⟩
    rintro _ _ ⟨rfl, rfl⟩
    refine Exists.intro _ (And.intro h1'.1 ?_)
    refine Exists.intro _ (And.intro h1'.1 ?_)
    refine Exists.intro _ (And.intro hj' ?_)
    refine And.intro (Exists.intro _ h1'.2.1.1) ?_
    refine ⟨_, _, _, (by rw [hadd]; exact ct_WL_remove (σ := (σ.1, rv_up σ.2 (wa (x + 5) i0 + 1) (oT (tl_all (D i0).2.2.1 (D (p (fi + (t + 1)))).2.2.1)))) h1'.2.1 (fi + (t + 1)) h1), Nat.zero_le _, Nat.zero_le _, rfl, ?_⟩
    rintro _ σ2 ⟨rfl, e1, h2, h3⟩
    have hT2 : PT σ2.2 x nop nsr bd rl dr (n - 1) (rv_del p (fi + (t + 1)) n) (va_up D i0 (whas (D i0) (tl_all (D i0).2.2.1 (D (p (fi + (t + 1)))).2.2.1))) R := ⟨(h3 x (by omega)).trans h1'.1, h2, h1'.2.2.kept (h3 _ (by omega)) (h3 _ (by omega))⟩
    have hon : rv_only (SC x) σ.2 σ2.2 := (rv_only.up hsc1).tr (fun q hq => h3 q (by unfold SC at hq; omega))
    refine (ih (vt + (-1)) _ _ _ _ _ σ2 (by rw [ei]; exact pk_m1 t) (by omega) (by unfold rv_del; rw [if_neg (by omega), if_neg (by omega)]; exact hp0) hT2 ((hon _ (SC_n367 x)).trans hj)).mono ?_
    rintro r σ' ⟨k1, k2, k3, k4⟩
    exact ⟨k1, k2.trans e1, k3, hon.tr k4⟩
set_option maxRecDepth 100000 in
theorem ct_merge {G : rv_G} {σ : rv_S} {x fi c n : Nat} {nop nsr bd rl dr : Int32} {p : Nat → Nat} {D : Nat → Wd} {R : Rs} {a : Jn} (hc : a.1 = nI c) (hc0 : 0 < c) (hfc : fi + c ≤ n) (h : PT σ.2 x nop nsr bd rl dr n p D R) (hj : σ.2 (x + 367) = some (oJ (nI fi) a)) :
    rv_Ct G i_Late_mergeJoined 0 0 [.ref x, .ref (wa (x + 5) (p fi))] σ (fun r σ' => r = none ∧ σ'.1 = σ.1 ∧ PT σ'.2 x nop nsr bd rl dr (mg_end (p fi) a.2.1 a.2.2.1 (mg_run fi (p fi) (c - 1) (n, p, D))).1 (mg_end (p fi) a.2.1 a.2.2.1 (mg_run fi (p fi) (c - 1) (n, p, D))).2.1 (mg_end (p fi) a.2.1 a.2.2.1 (mg_run fi (p fi) (c - 1) (n, p, D))).2.2 R ∧ rv_only (SC x) σ.2 σ'.2) := by
  have hn := h.2.1.2.2.2.2
  refine rv_ct (M := m_Late_mergeJoined) rfl (by decide) rfl rfl ?_
  refine rv_V.run rv_gd_Late_mergeJoined [10] 400 ?_
  refine Exists.intro _ (And.intro h.1 ?_)
  refine Exists.intro _ (And.intro hj ?_)
  exact lp_merge (h.2.1.2.2.2.1.1 fi (by omega)) (c - 1) _ _ n p D R σ (by show a.1 - 1 = _; rw [hc]; obtain ⟨t, rfl⟩ : ∃ t, c = t + 1 := ⟨c - 1, by omega⟩; exact nI_pred t) (by omega) rfl h hj
end
section
/-! A ROW IS USED: the order of the windows, and the two ways -/
/-- the place of (o, k, b), by numbers -/
def rv_plc (p : Nat → Nat) (D : Nat → Wd) (o k b : Int32) : Nat → Nat
  | 0 => 0
  | n + 1 => if wb (D (p n)) o k b = true then n + 1 else rv_plc p D o k b n
theorem rv_plc_eq {p : Nat → Nat} {D : Nat → Wd} {o k b : Int32} : ∀ {n q : Nat}, rv_pl_ n p D o k b q → rv_plc p D o k b n = q
  | 0, q, h => by have := h.1; unfold rv_plc; omega
  | n + 1, q, h => by
    unfold rv_plc
    rcases Nat.lt_or_ge n q with z | z
    · rw [if_pos (h.2.1 n z)]
      have := h.1
      omega
    · rw [if_neg (by rw [h.2.2 n z (by omega)]; decide)]
      exact rv_plc_eq ⟨z, h.2.1, fun j h1 h2 => h.2.2 j h1 (by omega)⟩
theorem wb_total {d : Wd} {o k b : Int32} (h1 : wb d o k b = false) (h2 : weq d o k b = false) : rv_before o k b d.1.1 d.1.2.1 d.1.2.2.1 = true := by
  have h3 : ¬ wb d o k b = true := by rw [h1]; decide
  unfold wb at h3
  rw [rv_before_iff] at h3 ⊢
  have h4 : ¬ ((d.1.1.toInt = o.toInt ∧ d.1.2.1.toInt = k.toInt) ∧ d.1.2.2.1.toInt = b.toInt) := by
    rintro ⟨⟨a1, a2⟩, a3⟩
    unfold weq at h2
    rw [decide_eq_true ⟨Int32.toInt_inj.mp a1, Int32.toInt_inj.mp a2⟩, decide_eq_true (Int32.toInt_inj.mp a3)] at h2
    cases h2
  omega
/-- the order stays, where only what isn't a key has changed -/
theorem WS.same {n : Nat} {p : Nat → Nat} {D D' : Nat → Wd} (h : WS n p D) (hD : ∀ i, (D' i).1.1 = (D i).1.1 ∧ (D' i).1.2.1 = (D i).1.2.1 ∧ (D' i).1.2.2.1 = (D i).1.2.2.1) : WS n p D' := by
  intro i j hij hj
  have := h i j hij hj
  unfold wb at this ⊢
  rw [(hD (p i)).1, (hD (p i)).2.1, (hD (p i)).2.2, (hD (p j)).1, (hD (p j)).2.1, (hD (p j)).2.2]
  exact this
theorem WS.ins {n q : Nat} {p : Nat → Nat} {D : Nat → Wd} {o k b e : Int32} (h : WS n p D) (hp : ∀ i j, i < 120 → j < 120 → p i = p j → i = j) (hn : n < 120) (hq : rv_pl_ n p D o k b q) (hno : ¬ (q < n ∧ weq (D (p q)) o k b = true)) : WS (n + 1) (rv_ins p q n) (va_up D (p n) (rv_fresh o k b e)) := by
  have hq1 := hq.1
  have old : ∀ j, j < n → va_up D (p n) (rv_fresh o k b e) (p j) = D (p j) := fun j hj => va_up_ne _ _ (fun z => by have := hp j n (by omega) hn z; omega)
  have hnew : ∀ j, q ≤ j → j < n → rv_before o k b (D (p j)).1.1 (D (p j)).1.2.1 (D (p j)).1.2.2.1 = true := by
    intro j h1 h2
    have hqq : rv_before o k b (D (p q)).1.1 (D (p q)).1.2.1 (D (p q)).1.2.2.1 = true := wb_total (hq.2.2 q (Nat.le_refl _) (by omega)) (by
      cases hz : weq (D (p q)) o k b with
      | false => rfl
      | true => exact absurd ⟨by omega, hz⟩ hno)
    rcases Nat.lt_or_ge q j with z | z
    · have := h q j z h2
      unfold wb at this
      rw [rv_before_iff] at this hqq ⊢
      omega
    · obtain rfl : j = q := by omega
      exact hqq
  intro i j hij hj
  unfold rv_ins
  by_cases h1 : j = q
  · rw [if_neg (by omega), if_neg (by omega), if_pos h1, old i (by omega), va_up_self]
    exact hq.2.1 i (by omega)
  · rw [if_neg h1]
    by_cases h2 : q < j ∧ j ≤ n
    · rw [if_pos h2, old (j - 1) (by omega)]
      by_cases h3 : i = q
      · rw [if_pos h3, va_up_self]
        exact hnew (j - 1) (by omega) (by omega)
      · rw [if_neg h3]
        by_cases h4 : q < i ∧ i ≤ n
        · rw [if_pos h4, old (i - 1) (by omega)]
          exact h (i - 1) (j - 1) (by omega) (by omega)
        · rw [if_neg h4, old i (by omega)]
          exact h i (j - 1) (by omega) (by omega)
    · rw [if_neg h2, if_neg (by omega), if_neg (by omega), old i (by omega), old j (by omega)]
      exact h i j hij (by omega)
theorem ci_keys (r0 m : Int32) (D : Nat → Wd) (R : Rs) (i : Nat) (v : Int32) : ∀ j, ((ci_one r0 m (D, R) i v).1 j).1 = (D j).1 := by
  intro j
  have key : ∀ d : Wd, d.1 = (D i).1 → (va_up D i d j).1 = (D j).1 := by
    intro d hd
    by_cases hj : j = i
    · subst hj; rw [va_up_self]; exact hd
    · rw [va_up_ne _ _ hj]
  by_cases h : (D i).2.1.1 = true ∧ r0 = 1
  · rw [ci_a h]; exact key _ rfl
  · by_cases hm : (D i).1.2.2.2 ≤ m
    · rw [ci_b h hm]; exact key _ rfl
    · rw [ci_c h hm]; exact key _ rfl
/-- found, or opened: the windows then, and which it is -/
def fo_run (o k b e : Int32) (n : Nat) (p : Nat → Nat) (D : Nat → Wd) : (Nat × (Nat → Nat) × (Nat → Wd)) × Nat :=
  if rv_plc p D o k b n < n ∧ weq (D (p (rv_plc p D o k b n))) o k b = true then ((n, p, D), p (rv_plc p D o k b n)) else ((n + 1, rv_ins p (rv_plc p D o k b n) n, va_up D (p n) (rv_fresh o k b e)), p n)
theorem PT.fo {G : rv_G} {σ : rv_S} {x : Nat} {nop nsr bd rl dr : Int32} {n : Nat} {p : Nat → Nat} {D : Nat → Wd} {R : Rs} (h : PT σ.2 x nop nsr bd rl dr n p D R) (hs : WS n p D) (hr : n < 120) (o k b e : Int32) :
    rv_Ct G i_WindowList_findOrOpen 0 0 [.ref (x + 5), .int o, .int k, .int b, .int e] σ (fun r σ' => r = some (.ref (wa (x + 5) (fo_run o k b e n p D).2)) ∧ σ'.1 = σ.1 ∧ PT σ'.2 x nop nsr bd rl dr (fo_run o k b e n p D).1.1 (fo_run o k b e n p D).1.2.1 (fo_run o k b e n p D).1.2.2 R ∧ WS (fo_run o k b e n p D).1.1 (fo_run o k b e n p D).1.2.1 (fo_run o k b e n p D).1.2.2 ∧ (fo_run o k b e n p D).2 < 120 ∧ rv_only (SC x) σ.2 σ'.2) := by
  refine (ct_findOrOpen h.2.1 hs hr o k b e).mono ?_
  rintro r σ' ⟨q, hq, h1⟩
  have hpl := rv_plc_eq hq
  rcases h1 with ⟨a1, a2, a3, a4⟩ | ⟨a1, a2, a3, a4, a5⟩
  · have hf : fo_run o k b e n p D = ((n, p, D), p q) := by unfold fo_run; rw [hpl, if_pos ⟨a1, a2⟩]
    rw [hf, a4]
    exact ⟨a3, rfl, h, hs, h.2.1.2.2.2.1.1 q (by omega), rv_only.rf⟩
  · have hf : fo_run o k b e n p D = ((n + 1, rv_ins p q n, va_up D (p n) (rv_fresh o k b e)), p n) := by unfold fo_run; rw [hpl, if_neg a1]
    rw [hf]
    exact ⟨a2, a3, ⟨(a5 x (by omega)).trans h.1, a4, h.2.2.kept (a5 _ (by omega)) (a5 _ (by omega))⟩, hs.ins h.2.1.2.2.2.1.2 hr hq a1, h.2.1.2.2.2.1.1 n hr, fun q2 hq2 => a5 q2 (by unfold SC at hq2; omega)⟩
/-- fixed and sliding: into all windows that are not closed -/
def gr_run (o k sz st l r0 m : Int32) (time v : Int32) : Nat → Int32 → Nat × (Nat → Nat) × (Nat → Wd) × Rs → Nat × (Nat → Nat) × (Nat → Wd) × Rs
  | 0, _, s => s
  | t + 1, b, s => if b ≤ time then
      gr_run o k sz st l r0 m time v t (b + st) (if b + sz + l ≤ m then s else
        ((fo_run o k b (b + sz) s.1 s.2.1 s.2.2.1).1.1, (fo_run o k b (b + sz) s.1 s.2.1 s.2.2.1).1.2.1, ci_one r0 m ((fo_run o k b (b + sz) s.1 s.2.1 s.2.2.1).1.2.2, s.2.2.2) (fo_run o k b (b + sz) s.1 s.2.1 s.2.2.1).2 v))
    else s
/-- there is room for what is opened -/
def gd_ok (o k sz st l r0 m : Int32) (time v : Int32) : Nat → Int32 → Nat × (Nat → Nat) × (Nat → Wd) × Rs → Prop
  | 0, _, _ => True
  | t + 1, b, s => b ≤ time → (¬ b + sz + l ≤ m → s.1 < 120) ∧ gd_ok o k sz st l r0 m time v t (b + st) (if b + sz + l ≤ m then s else
        ((fo_run o k b (b + sz) s.1 s.2.1 s.2.2.1).1.1, (fo_run o k b (b + sz) s.1 s.2.1 s.2.2.1).1.2.1, ci_one r0 m ((fo_run o k b (b + sz) s.1 s.2.1 s.2.2.1).1.2.2, s.2.2.2) (fo_run o k b (b + sz) s.1 s.2.1 s.2.2.1).2 v))
set_option maxRecDepth 100000 in
theorem lp_useInGrid {G : rv_G} {x oa : Nat} {nop nsr bd rl dr : Int32} (o kd sz st l r0 m : Int32) (k time v : Int32) (hoa : ¬ SC x oa) : ∀ (t c : Nat) (vc b : Int32) (x7 : Option Value) (n : Nat) (p : Nat → Nat) (D : Nat → Wd) (R : Rs) (σ : rv_S), vc = nI c → c + t = 8 → PT σ.2 x nop nsr bd rl dr n p D R → WS n p D → σ.2 oa = some (oOp o kd sz st l r0 m) → gd_ok o k sz st l r0 m time v t b (n, p, D, R) →
    rv_V G m_Late_useInGrid 0 0 (fun r σ' => r = none ∧ σ'.1 = σ.1 ∧ (∃ s, s = gr_run o k sz st l r0 m time v t b (n, p, D, R) ∧ PT σ'.2 x nop nsr bd rl dr s.1 s.2.1 s.2.2.1 s.2.2.2 ∧ WS s.1 s.2.1 s.2.2.1) ∧ rv_only (SC x) σ.2 σ'.2) 10 [some (.ref x), some (.ref oa), some (.int k), some (.int time), some (.int v), some (.int b), some (.int vc), x7] [] σ 0 0 := by
  intro t
  induction t with
  | zero =>
    intro c vc b x7 n p D R σ ec h1 h hs ho hok
    refine rv_V.run rv_gd_Late_useInGrid [10] 400 ?_
    refine And.intro (fun c1 => ?_) (fun c1 => ?_)
    · exact ⟨rfl, rfl, ⟨_, rfl, h, hs⟩, rv_only.rf⟩
    · exact absurd ((rv_leN (a := 8) rfl ec (by omega) (by omega)).mpr (by omega)) c1
  | succ t ih =>
    intro c vc b x7 n p D R σ ec h1 h hs ho hok
    have next : ∀ (x7 : Option Value) (s : Nat × (Nat → Nat) × (Nat → Wd) × Rs) (σ1 : rv_S), b ≤ time → σ1.1 = σ.1 → PT σ1.2 x nop nsr bd rl dr s.1 s.2.1 s.2.2.1 s.2.2.2 → WS s.1 s.2.1 s.2.2.1 → rv_only (SC x) σ.2 σ1.2 → gr_run o k sz st l r0 m time v (t + 1) b (n, p, D, R) = gr_run o k sz st l r0 m time v t (b + st) s → gd_ok o k sz st l r0 m time v t (b + st) s →
        rv_V G m_Late_useInGrid 0 0 (fun r σ' => r = none ∧ σ'.1 = σ.1 ∧ (∃ s, s = gr_run o k sz st l r0 m time v (t + 1) b (n, p, D, R) ∧ PT σ'.2 x nop nsr bd rl dr s.1 s.2.1 s.2.2.1 s.2.2.2 ∧ WS s.1 s.2.1 s.2.2.1) ∧ rv_only (SC x) σ.2 σ'.2) 64 [some (.ref x), some (.ref oa), some (.int k), some (.int time), some (.int v), some (.int b), some (.int vc), x7] [] σ1 0 0 := by
      intro x7 s σ1 hb s1 hT hw s2 s3 s4
      refine rv_V.run rv_gd_Late_useInGrid [10] 400 ?_
      refine Exists.intro _ (And.intro ((s2 oa hoa).trans ho) ?_)
      refine (ih (c + 1) (vc + 1) (b + st) x7 s.1 s.2.1 s.2.2.1 s.2.2.2 σ1 (by rw [ec]; exact nI_1 c) (by omega) hT hw ((s2 oa hoa).trans ho) s4).mono ?_
      rintro r σ' ⟨k1, k2, ⟨s', k3, k5⟩, k4⟩
      exact ⟨k1, k2.trans s1, ⟨s', by rw [k3, s3], k5⟩, s2.tr k4⟩
    refine rv_V.run rv_gd_Late_useInGrid [10, 64] 400 ?_
    refine And.intro (fun c1 => ?_) (fun c1 => ?_)
    · exact absurd ((rv_leN (a := 8) rfl ec (by omega) (by omega)).mp c1) (by omega)
    refine And.intro (fun c2 => ?_) (fun c2 => ?_)
    · refine ⟨rfl, rfl, ⟨_, rfl, ?_⟩, rv_only.rf⟩
      rw [show gr_run o k sz st l r0 m time v (t + 1) b (n, p, D, R) = (n, p, D, R) from if_neg (Int32.not_le.mpr c2)]
      exact ⟨h, hs⟩
    have hb := Int32.not_lt.mp c2
    obtain ⟨hroom, hok2⟩ := hok hb
    refine Exists.intro _ (And.intro ho ?_)
    refine And.intro (Exists.intro _ ho) ?_
    refine ⟨_, _, _, ct_closes oa o kd sz st l r0 m _ ho, Nat.zero_le _, Nat.zero_le _, rfl, ?_⟩
    rintro _ σ ⟨rfl, rfl⟩
    refine And.intro (fun c3 => ?_) (fun c3 => ?_)
    · have hcl := of_decide_eq_false (rv_b0.mp c3)
      rw [if_neg hcl] at hok2
      refine Exists.intro _ (And.intro h.1 ?_)
      refine Exists.intro _ (And.intro ho ?_)
      refine And.intro (Exists.intro _ h.2.1.1) ?_
      refine ⟨_, _, _, h.fo hs (hroom hcl) o k b (b + sz), Nat.zero_le _, Nat.zero_le _, rfl, ?_⟩
      rintro _ σ2 ⟨rfl, e1, h2, hs2, hi2, h3⟩
      refine And.intro (Exists.intro _ h2.1) ?_
      refine ⟨_, _, _, ct_comeInto o kd sz st l r0 m hoa h2 ((h3 oa hoa).trans ho) hi2 v, Nat.zero_le _, Nat.zero_le _, rfl, ?_⟩
      rintro _ σ3 ⟨rfl, e2, h4, h5⟩
      refine next _ _ σ3 hb (e2.trans e1) h4 (hs2.same (fun i => ?_)) (h3.tr h5) ?_ hok2
      · rw [ci_keys]; exact ⟨rfl, rfl, rfl⟩
      · rw [show gr_run o k sz st l r0 m time v (t + 1) b (n, p, D, R) = _ from if_pos hb, if_neg hcl]
    · have hcl := of_decide_eq_true (rv_bn c3)
      rw [if_pos hcl] at hok2
      refine next _ (n, p, D, R) σ hb rfl h hs rv_only.rf ?_ hok2
      rw [show gr_run o k sz st l r0 m time v (t + 1) b (n, p, D, R) = _ from if_pos hb, if_pos hcl]
set_option maxRecDepth 100000 in
theorem ct_useInGrid {G : rv_G} {σ : rv_S} {x oa : Nat} {nop nsr bd rl dr : Int32} {n : Nat} {p : Nat → Nat} {D : Nat → Wd} {R : Rs} (o kd sz st l r0 m : Int32) (k time v : Int32) (hoa : ¬ SC x oa) (h : PT σ.2 x nop nsr bd rl dr n p D R) (hs : WS n p D) (ho : σ.2 oa = some (oOp o kd sz st l r0 m)) (h1 : 1 ≤ st) (h0 : ¬ st = 0) (hok : gd_ok o k sz st l r0 m time v 8 ((rv_fdiv (time - sz) st + 1) * st) (n, p, D, R)) :
    rv_Ct G i_Late_useInGrid 0 0 [.ref x, .ref oa, .int k, .int time, .int v] σ (fun r σ' => r = none ∧ σ'.1 = σ.1 ∧ (∃ s, s = gr_run o k sz st l r0 m time v 8 ((rv_fdiv (time - sz) st + 1) * st) (n, p, D, R) ∧ PT σ'.2 x nop nsr bd rl dr s.1 s.2.1 s.2.2.1 s.2.2.2 ∧ WS s.1 s.2.1 s.2.2.1) ∧ rv_only (SC x) σ.2 σ'.2) := by
  refine rv_ct (M := m_Late_useInGrid) rfl (by decide) rfl rfl ?_
  refine rv_V.run rv_gd_Late_useInGrid [10] 400 ?_
  refine And.intro (Exists.intro _ ho) ?_
  refine ⟨_, _, _, ct_firstBegin oa o kd sz st l r0 m time ho h1 h0, Nat.zero_le _, Nat.zero_le _, rfl, ?_⟩
  rintro _ σ ⟨rfl, rfl⟩
  exact lp_useInGrid o kd sz st l r0 m k time v hoa 8 0 _ _ _ n p D R σ rfl rfl h hs ho hok
end
section
/-! A ROW OF GAPS IS USED: the whole of it -/
set_option maxRecDepth 100000 in
theorem ct_useInGaps0 {G : rv_G} {σ : rv_S} {x oa fi n : Nat} {nop nsr bd rl dr : Int32} {p : Nat → Nat} {D : Nat → Wd} {R : Rs} {a : Jn} (o kd sz st l r0 m : Int32) (k v : Int32) (hoa : ¬ SC x oa) (hc : a.1 = 0) (hfi : fi ≤ n) (h : PT σ.2 x nop nsr bd rl dr n p D R) (hs : WS n p D) (hn : n < 120) (ho : σ.2 oa = some (oOp o kd sz st l r0 m)) (hj : σ.2 (x + 367) = some (oJ (nI fi) a)) :
    rv_Ct G i_Late_useInGaps 0 0 [.ref x, .ref oa, .int k, .int v] σ (fun r σ' => r = none ∧ σ'.1 = σ.1 ∧ (∃ F, F = fo_run o k a.2.1 a.2.2.1 n p D ∧ PT σ'.2 x nop nsr bd rl dr F.1.1 F.1.2.1 (ci_one r0 m (F.1.2.2, R) F.2 v).1 (ci_one r0 m (F.1.2.2, R) F.2 v).2 ∧ WS F.1.1 F.1.2.1 (ci_one r0 m (F.1.2.2, R) F.2 v).1) ∧ rv_only (SC x) σ.2 σ'.2) := by
  have rest : ∀ x4 : Option Value, rv_V G m_Late_useInGaps 0 0 (fun r σ' => r = none ∧ σ'.1 = σ.1 ∧ (∃ F, F = fo_run o k a.2.1 a.2.2.1 n p D ∧ PT σ'.2 x nop nsr bd rl dr F.1.1 F.1.2.1 (ci_one r0 m (F.1.2.2, R) F.2 v).1 (ci_one r0 m (F.1.2.2, R) F.2 v).2 ∧ WS F.1.1 F.1.2.1 (ci_one r0 m (F.1.2.2, R) F.2 v).1) ∧ rv_only (SC x) σ.2 σ'.2) 16 [some (.ref x), some (.ref oa), some (.int k), some (.int v), x4] [] σ 0 0 := by
    intro x4
    refine rv_V.run rv_gd_Late_useInGaps [26] 400 ?_
    refine Exists.intro _ (And.intro h.1 ?_)
    refine Exists.intro _ (And.intro hj ?_)
    refine And.intro (fun c1 => ?_) (fun c1 => ?_)
    · refine Exists.intro _ (And.intro h.1 ?_)
      refine Exists.intro _ (And.intro ho ?_)
      refine Exists.intro _ (And.intro h.1 ?_)
      refine Exists.intro _ (And.intro hj ?_)
      refine Exists.intro _ (And.intro h.1 ?_)
      refine Exists.intro _ (And.intro hj ?_)
      refine And.intro (Exists.intro _ h.2.1.1) ?_
      refine ⟨_, _, _, h.fo hs hn o k a.2.1 a.2.2.1, Nat.zero_le _, Nat.zero_le _, rfl, ?_⟩
      rintro _ σ2 ⟨rfl, e1, h2, hs2, hi2, h3⟩
      refine And.intro (Exists.intro _ h2.1) ?_
      refine ⟨_, _, _, ct_comeInto o kd sz st l r0 m hoa h2 ((h3 oa hoa).trans ho) hi2 v, Nat.zero_le _, Nat.zero_le _, rfl, ?_⟩
      rintro _ σ3 ⟨rfl, e2, h4, h5⟩
      exact ⟨rfl, e2.trans e1, ⟨_, rfl, h4, hs2.same (fun i => by rw [ci_keys]; exact ⟨rfl, rfl, rfl⟩)⟩, h3.tr h5⟩
    · exact absurd hc c1
  refine rv_ct (M := m_Late_useInGaps) rfl (by decide) rfl rfl ?_
  refine rv_V.run rv_gd_Late_useInGaps [16] 400 ?_
  refine Exists.intro _ (And.intro h.1 ?_)
  refine Exists.intro _ (And.intro h.1 ?_)
  refine Exists.intro _ (And.intro hj ?_)
  refine And.intro (Exists.intro _ h.2.1.1) ?_
  rcases Nat.lt_or_ge fi n with z | z
  · refine ⟨_, _, _, ct_at_in h.2.1 fi z, Nat.zero_le _, Nat.zero_le _, rfl, ?_⟩
    rintro _ σ ⟨rfl, rfl⟩
    exact rest _
  · refine ⟨_, _, _, ct_at_out h.2.1 (nI fi) (Or.inr ((rv_leN rfl rfl (by omega) (by omega)).mpr z)), Nat.zero_le _, Nat.zero_le _, rfl, ?_⟩
    rintro _ σ ⟨rfl, rfl⟩
    exact rest _
/-- the windows and results before the number comes in -/
def ug_run (fi c : Nat) (a : Jn) (n : Nat) (p : Nat → Nat) (D : Nat → Wd) (R : Rs) : (Nat × (Nat → Nat) × (Nat → Wd)) × Rs :=
  if (D (p fi)).1.2.2.1 = a.2.1 ∧ (D (p fi)).1.2.2.2 = a.2.2.1 then ((n, p, D), R) else (mg_end (p fi) a.2.1 a.2.2.1 (mg_run fi (p fi) (c - 1) (n, p, D)), tb_run p D c fi R)
set_option maxRecDepth 100000 in
theorem ct_useInGaps1 {G : rv_G} {σ : rv_S} {x oa fi c n : Nat} {nop nsr bd rl dr : Int32} {p : Nat → Nat} {D : Nat → Wd} {R : Rs} {a : Jn} (o kd sz st l r0 m : Int32) (k v : Int32) (hoa : ¬ SC x oa) (hc : a.1 = nI c) (hc0 : 0 < c) (hfc : fi + c ≤ n) (h : PT σ.2 x nop nsr bd rl dr n p D R) (ho : σ.2 oa = some (oOp o kd sz st l r0 m)) (hj : σ.2 (x + 367) = some (oJ (nI fi) a)) :
    rv_Ct G i_Late_useInGaps 0 0 [.ref x, .ref oa, .int k, .int v] σ (fun r σ' => r = none ∧ σ'.1 = σ.1 ∧ (∃ F, F = ug_run fi c a n p D R ∧ PT σ'.2 x nop nsr bd rl dr F.1.1 F.1.2.1 (ci_one r0 m (F.1.2.2, F.2) (p fi) v).1 (ci_one r0 m (F.1.2.2, F.2) (p fi) v).2) ∧ rv_only (SC x) σ.2 σ'.2) := by
  have hn := h.2.1.2.2.2.2
  have hpf := h.2.1.2.2.2.1.1 fi (by omega)
  have hw := h.2.1.2.2.1 _ hpf
  have last : ∀ (n1 : Nat) (p1 : Nat → Nat) (D1 : Nat → Wd) (R1 : Rs) (σ1 : rv_S), σ1.1 = σ.1 → PT σ1.2 x nop nsr bd rl dr n1 p1 D1 R1 → rv_only (SC x) σ.2 σ1.2 → ug_run fi c a n p D R = ((n1, p1, D1), R1) →
      rv_V G m_Late_useInGaps 0 0 (fun r σ' => r = none ∧ σ'.1 = σ.1 ∧ (∃ F, F = ug_run fi c a n p D R ∧ PT σ'.2 x nop nsr bd rl dr F.1.1 F.1.2.1 (ci_one r0 m (F.1.2.2, F.2) (p fi) v).1 (ci_one r0 m (F.1.2.2, F.2) (p fi) v).2) ∧ rv_only (SC x) σ.2 σ'.2) 104 [some (.ref x), some (.ref oa), some (.int k), some (.int v), some (.ref (wa (x + 5) (p fi)))] [] σ1 0 0 := by
    intro n1 p1 D1 R1 σ1 s1 h1 s2 s3
    refine rv_V.run rv_gd_Late_useInGaps [] 400 ?_
    refine And.intro (Exists.intro _ h1.1) ?_
    refine ⟨_, _, _, ct_comeInto o kd sz st l r0 m hoa h1 ((s2 oa hoa).trans ho) hpf v, Nat.zero_le _, Nat.zero_le _, rfl, ?_⟩
    rintro _ σ3 ⟨rfl, e2, h4, h5⟩
    exact ⟨rfl, e2.trans s1, ⟨_, s3.symm, h4⟩, s2.tr h5⟩
  have both : ¬ ((D (p fi)).1.2.2.1 = a.2.1 ∧ (D (p fi)).1.2.2.2 = a.2.2.1) →
      rv_V G m_Late_useInGaps 0 0 (fun r σ' => r = none ∧ σ'.1 = σ.1 ∧ (∃ F, F = ug_run fi c a n p D R ∧ PT σ'.2 x nop nsr bd rl dr F.1.1 F.1.2.1 (ci_one r0 m (F.1.2.2, F.2) (p fi) v).1 (ci_one r0 m (F.1.2.2, F.2) (p fi) v).2) ∧ rv_only (SC x) σ.2 σ'.2) 94 [some (.ref x), some (.ref oa), some (.int k), some (.int v), some (.ref (wa (x + 5) (p fi)))] [] σ 0 0 := by
    intro hno
    refine rv_V.run rv_gd_Late_useInGaps [104] 400 ?_
    refine And.intro (Exists.intro _ h.1) ?_
    refine ⟨_, _, _, ct_takeBack hc hfc h hj, Nat.zero_le _, Nat.zero_le _, rfl, ?_⟩
    rintro _ σ2 ⟨rfl, e1, h2, h3⟩
    refine And.intro (Exists.intro _ h2.1) ?_
    refine ⟨_, _, _, ct_merge hc hc0 hfc h2 ((h3 _ (SC_n367 x)).trans hj), Nat.zero_le _, Nat.zero_le _, rfl, ?_⟩
    rintro _ σ3 ⟨rfl, e2, h4, h5⟩
    exact last _ _ _ _ σ3 (e2.trans e1) h4 (h3.tr h5) (if_neg hno)
  refine rv_ct (M := m_Late_useInGaps) rfl (by decide) rfl rfl ?_
  refine rv_V.run rv_gd_Late_useInGaps [94, 104] 400 ?_
  refine Exists.intro _ (And.intro h.1 ?_)
  refine Exists.intro _ (And.intro h.1 ?_)
  refine Exists.intro _ (And.intro hj ?_)
  refine And.intro (Exists.intro _ h.2.1.1) ?_
  refine ⟨_, _, _, ct_at_in h.2.1 fi (by omega), Nat.zero_le _, Nat.zero_le _, rfl, ?_⟩
  rintro _ σ ⟨rfl, rfl⟩
  refine Exists.intro _ (And.intro h.1 ?_)
  refine Exists.intro _ (And.intro hj ?_)
  refine And.intro (fun c1 => ?_) (fun c1 => ?_)
  · exact absurd c1 (by show ¬ a.1 = 0; rw [hc]; intro z; have := (rv_leN (a := c) (b := 0) rfl rfl (by omega) (by omega)).mp (by rw [z]; decide); omega)
  refine Exists.intro _ (And.intro hw.1 ?_)
  refine Exists.intro _ (And.intro h.1 ?_)
  refine Exists.intro _ (And.intro hj ?_)
  refine And.intro (fun c2 => ?_) (fun c2 => ?_)
  · refine Exists.intro _ (And.intro hw.1 ?_)
    refine Exists.intro _ (And.intro h.1 ?_)
    refine Exists.intro _ (And.intro hj ?_)
    refine And.intro (fun c3 => ?_) (fun c3 => ?_)
    · exact last n p D R σ rfl h rv_only.rf (if_pos ⟨c2, c3⟩)
    · exact both (fun z => c3 z.2)
  · exact both (fun z => c2 z.1)
end
section
/-! OPERATORS, SOURCES, THE MARK -/
def rv_in (n a b : Int32) : Bool := decide (a ≤ n ∧ n ≤ b)
set_option maxRecDepth 100000 in
theorem ct_isWithin {G : rv_G} {σ : rv_S} (n a b : Int32) : rv_Ct G i_Late_isWithin 0 0 [.int n, .int a, .int b] σ (fun r σ' => r = some (.int (rv_b (rv_in n a b))) ∧ σ' = σ) := by
  refine rv_ct (M := m_Late_isWithin) rfl (by decide) rfl rfl ?_
  refine rv_V.run rv_gd_Late_isWithin [] 400 ?_
  refine And.intro (fun c1 => ?_) (fun c1 => ?_)
  · refine And.intro (Or.inl rfl) ⟨?_, rfl⟩
    rw [show rv_in n a b = false from decide_eq_false (fun z => Int32.not_le.mpr c1 z.1)]; rfl
  · refine And.intro (fun c2 => ?_) (fun c2 => ?_)
    · refine And.intro (Or.inl rfl) ⟨?_, rfl⟩
      rw [show rv_in n a b = false from decide_eq_false (fun z => Int32.not_le.mpr c2 z.2)]; rfl
    · refine And.intro (Or.inr rfl) ⟨?_, rfl⟩
      rw [show rv_in n a b = true from decide_eq_true ⟨Int32.not_lt.mp c1, Int32.not_lt.mp c2⟩]; rfl
/-- an operator: kind, size, stride, lateness, rule, mark -/
abbrev Od : Type := Int32 × Int32 × Int32 × Int32 × Int32 × Int32
def oO (j : Nat) (d : Od) : rv_E := oOp (nI j) d.1 d.2.1 d.2.2.1 d.2.2.2.1 d.2.2.2.2.1 d.2.2.2.2.2
def POP (g : Nat → Option rv_E) (x no : Nat) (oa : Nat → Nat) (od : Nat → Od) : Prop :=
  (∃ f : Nat → Option Nat, g (x + 1) = some (rv_aO RX2 5 f) ∧ ∀ j, j < no → f j = some (oa j)) ∧ (∀ j, j < no → g (oa j) = some (oO j (od j)) ∧ x + 372 < oa j) ∧ no ≤ 5 ∧ ∀ i j, i < no → j < no → oa i = oa j → i = j
/-- a source: its operator, promise, ended, stopped, rows used, rows aside, times broken, first broken -/
abbrev Sd : Type := Nat × Int32 × (Bool × Bool) × Int32 × Int32 × Int32 × Int32
def oS (oa : Nat → Nat) (j : Nat) (d : Sd) : rv_E := oSource (nI j) (oa d.1) d.2.1 d.2.2.1.1 d.2.2.1.2 d.2.2.2.1 d.2.2.2.2.1 d.2.2.2.2.2.1 d.2.2.2.2.2.2
def PSR (g : Nat → Option rv_E) (x no ns : Nat) (oa sa : Nat → Nat) (sd : Nat → Sd) : Prop :=
  (∃ f : Nat → Option Nat, g (x + 2) = some (rv_aO RX6 10 f) ∧ ∀ j, j < ns → f j = some (sa j)) ∧ (∀ j, j < ns → g (sa j) = some (oS oa j (sd j)) ∧ x + 372 < sa j ∧ (sd j).1 < no) ∧ ns ≤ 10 ∧ ∀ i j, i < ns → j < ns → sa i = sa j → i = j
set_option maxRecDepth 100000 in
theorem ct_operatorAt_in {G : rv_G} {σ : rv_S} {x no : Nat} {oa : Nat → Nat} {od : Nat → Od} {nsr ev bd rl dr : Int32} (hx : σ.2 x = some (oLate x (nI no) nsr ev bd rl dr)) (h : POP σ.2 x no oa od) (j : Nat) (hj : j < no) : rv_Ct G i_Late_operatorAt 0 0 [.ref x, .int (nI j)] σ (fun r σ' => r = some (.ref (oa j)) ∧ σ' = σ) := by
  obtain ⟨⟨f, hf, hfe⟩, ho, hn, hi⟩ := h
  refine rv_ct (M := m_Late_operatorAt) rfl (by decide) rfl rfl ?_
  refine rv_V.run rv_gd_Late_operatorAt [] 400 ?_
  refine And.intro (fun c1 => ?_) (fun c1 => ?_)
  · exact absurd c1 (Int32.not_lt.mpr ((rv_leN (a := 0) rfl rfl (by omega) (by omega)).mpr (by omega)))
  refine Exists.intro _ (And.intro hx ?_)
  refine And.intro (fun c2 => ?_) (fun c2 => ?_)
  · exact absurd ((rv_leN rfl rfl (by omega) (by omega)).mp c2) (by omega)
  refine Exists.intro _ (And.intro hx ?_)
  exact ⟨_, _, _, some (oa j), hf, by decide, vp_in_nI (by omega) (by omega), (by rw [nI_clamp (by omega)]; exact hfe j hj), rfl, rfl⟩
set_option maxRecDepth 100000 in
theorem ct_operatorAt_out {G : rv_G} {σ : rv_S} {x no : Nat} {nsr ev bd rl dr : Int32} (hx : σ.2 x = some (oLate x (nI no) nsr ev bd rl dr)) (i : Int32) (hi : i < 0 ∨ nI no ≤ i) : rv_Ct G i_Late_operatorAt 0 0 [.ref x, .int i] σ (fun r σ' => r = some .null ∧ σ' = σ) := by
  refine rv_ct (M := m_Late_operatorAt) rfl (by decide) rfl rfl ?_
  refine rv_V.run rv_gd_Late_operatorAt [] 400 ?_
  refine And.intro (fun c1 => ?_) (fun c1 => ?_)
  · exact ⟨rfl, rfl⟩
  refine Exists.intro _ (And.intro hx ?_)
  refine And.intro (fun c2 => ?_) (fun c2 => ?_)
  · exact ⟨rfl, rfl⟩
  · rcases hi with z | z
    · exact absurd z c1
    · exact absurd z c2
set_option maxRecDepth 100000 in
theorem ct_sourceAt_in {G : rv_G} {σ : rv_S} {x no ns : Nat} {oa sa : Nat → Nat} {sd : Nat → Sd} {nop ev bd rl dr : Int32} (hx : σ.2 x = some (oLate x nop (nI ns) ev bd rl dr)) (h : PSR σ.2 x no ns oa sa sd) (j : Nat) (hj : j < ns) : rv_Ct G i_Late_sourceAt 0 0 [.ref x, .int (nI j)] σ (fun r σ' => r = some (.ref (sa j)) ∧ σ' = σ) := by
  obtain ⟨⟨f, hf, hfe⟩, ho, hn, hi⟩ := h
  refine rv_ct (M := m_Late_sourceAt) rfl (by decide) rfl rfl ?_
  refine rv_V.run rv_gd_Late_sourceAt [] 400 ?_
  refine And.intro (fun c1 => ?_) (fun c1 => ?_)
  · exact absurd c1 (Int32.not_lt.mpr ((rv_leN (a := 0) rfl rfl (by omega) (by omega)).mpr (by omega)))
  refine Exists.intro _ (And.intro hx ?_)
  refine And.intro (fun c2 => ?_) (fun c2 => ?_)
  · exact absurd ((rv_leN rfl rfl (by omega) (by omega)).mp c2) (by omega)
  refine Exists.intro _ (And.intro hx ?_)
  exact ⟨_, _, _, some (sa j), hf, by decide, vp_in_nI (by omega) (by omega), (by rw [nI_clamp (by omega)]; exact hfe j hj), rfl, rfl⟩
set_option maxRecDepth 100000 in
theorem ct_sourceAt_out {G : rv_G} {σ : rv_S} {x ns : Nat} {nop ev bd rl dr : Int32} (hx : σ.2 x = some (oLate x nop (nI ns) ev bd rl dr)) (i : Int32) (hi : i < 0 ∨ nI ns ≤ i) : rv_Ct G i_Late_sourceAt 0 0 [.ref x, .int i] σ (fun r σ' => r = some .null ∧ σ' = σ) := by
  refine rv_ct (M := m_Late_sourceAt) rfl (by decide) rfl rfl ?_
  refine rv_V.run rv_gd_Late_sourceAt [] 400 ?_
  refine And.intro (fun c1 => ?_) (fun c1 => ?_)
  · exact ⟨rfl, rfl⟩
  refine Exists.intro _ (And.intro hx ?_)
  refine And.intro (fun c2 => ?_) (fun c2 => ?_)
  · exact ⟨rfl, rfl⟩
  · rcases hi with z | z
    · exact absurd z c1
    · exact absurd z c2
/-- the least promise of an operator's sources that have not ended -/
def lp_run (sd : Nat → Sd) (o : Nat) : Nat → Nat → Int32 → Int32
  | 0, _, a => a
  | t + 1, i, a => lp_run sd o t (i + 1) (if (sd i).1 = o ∧ (sd i).2.2.1.1 = false then rv_min a (sd i).2.1 else a)
set_option maxRecDepth 100000 in
theorem lp_leastPromise {G : rv_G} {σ : rv_S} {x no ns o : Nat} {oa sa : Nat → Nat} {sd : Nat → Sd} {nop ev bd rl dr : Int32} (hx : σ.2 x = some (oLate x nop (nI ns) ev bd rl dr)) (h : PSR σ.2 x no ns oa sa sd) (hinj : ∀ i j, i < no → j < no → oa i = oa j → i = j) (ho : o < no) : ∀ (t i : Nat) (vi a : Int32), vi = nI i → i + t = ns →
    rv_V G m_Late_leastPromise 0 0 (fun r σ' => r = some (.int (lp_run sd o t i a)) ∧ σ' = σ) 5 [some (.ref x), some (.ref (oa o)), some (.int a), some (.int vi)] [] σ 0 0 := by
  obtain ⟨⟨f, hf, hfe⟩, hsd, hn, hi⟩ := h
  intro t
  induction t with
  | zero =>
    intro i vi a ei h1
    refine rv_V.run rv_gd_Late_leastPromise [5] 400 ?_
    refine Exists.intro _ (And.intro hx ?_)
    refine And.intro (fun c1 => ?_) (fun c1 => ?_)
    · exact And.intro trivial ⟨rfl, rfl⟩
    · exact absurd ((rv_leN rfl ei (by omega) (by omega)).mpr (by omega)) c1
  | succ t ih =>
    intro i vi a ei h1
    obtain ⟨hs1, hs2, hs3⟩ := hsd i (by omega)
    have hld : vp_in vi 10 := by rw [ei]; exact vp_in_nI (by omega) (by omega)
    have hfi : f vi.toNatClampNeg = some (sa i) := by rw [ei, nI_clamp (by omega)]; exact hfe i (by omega)
    have next : ∀ a' : Int32, lp_run sd o (t + 1) i a = lp_run sd o t (i + 1) a' → rv_V G m_Late_leastPromise 0 0 (fun r σ' => r = some (.int (lp_run sd o (t + 1) i a)) ∧ σ' = σ) 52 [some (.ref x), some (.ref (oa o)), some (.int a'), some (.int vi)] [] σ 0 0 := by
      intro a' e1
      refine rv_V.run rv_gd_Late_leastPromise [5] 400 ?_
      rw [e1]
      exact ih (i + 1) (vi + 1) a' (by rw [ei]; exact nI_1 i) (by omega)
    refine rv_V.run rv_gd_Late_leastPromise [5, 52] 400 ?_
    refine Exists.intro _ (And.intro hx ?_)
    refine And.intro (fun c1 => ?_) (fun c1 => ?_)
    · exact absurd ((rv_leN rfl ei (by omega) (by omega)).mp c1) (by omega)
    refine Exists.intro _ (And.intro hx ?_)
    refine ⟨_, _, _, some (sa i), hf, by decide, hld, hfi, ?_⟩
    refine Exists.intro _ (And.intro hs1 ?_)
    refine And.intro (fun c2 => ?_) (fun c2 => ?_)
    · refine Exists.intro _ (And.intro hx ?_)
      refine ⟨_, _, _, some (sa i), hf, by decide, hld, hfi, ?_⟩
      refine Exists.intro _ (And.intro hs1 ?_)
      refine And.intro (fun c3 => ?_) (fun c3 => ?_)
      · refine Exists.intro _ (And.intro hx ?_)
        refine ⟨_, _, _, some (sa i), hf, by decide, hld, hfi, ?_⟩
        refine Exists.intro _ (And.intro hs1 ?_)
        refine ⟨_, _, _, ct_min a (sd i).2.1, Nat.zero_le _, Nat.zero_le _, rfl, ?_⟩
        rintro _ σ ⟨rfl, rfl⟩
        refine next _ ?_
        conv => lhs; unfold lp_run
        rw [if_pos ⟨hinj _ _ hs3 ho c2, rv_b0.mp c3⟩]
      · refine next a ?_
        conv => lhs; unfold lp_run
        rw [if_neg (fun z => by have := rv_bn c3; rw [z.2] at this; cases this)]
    · refine next a ?_
      conv => lhs; unfold lp_run
      rw [if_neg (fun z => c2 (by show oa (sd i).1 = oa o; rw [z.1]))]
set_option maxRecDepth 100000 in
theorem ct_leastPromise {G : rv_G} {σ : rv_S} {x no ns o : Nat} {oa sa : Nat → Nat} {sd : Nat → Sd} {nop ev bd rl dr : Int32} (hx : σ.2 x = some (oLate x nop (nI ns) ev bd rl dr)) (h : PSR σ.2 x no ns oa sa sd) (hinj : ∀ i j, i < no → j < no → oa i = oa j → i = j) (ho : o < no) :
    rv_Ct G i_Late_leastPromise 0 0 [.ref x, .ref (oa o)] σ (fun r σ' => r = some (.int (lp_run sd o ns 0 1000000000)) ∧ σ' = σ) := by
  refine rv_ct (M := m_Late_leastPromise) rfl (by decide) rfl rfl ?_
  refine rv_V.run rv_gd_Late_leastPromise [5] 400 ?_
  exact lp_leastPromise hx h hinj ho ns 0 _ _ rfl (by omega)
/-- the mark goes on -/
def om (d : Od) (m : Int32) : Od := (d.1, d.2.1, d.2.2.1, d.2.2.2.1, d.2.2.2.2.1, m)
theorem SC_hi {x q : Nat} (h : x + 369 < q) : ¬ SC x q := by unfold SC; omega
set_option maxRecDepth 100000 in
theorem ct_moveMark0 {G : rv_G} {σ : rv_S} {x no ns o : Nat} {oa sa : Nat → Nat} {od : Nat → Od} {sd : Nat → Sd} {ev bd rl dr : Int32} (hx : σ.2 x = some (oLate x (nI no) (nI ns) ev bd rl dr)) (hO : POP σ.2 x no oa od) (hS : PSR σ.2 x no ns oa sa sd) (ho : o < no) (hle : lp_run sd o ns 0 1000000000 ≤ (od o).2.2.2.2.2) :
    rv_Ct G i_Late_moveMark 0 0 [.ref x, .ref (oa o)] σ (fun r σ' => r = some (.int 0) ∧ σ' = σ) := by
  refine rv_ct (M := m_Late_moveMark) rfl (by decide) rfl rfl ?_
  refine rv_V.run rv_gd_Late_moveMark [] 400 ?_
  refine Exists.intro _ (And.intro hx ?_)
  refine And.intro (Exists.intro _ hx) ?_
  refine ⟨_, _, _, ct_leastPromise hx hS hO.2.2.2 ho, Nat.zero_le _, Nat.zero_le _, rfl, ?_⟩
  rintro _ σ ⟨rfl, rfl⟩
  refine Exists.intro _ (And.intro (hO.2.1 o ho).1 ?_)
  refine And.intro (fun c1 => ?_) (fun c1 => ?_)
  · refine Exists.intro _ (And.intro hx ?_)
    exact And.intro trivial ⟨by show some (Value.int (ev - ev)) = _; rw [Int32.sub_self], rfl⟩
  · exact absurd hle c1
set_option maxRecDepth 100000 in
theorem ct_moveMark1 {G : rv_G} {σ : rv_S} {x no ns o n : Nat} {oa sa : Nat → Nat} {od : Nat → Od} {sd : Nat → Sd} {p : Nat → Nat} {D : Nat → Wd} {R : Rs} {bd rl dr : Int32} (h : PT σ.2 x (nI no) (nI ns) bd rl dr n p D R) (hO : POP σ.2 x no oa od) (hS : PSR σ.2 x no ns oa sa sd) (ho : o < no) (hle : (od o).2.2.2.2.2 < lp_run sd o ns 0 1000000000) :
    rv_Ct G i_Late_moveMark 0 0 [.ref x, .ref (oa o)] σ (fun r σ' => ∃ s, s = lc_run (nI o) (od o).2.2.2.1 (lp_run sd o ns 0 1000000000) 120 (n, p, tl_run (nI o) (lp_run sd o ns 0 1000000000) n p 120 (D, R)) ∧ r = some (.int (s.2.2.2.2.2 - R.2.2)) ∧ σ'.1 = σ.1 ∧ PT σ'.2 x (nI no) (nI ns) bd rl dr s.1 s.2.1 s.2.2.1 s.2.2.2 ∧ σ'.2 (oa o) = some (oO o (om (od o) (lp_run sd o ns 0 1000000000))) ∧ rv_only (fun q => SC x q ∨ q = oa o) σ.2 σ'.2) := by
  have hox := (hO.2.1 o ho).2
  have h1 : PT (rv_up σ.2 (oa o) (oO o (om (od o) (lp_run sd o ns 0 1000000000)))) x (nI no) (nI ns) bd rl dr n p D R := ⟨(rv_up_n (by omega)).trans h.1, h.2.1.kept (fun q h2 h3 => rv_up_n (by omega)), h.2.2.kept (rv_up_n (by omega)) (rv_up_n (by omega))⟩
  refine rv_ct (M := m_Late_moveMark) rfl (by decide) rfl rfl ?_
  refine rv_V.run rv_gd_Late_moveMark [] 400 ?_
  refine Exists.intro _ (And.intro h.1 ?_)
  refine And.intro (Exists.intro _ h.1) ?_
  refine ⟨_, _, _, ct_leastPromise h.1 hS hO.2.2.2 ho, Nat.zero_le _, Nat.zero_le _, rfl, ?_⟩
  rintro _ σ ⟨rfl, rfl⟩
  refine Exists.intro _ (And.intro (hO.2.1 o ho).1 ?_)
  refine And.intro (fun c1 => ?_) (fun c1 => ?_)
  · exact absurd hle (Int32.not_lt.mpr c1)
  refine Exists.intro _ (And.intro (hO.2.1 o ho).1 (And.intro trivial ?_))
  refine And.intro (Exists.intro _ h1.1) ?_
  refine ⟨_, _, _, ct_tellAllDue (σ := (σ.1, rv_up σ.2 (oa o) (oO o (om (od o) (lp_run sd o ns 0 1000000000))))) (nI o) _ _ _ _ _ _ (SC_hi (by omega)) h1 rv_up_s, Nat.zero_le _, Nat.zero_le _, rfl, ?_⟩
  rintro _ σ2 ⟨rfl, e2, h2, s2⟩
  refine And.intro (Exists.intro _ h2.1) ?_
  refine ⟨_, _, _, ct_letClosedGo (nI o) _ _ _ _ _ _ (SC_hi (by omega)) h2 ((s2 _ (SC_hi (by omega))).trans rv_up_s), Nat.zero_le _, Nat.zero_le _, rfl, ?_⟩
  rintro _ σ3 ⟨rfl, e3, h3, s3⟩
  refine Exists.intro _ (And.intro h3.1 ?_)
  refine And.intro trivial ⟨_, rfl, rfl, e3.trans e2, h3, (s3 _ (SC_hi (by omega))).trans ((s2 _ (SC_hi (by omega))).trans rv_up_s), ?_⟩
  intro q hq
  rw [s3 q (fun z => hq (Or.inl z)), s2 q (fun z => hq (Or.inl z))]
  exact rv_up_n (fun z => hq (Or.inr z))
end
section
/-! A ROW IS JUDGED -/
def jd_gaps (l r0 m e : Int32) (t : Bool) : Int32 := if e + l ≤ m then 1 else if (e ≤ m ∨ t = true) ∧ r0 = 2 then 2 else 0
set_option maxRecDepth 100000 in
theorem ct_judgeInGaps {G : rv_G} {σ : rv_S} {x oa : Nat} {nop nsr ev bd rl dr : Int32} {vf : Int32} {a : Jn} (o kd sz st l r0 m : Int32) (hx : σ.2 x = some (oLate x nop nsr ev bd rl dr)) (ho : σ.2 oa = some (oOp o kd sz st l r0 m)) (hj : σ.2 (x + 367) = some (oJ vf a)) :
    rv_Ct G i_Late_judgeInGaps 0 0 [.ref x, .ref oa] σ (fun r σ' => r = some (.int (jd_gaps l r0 m a.2.2.1 a.2.2.2)) ∧ σ' = σ) := by
  have rest : ∀ t : Bool, (t = true ↔ (a.2.2.1 ≤ m ∨ a.2.2.2 = true)) → ¬ a.2.2.1 + l ≤ m → rv_V G m_Late_judgeInGaps 0 0 (fun r σ' => r = some (.int (jd_gaps l r0 m a.2.2.1 a.2.2.2)) ∧ σ' = σ) 45 [some (.ref x), some (.ref oa), none] [.int (rv_b t)] σ 0 0 := by
    intro t ht hnc
    refine rv_V.run rv_gd_Late_judgeInGaps [] 400 ?_
    refine And.intro (fun c1 => ?_) (fun c1 => ?_)
    · refine And.intro trivial ⟨?_, rfl⟩
      unfold jd_gaps
      rw [if_neg hnc, if_neg (fun z => by have := ht.mpr z.1; rw [rv_b0.mp c1] at this; cases this)]
    · refine Exists.intro _ (And.intro ho ?_)
      refine And.intro (fun c2 => ?_) (fun c2 => ?_)
      · refine And.intro trivial ⟨?_, rfl⟩
        unfold jd_gaps
        rw [if_neg hnc, if_pos ⟨ht.mp (rv_bn c1), c2⟩]
      · refine And.intro trivial ⟨?_, rfl⟩
        unfold jd_gaps
        rw [if_neg hnc, if_neg (fun z => c2 z.2)]
  refine rv_ct (M := m_Late_judgeInGaps) rfl (by decide) rfl rfl ?_
  refine rv_V.run rv_gd_Late_judgeInGaps [45] 400 ?_
  refine Exists.intro _ (And.intro hx ?_)
  refine Exists.intro _ (And.intro hj ?_)
  refine And.intro (Exists.intro _ ho) ?_
  refine ⟨_, _, _, ct_closes oa o kd sz st l r0 m _ ho, Nat.zero_le _, Nat.zero_le _, rfl, ?_⟩
  rintro _ σ ⟨rfl, rfl⟩
  refine And.intro (fun c1 => ?_) (fun c1 => ?_)
  · have hnc := of_decide_eq_false (rv_b0.mp c1)
    refine Exists.intro _ (And.intro hx ?_)
    refine Exists.intro _ (And.intro hj ?_)
    refine And.intro (Exists.intro _ ho) ?_
    refine ⟨_, _, _, ct_hasReached oa o kd sz st l r0 m _ ho, Nat.zero_le _, Nat.zero_le _, rfl, ?_⟩
    rintro _ σ ⟨rfl, rfl⟩
    refine And.intro (fun c2 => ?_) (fun c2 => ?_)
    · refine Exists.intro _ (And.intro hx ?_)
      refine Exists.intro _ (And.intro hj ?_)
      refine And.intro (fun c3 => ?_) (fun c3 => ?_)
      · have hno : ¬ (a.2.2.1 ≤ m ∨ a.2.2.2 = true) := by
          rintro (z | z)
          · exact absurd z (of_decide_eq_false (rv_b0.mp c2))
          · exact absurd z (by rw [rv_b0.mp c3]; decide)
        exact rest false (Iff.intro (fun z => absurd z (by decide)) (fun z => absurd z hno)) hnc
      · exact rest true ⟨fun _ => Or.inr (rv_bn c3), fun _ => rfl⟩ hnc
    · exact rest true ⟨fun _ => Or.inl (of_decide_eq_true (rv_bn c2)), fun _ => rfl⟩ hnc
  · refine And.intro trivial ⟨?_, rfl⟩
    unfold jd_gaps
    rw [if_pos (of_decide_eq_true (rv_bn c1))]
/-- all windows of a time are closed; one that isn't has been reached -/
def jg_run (sz st l m time : Int32) : Nat → Int32 → Bool × Bool → Bool × Bool
  | 0, _, s => s
  | t + 1, b, s => if b ≤ time then jg_run sz st l m time t (b + st) (if b + sz + l ≤ m then s else (false, s.2 || decide (b + sz ≤ m))) else s
def jd_grid (r0 : Int32) (s : Bool × Bool) : Int32 := if s.1 = true then 1 else if s.2 = true ∧ r0 = 2 then 2 else 0
set_option maxRecDepth 100000 in
theorem lp_judgeInGrid {G : rv_G} {σ : rv_S} {oa : Nat} (o kd sz st l r0 m time : Int32) (ho : σ.2 oa = some (oOp o kd sz st l r0 m)) : ∀ (t c : Nat) (vc b : Int32) (x6 : Option Value) (s : Bool × Bool), vc = nI c → c + t = 8 →
    rv_V G m_Late_judgeInGrid 0 0 (fun r σ' => r = some (.int (jd_grid r0 (jg_run sz st l m time t b s))) ∧ σ' = σ) 14 [some (.ref oa), some (.int time), some (.int (rv_b s.1)), some (.int (rv_b s.2)), some (.int b), some (.int vc), x6] [] σ 0 0 := by
  have fin : ∀ (s : Bool × Bool) (vc b : Int32) (x6 : Option Value), rv_V G m_Late_judgeInGrid 0 0 (fun r σ' => r = some (.int (jd_grid r0 s)) ∧ σ' = σ) 81 [some (.ref oa), some (.int time), some (.int (rv_b s.1)), some (.int (rv_b s.2)), some (.int b), some (.int vc), x6] [] σ 0 0 := by
    intro s vc b x6
    refine rv_V.run rv_gd_Late_judgeInGrid [] 400 ?_
    refine And.intro (fun c1 => ?_) (fun c1 => ?_)
    · have h1 := rv_b0.mp c1
      refine And.intro (fun c2 => ?_) (fun c2 => ?_)
      · refine And.intro trivial ⟨?_, rfl⟩
        unfold jd_grid
        rw [h1, rv_b0.mp c2]; rfl
      · refine Exists.intro _ (And.intro ho ?_)
        refine And.intro (fun c3 => ?_) (fun c3 => ?_)
        · refine And.intro trivial ⟨?_, rfl⟩
          unfold jd_grid
          rw [h1, if_neg (by decide), if_pos ⟨rv_bn c2, c3⟩]
        · refine And.intro trivial ⟨?_, rfl⟩
          unfold jd_grid
          rw [h1, if_neg (by decide), if_neg (fun z => c3 z.2)]
    · refine And.intro trivial ⟨?_, rfl⟩
      unfold jd_grid
      rw [if_pos (rv_bn c1)]
  intro t
  induction t with
  | zero =>
    intro c vc b x6 s ec h1
    refine rv_V.run rv_gd_Late_judgeInGrid [81] 400 ?_
    refine And.intro (fun c1 => ?_) (fun c1 => ?_)
    · exact fin s vc b x6
    · exact absurd ((rv_leN (a := 8) rfl ec (by omega) (by omega)).mpr (by omega)) c1
  | succ t ih =>
    intro c vc b x6 s ec h1
    have next : ∀ (x6 : Option Value) (s' : Bool × Bool), jg_run sz st l m time (t + 1) b s = jg_run sz st l m time t (b + st) s' → rv_V G m_Late_judgeInGrid 0 0 (fun r σ' => r = some (.int (jd_grid r0 (jg_run sz st l m time (t + 1) b s))) ∧ σ' = σ) 66 [some (.ref oa), some (.int time), some (.int (rv_b s'.1)), some (.int (rv_b s'.2)), some (.int b), some (.int vc), x6] [] σ 0 0 := by
      intro x6 s' e1
      refine rv_V.run rv_gd_Late_judgeInGrid [14] 400 ?_
      refine Exists.intro _ (And.intro ho ?_)
      rw [e1]
      exact ih (c + 1) (vc + 1) (b + st) x6 s' (by rw [ec]; exact nI_1 c) (by omega)
    refine rv_V.run rv_gd_Late_judgeInGrid [14, 66, 81] 400 ?_
    refine And.intro (fun c1 => ?_) (fun c1 => ?_)
    · exact absurd ((rv_leN (a := 8) rfl ec (by omega) (by omega)).mp c1) (by omega)
    refine And.intro (fun c2 => ?_) (fun c2 => ?_)
    · rw [show jg_run sz st l m time (t + 1) b s = s from if_neg (Int32.not_le.mpr c2)]
      exact fin s vc b x6
    have hb := Int32.not_lt.mp c2
    refine Exists.intro _ (And.intro ho ?_)
    refine And.intro (Exists.intro _ ho) ?_
    refine ⟨_, _, _, ct_closes oa o kd sz st l r0 m _ ho, Nat.zero_le _, Nat.zero_le _, rfl, ?_⟩
    rintro _ σ ⟨rfl, rfl⟩
    refine And.intro (fun c3 => ?_) (fun c3 => ?_)
    · have hcl := of_decide_eq_false (rv_b0.mp c3)
      have e2 : ∀ b2 : Bool, (s.2 || decide (b + sz ≤ m)) = b2 → jg_run sz st l m time (t + 1) b s = jg_run sz st l m time t (b + st) (false, b2) := by
        intro b2 h2
        rw [show jg_run sz st l m time (t + 1) b s = _ from if_pos hb, if_neg hcl, h2]
      refine And.intro (fun c4 => ?_) (fun c4 => ?_)
      · refine And.intro (Exists.intro _ ho) ?_
        refine ⟨_, _, _, ct_hasReached oa o kd sz st l r0 m _ ho, Nat.zero_le _, Nat.zero_le _, rfl, ?_⟩
        rintro _ σ ⟨rfl, rfl⟩
        refine And.intro (fun c5 => ?_) (fun c5 => ?_)
        · exact next _ (false, false) (e2 false (by rw [rv_b0.mp c4, rv_b0.mp c5]; rfl))
        · exact next _ (false, true) (e2 true (by rw [rv_bn c5]; simp))
      · exact next _ (false, true) (e2 true (by rw [rv_bn c4]; rfl))
    · have hcl := of_decide_eq_true (rv_bn c3)
      exact next _ s (by rw [show jg_run sz st l m time (t + 1) b s = _ from if_pos hb, if_pos hcl])
set_option maxRecDepth 100000 in
theorem ct_judgeInGrid {G : rv_G} {σ : rv_S} {oa : Nat} (o kd sz st l r0 m time : Int32) (ho : σ.2 oa = some (oOp o kd sz st l r0 m)) (h1 : 1 ≤ st) (h0 : ¬ st = 0) :
    rv_Ct G i_Late_judgeInGrid 0 0 [.ref oa, .int time] σ (fun r σ' => r = some (.int (jd_grid r0 (jg_run sz st l m time 8 ((rv_fdiv (time - sz) st + 1) * st) (true, false)))) ∧ σ' = σ) := by
  refine rv_ct (M := m_Late_judgeInGrid) rfl (by decide) rfl rfl ?_
  refine rv_V.run rv_gd_Late_judgeInGrid [14] 400 ?_
  refine And.intro (Exists.intro _ ho) ?_
  refine ⟨_, _, _, ct_firstBegin oa o kd sz st l r0 m time ho h1 h0, Nat.zero_le _, Nat.zero_le _, rfl, ?_⟩
  rintro _ σ ⟨rfl, rfl⟩
  exact lp_judgeInGrid o kd sz st l r0 m time ho 8 0 _ _ _ (true, false) rfl rfl
set_option maxRecDepth 100000 in
theorem ct_judge_gaps {G : rv_G} {σ : rv_S} {x oa : Nat} {nop nsr ev bd rl dr : Int32} {vf : Int32} {a : Jn} (o sz st l r0 m time : Int32) (hx : σ.2 x = some (oLate x nop nsr ev bd rl dr)) (ho : σ.2 oa = some (oOp o 2 sz st l r0 m)) (hj : σ.2 (x + 367) = some (oJ vf a)) :
    rv_Ct G i_Late_judge 0 0 [.ref x, .ref oa, .int time] σ (fun r σ' => r = some (.int (jd_gaps l r0 m a.2.2.1 a.2.2.2)) ∧ σ' = σ) := by
  refine rv_ct (M := m_Late_judge) rfl (by decide) rfl rfl ?_
  refine rv_V.run rv_gd_Late_judge [] 400 ?_
  refine Exists.intro _ (And.intro ho ?_)
  refine And.intro (fun c1 => ?_) (fun c1 => ?_)
  · refine And.intro (Exists.intro _ hx) ?_
    refine ⟨_, _, _, ct_judgeInGaps o 2 sz st l r0 m hx ho hj, Nat.zero_le _, Nat.zero_le _, rfl, ?_⟩
    rintro _ σ ⟨rfl, rfl⟩
    exact And.intro trivial ⟨rfl, rfl⟩
  · exact absurd rfl c1
set_option maxRecDepth 100000 in
theorem ct_judge_grid {G : rv_G} {σ : rv_S} {x oa : Nat} (o kd sz st l r0 m time : Int32) (hk : ¬ kd = 2) (ho : σ.2 oa = some (oOp o kd sz st l r0 m)) (h1 : 1 ≤ st) (h0 : ¬ st = 0) :
    rv_Ct G i_Late_judge 0 0 [.ref x, .ref oa, .int time] σ (fun r σ' => r = some (.int (jd_grid r0 (jg_run sz st l m time 8 ((rv_fdiv (time - sz) st + 1) * st) (true, false)))) ∧ σ' = σ) := by
  refine rv_ct (M := m_Late_judge) rfl (by decide) rfl rfl ?_
  refine rv_V.run rv_gd_Late_judge [] 400 ?_
  refine Exists.intro _ (And.intro ho ?_)
  refine And.intro (fun c1 => ?_) (fun c1 => ?_)
  · exact absurd c1 hk
  · refine ⟨_, _, _, ct_judgeInGrid o kd sz st l r0 m time ho h1 h0, Nat.zero_le _, Nat.zero_le _, rfl, ?_⟩
    rintro _ σ ⟨rfl, rfl⟩
    exact And.intro trivial ⟨rfl, rfl⟩
/-- how many windows a row of the grid would open -/
def cn_run (o k sz st l m time : Int32) (n : Nat) (p : Nat → Nat) (D : Nat → Wd) : Nat → Int32 → Int32 → Int32
  | 0, _, a => a
  | t + 1, b, a => if b ≤ time then cn_run o k sz st l m time n p D t (b + st) (if b + sz + l ≤ m ∨ (rv_plc p D o k b n < n ∧ weq (D (p (rv_plc p D o k b n))) o k b = true) then a else a + 1) else a
set_option maxRecDepth 100000 in
theorem lp_countNew {G : rv_G} {σ : rv_S} {x oa n : Nat} {nop nsr ev bd rl dr : Int32} {p : Nat → Nat} {D : Nat → Wd} (o kd sz st l r0 m k time : Int32) (hx : σ.2 x = some (oLate x nop nsr ev bd rl dr)) (h : PWL σ.2 (x + 5) n p D) (hs : WS n p D) (ho : σ.2 oa = some (oOp o kd sz st l r0 m)) : ∀ (t c : Nat) (vc b a : Int32), vc = nI c → c + t = 8 →
    rv_V G m_Late_countNewWindows 0 0 (fun r σ' => r = some (.int (cn_run o k sz st l m time n p D t b a)) ∧ σ' = σ) 31 [some (.ref x), some (.ref oa), some (.int k), some (.int time), some (.int a), some (.int b), some (.int vc)] [] σ 0 0 := by
  intro t
  induction t with
  | zero =>
    intro c vc b a ec h1
    refine rv_V.run rv_gd_Late_countNewWindows [31] 400 ?_
    refine And.intro (fun c1 => ?_) (fun c1 => ?_)
    · exact And.intro trivial ⟨rfl, rfl⟩
    · exact absurd ((rv_leN (a := 8) rfl ec (by omega) (by omega)).mpr (by omega)) c1
  | succ t ih =>
    intro c vc b a ec h1
    have next : ∀ (a' : Int32), cn_run o k sz st l m time n p D (t + 1) b a = cn_run o k sz st l m time n p D t (b + st) a' → rv_V G m_Late_countNewWindows 0 0 (fun r σ' => r = some (.int (cn_run o k sz st l m time n p D (t + 1) b a)) ∧ σ' = σ) 78 [some (.ref x), some (.ref oa), some (.int k), some (.int time), some (.int a'), some (.int b), some (.int vc)] [] σ 0 0 := by
      intro a' e1
      refine rv_V.run rv_gd_Late_countNewWindows [31] 400 ?_
      refine Exists.intro _ (And.intro ho ?_)
      rw [e1]
      exact ih (c + 1) (vc + 1) (b + st) a' (by rw [ec]; exact nI_1 c) (by omega)
    refine rv_V.run rv_gd_Late_countNewWindows [31, 78] 400 ?_
    refine And.intro (fun c1 => ?_) (fun c1 => ?_)
    · exact absurd ((rv_leN (a := 8) rfl ec (by omega) (by omega)).mp c1) (by omega)
    refine And.intro (fun c2 => ?_) (fun c2 => ?_)
    · refine And.intro trivial ⟨?_, rfl⟩
      rw [show cn_run o k sz st l m time n p D (t + 1) b a = a from if_neg (Int32.not_le.mpr c2)]
    have hb := Int32.not_lt.mp c2
    refine Exists.intro _ (And.intro ho ?_)
    refine And.intro (Exists.intro _ ho) ?_
    refine ⟨_, _, _, ct_closes oa o kd sz st l r0 m _ ho, Nat.zero_le _, Nat.zero_le _, rfl, ?_⟩
    rintro _ σ ⟨rfl, rfl⟩
    refine And.intro (fun c3 => ?_) (fun c3 => ?_)
    · have hcl := of_decide_eq_false (rv_b0.mp c3)
      refine Exists.intro _ (And.intro hx ?_)
      refine Exists.intro _ (And.intro ho ?_)
      refine And.intro (Exists.intro _ h.1) ?_
      refine ⟨_, _, _, ct_has h hs o k b, Nat.zero_le _, Nat.zero_le _, rfl, ?_⟩
      rintro _ σ ⟨⟨q, hq, rfl⟩, rfl⟩
      have hpl := rv_plc_eq hq
      refine And.intro (fun c4 => ?_) (fun c4 => ?_)
      · refine next (a + 1) ?_
        have h4 := rv_b0.mp c4
        rw [show cn_run o k sz st l m time n p D (t + 1) b a = _ from if_pos hb, if_neg (fun z => by
          rcases z with z | z
          · exact hcl z
          · rw [hpl] at z
            rw [decide_eq_true z.1, z.2] at h4
            cases h4)]
      · refine next a ?_
        have h4 := rv_bn c4
        rw [Bool.and_eq_true, decide_eq_true_eq] at h4
        rw [show cn_run o k sz st l m time n p D (t + 1) b a = _ from if_pos hb, if_pos (Or.inr (by rw [hpl]; exact h4))]
    · have hcl := of_decide_eq_true (rv_bn c3)
      exact next a (by rw [show cn_run o k sz st l m time n p D (t + 1) b a = _ from if_pos hb, if_pos (Or.inl hcl)])
set_option maxRecDepth 100000 in
theorem ct_countNew_grid {G : rv_G} {σ : rv_S} {x oa n : Nat} {nop nsr ev bd rl dr : Int32} {p : Nat → Nat} {D : Nat → Wd} (o kd sz st l r0 m k time : Int32) (hk : ¬ kd = 2) (hx : σ.2 x = some (oLate x nop nsr ev bd rl dr)) (h : PWL σ.2 (x + 5) n p D) (hs : WS n p D) (ho : σ.2 oa = some (oOp o kd sz st l r0 m)) (h1 : 1 ≤ st) (h0 : ¬ st = 0) :
    rv_Ct G i_Late_countNewWindows 0 0 [.ref x, .ref oa, .int k, .int time] σ (fun r σ' => r = some (.int (cn_run o k sz st l m time n p D 8 ((rv_fdiv (time - sz) st + 1) * st) 0)) ∧ σ' = σ) := by
  refine rv_ct (M := m_Late_countNewWindows) rfl (by decide) rfl rfl ?_
  refine rv_V.run rv_gd_Late_countNewWindows [31] 400 ?_
  refine Exists.intro _ (And.intro ho ?_)
  refine And.intro (fun c1 => ?_) (fun c1 => ?_)
  · exact absurd c1 hk
  refine And.intro (Exists.intro _ ho) ?_
  refine ⟨_, _, _, ct_firstBegin oa o kd sz st l r0 m time ho h1 h0, Nat.zero_le _, Nat.zero_le _, rfl, ?_⟩
  rintro _ σ ⟨rfl, rfl⟩
  exact lp_countNew o kd sz st l r0 m k time hx h hs ho 8 0 _ _ _ rfl rfl
set_option maxRecDepth 100000 in
theorem ct_countNew_gaps {G : rv_G} {σ : rv_S} {x oa : Nat} {nop nsr ev bd rl dr : Int32} {vf : Int32} {a : Jn} (o sz st l r0 m k time : Int32) (hx : σ.2 x = some (oLate x nop nsr ev bd rl dr)) (ho : σ.2 oa = some (oOp o 2 sz st l r0 m)) (hj : σ.2 (x + 367) = some (oJ vf a)) :
    rv_Ct G i_Late_countNewWindows 0 0 [.ref x, .ref oa, .int k, .int time] σ (fun r σ' => r = some (.int (1 - a.1)) ∧ σ' = σ) := by
  refine rv_ct (M := m_Late_countNewWindows) rfl (by decide) rfl rfl ?_
  refine rv_V.run rv_gd_Late_countNewWindows [31] 400 ?_
  refine Exists.intro _ (And.intro ho ?_)
  refine And.intro (fun c1 => ?_) (fun c1 => ?_)
  · refine Exists.intro _ (And.intro hx ?_)
    refine Exists.intro _ (And.intro hj ?_)
    exact And.intro trivial ⟨rfl, rfl⟩
  · exact absurd rfl c1
end
section
/-! A ROW IS LAID ASIDE -/
theorem rv_bd.up {σ : rv_S} (h : rv_bd σ) {a : Nat} (ha : a < σ.1) (y : rv_E) : rv_bd (σ.1, rv_up σ.2 a y) := by
  intro b z hz
  by_cases hb : b = a
  · rw [hb]; exact ha
  · exact h b z (by rw [← hz]; exact (rv_up_n hb).symm)
/-- the eldest goes, if there is one -/
def rv_qd (s : Nat) (q : Nat → Nat → Int64) : Nat × (Nat → Nat → Int64) := (s - 1, fun j => if s = 0 then q j else q (j + 1))
set_option maxRecDepth 100000 in
theorem ct_drop_n {G : rv_G} {σ : rv_S} {r c R w s : Nat} {q : Nat → Nat → Int64} (h : PR σ.2 r c R w s q) (hR : R < 2 ^ 30) (hcr : c ≠ r) :
    rv_Ct G i_Ring_dropEldest 0 0 [.ref r] σ (fun a σ' => a = none ∧ σ'.1 = σ.1 ∧ PR σ'.2 r c R w (rv_qd s q).1 (rv_qd s q).2 ∧ rv_only (fun a => a = r) σ.2 σ'.2) := by
  obtain ⟨e, la, f, he, hs, hr, hc, hf⟩ := h
  refine (ct_dropEldest r (nI R) (nI w) c (nI e) la (nI s) hr).mono ?_
  rintro a σ' ⟨h1, h2⟩
  subst h2
  refine ⟨h1, rfl, ?_, rv_only.up rfl⟩
  rcases Nat.eq_zero_or_pos s with z | z
  · subst z
    rw [if_pos (by decide)]
    exact ⟨e, la, f, he, Nat.zero_le _, rv_up_s, (rv_up_n hcr).trans hc, fun j hj => absurd hj (Nat.not_lt_zero j)⟩
  · obtain ⟨t, rfl⟩ : ∃ t, s = t + 1 := ⟨s - 1, by omega⟩
    rw [if_neg (nI_nle (by omega) (by omega))]
    refine ⟨(e + 1) % R, la, f, Nat.mod_lt _ (by omega), by show t + 1 - 1 ≤ R; omega, ?_, (rv_up_n hcr).trans hc, ?_⟩
    · rw [← rv_inc_n he hR, show (rv_qd (t + 1) q).1 = t from rfl, ← nI_pred t]
      exact rv_up_s
    · intro j hj k hk
      have hj' : j < t := hj
      show _ = (if t + 1 = 0 then q j else q (j + 1)) k
      rw [if_neg (by omega), ← hf (j + 1) (by omega) k hk]
      rw [Nat.mod_add_mod, show e + 1 + j = e + (j + 1) by omega]
/-- the rows aside, after one more -/
def as_run (b : Nat) (s : Nat) (q : Nat → Nat → Int64) (v : Nat → Int64) : Nat × (Nat → Nat → Int64) :=
  if 0 < b then (if b ≤ s then (rv_qn 100 (rv_qd s q).1, rv_qp 100 (rv_qd s q).1 (rv_qd s q).2 v) else (rv_qn 100 s, rv_qp 100 s q v)) else (if b ≤ s then rv_qd s q else (s, q))
/-- a source that has noted a row -/
def sd_note (d : Sd) (t : Int32) (u : Bool) : Sd := (d.1, d.2.1, d.2.2.1, (if u = true then d.2.2.2.1 + 1 else d.2.2.2.1), (if u = true then d.2.2.2.2.1 else d.2.2.2.2.1 + 1), (if t < d.2.1 then d.2.2.2.2.2.1 + 1 else d.2.2.2.2.2.1), (if t < d.2.1 ∧ d.2.2.2.2.2.1 = 0 then t else d.2.2.2.2.2.2))
def sd_stop (d : Sd) (b : Bool) : Sd := (d.1, d.2.1, (d.2.2.1.1, b), d.2.2.2)
set_option maxRecDepth 100000 in
theorem ct_layAside0 {G : rv_G} {σ : rv_S} {x sa b s j : Nat} {oa : Nat → Nat} {d : Sd} {q : Nat → Nat → Int64} {nop nsr ev dr : Int32} (k t v why : Int32) (hx : σ.2 x = some (oLate x nop nsr ev (nI b) 1 dr)) (hq : PR σ.2 (x + 370) (x + 371) 100 5 s q) (hs : σ.2 sa = some (oS oa j d)) (hb : b ≤ s) :
    rv_Ct G i_Late_layAside 0 0 [.ref x, .ref sa, .int k, .int t, .int v, .int why] σ (fun r σ' => r = some (.int (-2)) ∧ σ' = (σ.1, rv_up σ.2 sa (oS oa j (sd_stop d true)))) := by
  obtain ⟨e, la, f, he, hsR, hr, hc, hf⟩ := hq
  refine rv_ct (M := m_Late_layAside) rfl (by decide) rfl rfl ?_
  refine rv_V.run rv_gd_Late_layAside [] 400 ?_
  refine Exists.intro _ (And.intro hx ?_)
  refine Exists.intro _ (And.intro hr ?_)
  refine Exists.intro _ (And.intro hx ?_)
  refine And.intro (fun c1 => ?_) (fun c1 => ?_)
  · exact absurd ((rv_ltN rfl rfl (by omega) (by omega)).mp c1) (by omega)
  refine And.intro (fun c2 => ?_) (fun c2 => ?_)
  · exact absurd c2 (by decide)
  refine Exists.intro _ (And.intro hx ?_)
  refine And.intro (fun c3 => ?_) (fun c3 => ?_)
  · refine Exists.intro _ (And.intro hs (And.intro (Or.inr rfl) ?_))
    exact And.intro trivial ⟨rfl, rfl⟩
  · exact absurd rfl c3
set_option maxRecDepth 100000 in
theorem ct_layAside1 {G : rv_G} {σ : rv_S} {x sa b s j n : Nat} {oa : Nat → Nat} {d : Sd} {q : Nat → Nat → Int64} {ra : Nat → Nat} {rd : Nat → Rd} {nop nsr ev rl dr : Int32} (k t v why : Int32) (hx : σ.2 x = some (oLate x nop nsr ev (nI b) rl dr)) (hq : PR σ.2 (x + 370) (x + 371) 100 5 s q) (hL : PRL σ.2 (x + 3) n ra rd) (hn : n < 300) (hbd : rv_bd σ) (hs : σ.2 sa = some (oS oa j d)) (hsa : x + 372 < sa) (hra : ∀ j, j < n → x + 372 < ra j ∧ ra j ≠ sa) (hb : b ≤ 100) (hno : ¬ (b ≤ s ∧ rl = 1)) :
    rv_Ct G i_Late_layAside 1 5 [.ref x, .ref sa, .int k, .int t, .int v, .int why] σ (fun r σ' => r = some (.int 0) ∧ σ'.1 = σ.1 + 1 ∧ σ'.2 x = some (oLate x nop nsr ev (nI b) rl (if b ≤ s then dr + 1 else dr)) ∧ PR σ'.2 (x + 370) (x + 371) 100 5 (as_run b s q (rv_arec (nI j) k t v why)).1 (as_run b s q (rv_arec (nI j) k t v why)).2 ∧ σ'.2 sa = some (oS oa j (sd_note d t false)) ∧ (∃ q', q' ≤ n ∧ (∀ j, q' ≤ j → j < n → raft (rd j) k t = true) ∧ (q' = 0 ∨ raft (rd (q' - 1)) k t = false) ∧ PRL σ'.2 (x + 3) (n + 1) (rv_insf ra q' σ.1) (rv_insf rd q' (sa, k, t, v, false))) ∧ rv_only (fun a => a = x ∨ a = x + 3 ∨ a = x + 4 ∨ a = σ.1 ∨ a = x + 370 ∨ a = x + 371 ∨ a = sa) σ.2 σ'.2) := by
  have hxb := hbd _ _ hx
  have hsb := hbd _ _ hs
  have hsR : s ≤ 100 := by obtain ⟨e, la, f, he, hsR, hr, hc, hf⟩ := hq; exact hsR
  have hrb : x + 371 < σ.1 := by obtain ⟨e, la, f, he, hsR, hr, hc, hf⟩ := hq; exact hbd _ _ hc
  -- the last step
  have last : ∀ (dr' : Int32) (s1 : Nat) (q1 : Nat → Nat → Int64) (σ2 : rv_S) (x6 : Option Value), σ2.1 = σ.1 + 1 → σ2.2 x = some (oLate x nop nsr ev (nI b) rl dr') → PR σ2.2 (x + 370) (x + 371) 100 5 s1 q1 → σ2.2 sa = some (oS oa j (sd_note d t false)) → (∃ q', q' ≤ n ∧ (∀ j, q' ≤ j → j < n → raft (rd j) k t = true) ∧ (q' = 0 ∨ raft (rd (q' - 1)) k t = false) ∧ PRL σ2.2 (x + 3) (n + 1) (rv_insf ra q' σ.1) (rv_insf rd q' (sa, k, t, v, false))) → rv_only (fun a => a = x ∨ a = x + 3 ∨ a = x + 4 ∨ a = σ.1 ∨ a = x + 370 ∨ a = x + 371 ∨ a = sa) σ.2 σ2.2 → (if b ≤ s then dr + 1 else dr) = dr' → as_run b s q (rv_arec (nI j) k t v why) = (if 0 < b then (rv_qn 100 s1, rv_qp 100 s1 q1 (rv_arec (nI j) k t v why)) else (s1, q1)) →
      rv_V G m_Late_layAside 1 5 (fun r σ' => r = some (.int 0) ∧ σ'.1 = σ.1 + 1 ∧ σ'.2 x = some (oLate x nop nsr ev (nI b) rl (if b ≤ s then dr + 1 else dr)) ∧ PR σ'.2 (x + 370) (x + 371) 100 5 (as_run b s q (rv_arec (nI j) k t v why)).1 (as_run b s q (rv_arec (nI j) k t v why)).2 ∧ σ'.2 sa = some (oS oa j (sd_note d t false)) ∧ (∃ q', q' ≤ n ∧ (∀ j, q' ≤ j → j < n → raft (rd j) k t = true) ∧ (q' = 0 ∨ raft (rd (q' - 1)) k t = false) ∧ PRL σ'.2 (x + 3) (n + 1) (rv_insf ra q' σ.1) (rv_insf rd q' (sa, k, t, v, false))) ∧ rv_only (fun a => a = x ∨ a = x + 3 ∨ a = x + 4 ∨ a = σ.1 ∨ a = x + 370 ∨ a = x + 371 ∨ a = sa) σ.2 σ'.2) 83 [some (.ref x), some (.ref sa), some (.int k), some (.int t), some (.int v), some (.int why), x6] [] σ2 1 5 := by
    intro dr' s1 q1 σ2 x6 e1 hx2 hq2 hs2 hL2 ho2 ed ea
    refine rv_V.run rv_gd_Late_layAside [] 400 ?_
    refine Exists.intro _ (And.intro hx2 ?_)
    refine And.intro (fun c1 => ?_) (fun c1 => ?_)
    · have hb0 : ¬ 0 < b := fun z => nI_nle z (by omega) c1
      refine And.intro trivial ⟨rfl, e1, by rw [ed]; exact hx2, ?_, hs2, hL2, ho2⟩
      rw [ea, if_neg hb0]
      exact hq2
    · have hb0 : 0 < b := by
        rcases Nat.eq_zero_or_pos b with z | z
        · exact absurd (by rw [z]; decide) c1
        · exact z
      refine And.intro (Exists.intro _ hx2) ?_
      refine ⟨_, _, _, ct_keepAside x sa _ _ _ _ _ _ _ _ _ _ _ _ _ _ _ k t v why hx2 hq2 hs2 (by omega), by decide, by decide, rfl, ?_⟩
      rintro _ σ3 ⟨rfl, e3, h3, o3⟩
      have hL3 : ∀ a, a ≠ x + 370 → a ≠ x + 371 → σ3.2 a = σ2.2 a := fun a h1 h2 => o3 a (by omega)
      refine And.intro trivial ⟨rfl, e3.trans e1, ?_, ?_, ?_, ?_, ?_⟩
      · rw [ed, hL3 x (by omega) (by omega)]; exact hx2
      · rw [ea, if_pos hb0]; exact h3
      · rw [hL3 sa (by omega) (by omega)]; exact hs2
      · obtain ⟨q', a1, a2, a3, a4, ⟨f, a5, a6⟩, a7, a8⟩ := hL2
        refine ⟨q', a1, a2, a3, (hL3 _ (by omega) (by omega)).trans a4, ⟨f, (hL3 _ (by omega) (by omega)).trans a5, a6⟩, fun i hi => ?_, a8⟩
        have hne : x + 371 < rv_insf ra q' σ.1 i := by
          unfold rv_insf
          by_cases z1 : i < q'
          · rw [if_pos z1]; have := (hra i (by omega)).1; omega
          · rw [if_neg z1]
            by_cases z2 : i = q'
            · rw [if_pos z2]; exact hrb
            · rw [if_neg z2]; have := (hra (i - 1) (by omega)).1; omega
        exact ⟨(hL3 _ (by omega) (by omega)).trans (a7 i hi).1, (a7 i hi).2⟩
      · intro a ha
        rw [hL3 a (by omega) (by omega)]
        exact ho2 a ha
  -- the row is noted
  have mid : ∀ fl : Bool, (fl = true ↔ b ≤ s) → rv_V G m_Late_layAside 1 5 (fun r σ' => r = some (.int 0) ∧ σ'.1 = σ.1 + 1 ∧ σ'.2 x = some (oLate x nop nsr ev (nI b) rl (if b ≤ s then dr + 1 else dr)) ∧ PR σ'.2 (x + 370) (x + 371) 100 5 (as_run b s q (rv_arec (nI j) k t v why)).1 (as_run b s q (rv_arec (nI j) k t v why)).2 ∧ σ'.2 sa = some (oS oa j (sd_note d t false)) ∧ (∃ q', q' ≤ n ∧ (∀ j, q' ≤ j → j < n → raft (rd j) k t = true) ∧ (q' = 0 ∨ raft (rd (q' - 1)) k t = false) ∧ PRL σ'.2 (x + 3) (n + 1) (rv_insf ra q' σ.1) (rv_insf rd q' (sa, k, t, v, false))) ∧ rv_only (fun a => a = x ∨ a = x + 3 ∨ a = x + 4 ∨ a = σ.1 ∨ a = x + 370 ∨ a = x + 371 ∨ a = sa) σ.2 σ'.2) 42 [some (.ref x), some (.ref sa), some (.int k), some (.int t), some (.int v), some (.int why), some (.int (rv_b fl))] [] σ 0 0 := by
    intro fl hfl
    have hx1 : rv_up σ.2 sa (oS oa j (sd_note d t false)) x = some (oLate x nop nsr ev (nI b) rl dr) := (rv_up_n (by omega)).trans hx
    have hL1 : PRL (rv_up σ.2 sa (oS oa j (sd_note d t false))) (x + 3) n ra rd := by
      obtain ⟨a4, ⟨f, a5, a6⟩, a7, a8⟩ := hL
      exact ⟨(rv_up_n (by omega)).trans a4, ⟨f, (rv_up_n (by omega)).trans a5, a6⟩, fun i hi => ⟨(rv_up_n (hra i hi).2).trans (a7 i hi).1, (a7 i hi).2⟩, a8⟩
    refine rv_V.run rv_gd_Late_layAside [83] 400 ?_
    refine And.intro (Exists.intro _ hs) ?_
    refine ⟨_, _, _, ct_noteRow sa _ _ _ _ _ _ _ _ _ t false hs, by decide, by decide, rfl, ?_⟩
    rintro _ _ ⟨rfl, rfl⟩
    refine Exists.intro _ (And.intro hx1 ?_)
    refine And.intro (Exists.intro _ hL1.1) ?_
    refine ⟨_, _, _, ct_rowadd (σ := (σ.1, rv_up σ.2 sa (oS oa j (sd_note d t false)))) (src := sa) hL1 hn (hbd.up hsb _) k t v false, by decide, by decide, rfl, ?_⟩
    rintro _ σ2 ⟨rfl, e2, hL2, o2⟩
    have k2 : ∀ a, a ≠ x + 3 → a ≠ x + 4 → a ≠ σ.1 → σ2.2 a = rv_up σ.2 sa (oS oa j (sd_note d t false)) a := fun a h1 h2 h3 => o2 a (by rintro (z | z | z) <;> omega)
    have hx2 : σ2.2 x = some (oLate x nop nsr ev (nI b) rl dr) := (k2 x (by omega) (by omega) (by omega)).trans hx1
    have hs2 : σ2.2 sa = some (oS oa j (sd_note d t false)) := (k2 sa (by omega) (by omega) (by omega)).trans rv_up_s
    have hq2 : PR σ2.2 (x + 370) (x + 371) 100 5 s q := hq.kept ((k2 _ (by omega) (by omega) (by omega)).trans (rv_up_n (by omega))) ((k2 _ (by omega) (by omega) (by omega)).trans (rv_up_n (by omega)))
    have ho2 : rv_only (fun a => a = x ∨ a = x + 3 ∨ a = x + 4 ∨ a = σ.1 ∨ a = x + 370 ∨ a = x + 371 ∨ a = sa) σ.2 σ2.2 := fun a ha => (k2 a (by omega) (by omega) (by omega)).trans (rv_up_n (by omega))
    refine And.intro (fun c1 => ?_) (fun c1 => ?_)
    · have hb1 : ¬ b ≤ s := fun z => by have := hfl.mpr z; rw [rv_b0.mp c1] at this; cases this
      refine last dr s q σ2 _ e2 hx2 hq2 hs2 hL2 ho2 (if_neg hb1) ?_
      unfold as_run
      rw [if_neg hb1, if_neg hb1]
    · have hb1 : b ≤ s := hfl.mp (rv_bn c1)
      have hx3 : rv_up σ2.2 x (oLate x nop nsr ev (nI b) rl (dr + 1)) x = some (oLate x nop nsr ev (nI b) rl (dr + 1)) := rv_up_s
      refine Exists.intro _ (And.intro hx2 ?_)
      refine Exists.intro _ (And.intro hx2 (And.intro trivial ?_))
      refine Exists.intro _ (And.intro hx3 ?_)
      have hq3 : PR (rv_up σ2.2 x (oLate x nop nsr ev (nI b) rl (dr + 1))) (x + 370) (x + 371) 100 5 s q := hq2.kept (rv_up_n (by omega)) (rv_up_n (by omega))
      refine And.intro (by obtain ⟨e, la, f, he, hsR, hr, hc, hf⟩ := hq3; exact ⟨_, hr⟩) ?_
      refine ⟨_, _, _, ct_drop_n (σ := (σ2.1, rv_up σ2.2 x (oLate x nop nsr ev (nI b) rl (dr + 1)))) hq3 (by decide) (by omega), by decide, by decide, rfl, ?_⟩
      rintro _ σ3 ⟨rfl, e3, hq4, o3⟩
      have k3 : ∀ a, a ≠ x → a ≠ x + 370 → σ3.2 a = σ2.2 a := fun a h1 h2 => (o3 a h2).trans (rv_up_n h1)
      refine last (dr + 1) _ _ σ3 _ (e3.trans e2) ((o3 x (by omega)).trans hx3) hq4 ((k3 sa (by omega) (by omega)).trans hs2) ?_ ?_ (if_pos hb1) ?_
      · obtain ⟨q', a1, a2, a3, a4, ⟨f, a5, a6⟩, a7, a8⟩ := hL2
        refine ⟨q', a1, a2, a3, (k3 _ (by omega) (by omega)).trans a4, ⟨f, (k3 _ (by omega) (by omega)).trans a5, a6⟩, fun i hi => ?_, a8⟩
        have hne : x + 371 < rv_insf ra q' σ.1 i := by
          unfold rv_insf
          by_cases z1 : i < q'
          · rw [if_pos z1]; have := (hra i (by omega)).1; omega
          · rw [if_neg z1]
            by_cases z2 : i = q'
            · rw [if_pos z2]; exact hrb
            · rw [if_neg z2]; have := (hra (i - 1) (by omega)).1; omega
        exact ⟨(k3 _ (by omega) (by omega)).trans (a7 i hi).1, (a7 i hi).2⟩
      · intro a ha
        rw [k3 a (by omega) (by omega)]
        exact ho2 a ha
      · unfold as_run
        rw [if_pos hb1, if_pos hb1]
  obtain ⟨e, la, f, he, hsR', hr, hc, hf⟩ := hq
  refine rv_ct (M := m_Late_layAside) rfl (by decide) rfl rfl ?_
  refine rv_V.run rv_gd_Late_layAside [42] 400 ?_
  refine Exists.intro _ (And.intro hx ?_)
  refine Exists.intro _ (And.intro hr ?_)
  refine Exists.intro _ (And.intro hx ?_)
  refine And.intro (fun c1 => ?_) (fun c1 => ?_)
  · refine And.intro (fun c2 => ?_) (fun c2 => ?_)
    · exact mid false (Iff.intro (fun z => absurd z (by decide)) (fun z => absurd ((rv_ltN rfl rfl (by omega) (by omega)).mp c1) (by omega)))
    · exact absurd rfl c2
  · have hb1 : b ≤ s := Nat.not_lt.mp (fun z => c1 ((rv_ltN rfl rfl (by omega) (by omega)).mpr z))
    refine And.intro (fun c2 => ?_) (fun c2 => ?_)
    · exact absurd c2 (by decide)
    refine Exists.intro _ (And.intro hx ?_)
    refine And.intro (fun c3 => ?_) (fun c3 => ?_)
    · exact absurd ⟨hb1, c3⟩ hno
    · exact mid true (Iff.intro (fun _ => hb1) (fun _ => rfl))
end
section
/-! THE REFERENCE: its picture -/
abbrev MdI : Type := Int32 × Int32 × Int32 × Int32 × Int32 × Int32 × Int32 × Int32 × Int32 × Int32 × Int32 × Int32 × Int32 × Bool × Int32
abbrev MdO : Type := (Nat → Int32) × (Nat → Int32) × (Nat → Int32) × (Nat → Int32) × (Nat → Int32) × (Nat → Int32)
abbrev MdS : Type := (Nat → Int32) × (Nat → Int32) × (Nat → Bool) × (Nat → Bool) × (Nat → Int32) × (Nat → Int32) × (Nat → Int32) × (Nat → Int32)
abbrev MdR : Type := (Nat → Int32) × (Nat → Int32) × (Nat → Int32) × (Nat → Int32) × (Nat → Bool)
abbrev MdW : Type := (Nat → Int32) × (Nat → Int32) × (Nat → Int32) × (Nat → Int32) × (Nat → Int32) × (Nat → Int64) × (Nat → Int32) × (Nat → Int32) × (Nat → Bool) × (Nat → Bool) × (Nat → Int32) × (Nat → Int64) × (Nat → Int32) × (Nat → Int32)
abbrev MdE : Type := (Nat → Int64) × (Nat → Int32) × (Nat → Int64)
/-- the reference's fields and arrays -/
abbrev Md : Type := MdI × MdO × MdS × MdR × MdW × MdE
def Md.nop (s : Md) : Int32 := s.1.1
def Md.nsr (s : Md) : Int32 := s.1.2.1
def Md.nrow (s : Md) : Int32 := s.1.2.2.1
def Md.nwin (s : Md) : Int32 := s.1.2.2.2.1
def Md.nres (s : Md) : Int32 := s.1.2.2.2.2.1
def Md.ever (s : Md) : Int32 := s.1.2.2.2.2.2.1
def Md.nas (s : Md) : Int32 := s.1.2.2.2.2.2.2.1
def Md.bnd (s : Md) : Int32 := s.1.2.2.2.2.2.2.2.1
def Md.rul (s : Md) : Int32 := s.1.2.2.2.2.2.2.2.2.1
def Md.drp (s : Md) : Int32 := s.1.2.2.2.2.2.2.2.2.2.1
def Md.fB (s : Md) : Int32 := s.1.2.2.2.2.2.2.2.2.2.2.1
def Md.fE (s : Md) : Int32 := s.1.2.2.2.2.2.2.2.2.2.2.2.1
def Md.jn (s : Md) : Int32 := s.1.2.2.2.2.2.2.2.2.2.2.2.2.1
def Md.jT (s : Md) : Bool := s.1.2.2.2.2.2.2.2.2.2.2.2.2.2.1
def Md.nps (s : Md) : Int32 := s.1.2.2.2.2.2.2.2.2.2.2.2.2.2.2
def Md.u_nop (s : Md) (v : Int32) : Md := ((v, s.1.2.1, s.1.2.2.1, s.1.2.2.2.1, s.1.2.2.2.2.1, s.1.2.2.2.2.2.1, s.1.2.2.2.2.2.2.1, s.1.2.2.2.2.2.2.2.1, s.1.2.2.2.2.2.2.2.2.1, s.1.2.2.2.2.2.2.2.2.2.1, s.1.2.2.2.2.2.2.2.2.2.2.1, s.1.2.2.2.2.2.2.2.2.2.2.2.1, s.1.2.2.2.2.2.2.2.2.2.2.2.2.1, s.1.2.2.2.2.2.2.2.2.2.2.2.2.2.1, s.1.2.2.2.2.2.2.2.2.2.2.2.2.2.2), s.2.1, s.2.2.1, s.2.2.2.1, s.2.2.2.2.1, s.2.2.2.2.2)
def Md.u_nsr (s : Md) (v : Int32) : Md := ((s.1.1, v, s.1.2.2.1, s.1.2.2.2.1, s.1.2.2.2.2.1, s.1.2.2.2.2.2.1, s.1.2.2.2.2.2.2.1, s.1.2.2.2.2.2.2.2.1, s.1.2.2.2.2.2.2.2.2.1, s.1.2.2.2.2.2.2.2.2.2.1, s.1.2.2.2.2.2.2.2.2.2.2.1, s.1.2.2.2.2.2.2.2.2.2.2.2.1, s.1.2.2.2.2.2.2.2.2.2.2.2.2.1, s.1.2.2.2.2.2.2.2.2.2.2.2.2.2.1, s.1.2.2.2.2.2.2.2.2.2.2.2.2.2.2), s.2.1, s.2.2.1, s.2.2.2.1, s.2.2.2.2.1, s.2.2.2.2.2)
def Md.u_nrow (s : Md) (v : Int32) : Md := ((s.1.1, s.1.2.1, v, s.1.2.2.2.1, s.1.2.2.2.2.1, s.1.2.2.2.2.2.1, s.1.2.2.2.2.2.2.1, s.1.2.2.2.2.2.2.2.1, s.1.2.2.2.2.2.2.2.2.1, s.1.2.2.2.2.2.2.2.2.2.1, s.1.2.2.2.2.2.2.2.2.2.2.1, s.1.2.2.2.2.2.2.2.2.2.2.2.1, s.1.2.2.2.2.2.2.2.2.2.2.2.2.1, s.1.2.2.2.2.2.2.2.2.2.2.2.2.2.1, s.1.2.2.2.2.2.2.2.2.2.2.2.2.2.2), s.2.1, s.2.2.1, s.2.2.2.1, s.2.2.2.2.1, s.2.2.2.2.2)
def Md.u_nwin (s : Md) (v : Int32) : Md := ((s.1.1, s.1.2.1, s.1.2.2.1, v, s.1.2.2.2.2.1, s.1.2.2.2.2.2.1, s.1.2.2.2.2.2.2.1, s.1.2.2.2.2.2.2.2.1, s.1.2.2.2.2.2.2.2.2.1, s.1.2.2.2.2.2.2.2.2.2.1, s.1.2.2.2.2.2.2.2.2.2.2.1, s.1.2.2.2.2.2.2.2.2.2.2.2.1, s.1.2.2.2.2.2.2.2.2.2.2.2.2.1, s.1.2.2.2.2.2.2.2.2.2.2.2.2.2.1, s.1.2.2.2.2.2.2.2.2.2.2.2.2.2.2), s.2.1, s.2.2.1, s.2.2.2.1, s.2.2.2.2.1, s.2.2.2.2.2)
def Md.u_nres (s : Md) (v : Int32) : Md := ((s.1.1, s.1.2.1, s.1.2.2.1, s.1.2.2.2.1, v, s.1.2.2.2.2.2.1, s.1.2.2.2.2.2.2.1, s.1.2.2.2.2.2.2.2.1, s.1.2.2.2.2.2.2.2.2.1, s.1.2.2.2.2.2.2.2.2.2.1, s.1.2.2.2.2.2.2.2.2.2.2.1, s.1.2.2.2.2.2.2.2.2.2.2.2.1, s.1.2.2.2.2.2.2.2.2.2.2.2.2.1, s.1.2.2.2.2.2.2.2.2.2.2.2.2.2.1, s.1.2.2.2.2.2.2.2.2.2.2.2.2.2.2), s.2.1, s.2.2.1, s.2.2.2.1, s.2.2.2.2.1, s.2.2.2.2.2)
def Md.u_ever (s : Md) (v : Int32) : Md := ((s.1.1, s.1.2.1, s.1.2.2.1, s.1.2.2.2.1, s.1.2.2.2.2.1, v, s.1.2.2.2.2.2.2.1, s.1.2.2.2.2.2.2.2.1, s.1.2.2.2.2.2.2.2.2.1, s.1.2.2.2.2.2.2.2.2.2.1, s.1.2.2.2.2.2.2.2.2.2.2.1, s.1.2.2.2.2.2.2.2.2.2.2.2.1, s.1.2.2.2.2.2.2.2.2.2.2.2.2.1, s.1.2.2.2.2.2.2.2.2.2.2.2.2.2.1, s.1.2.2.2.2.2.2.2.2.2.2.2.2.2.2), s.2.1, s.2.2.1, s.2.2.2.1, s.2.2.2.2.1, s.2.2.2.2.2)
def Md.u_nas (s : Md) (v : Int32) : Md := ((s.1.1, s.1.2.1, s.1.2.2.1, s.1.2.2.2.1, s.1.2.2.2.2.1, s.1.2.2.2.2.2.1, v, s.1.2.2.2.2.2.2.2.1, s.1.2.2.2.2.2.2.2.2.1, s.1.2.2.2.2.2.2.2.2.2.1, s.1.2.2.2.2.2.2.2.2.2.2.1, s.1.2.2.2.2.2.2.2.2.2.2.2.1, s.1.2.2.2.2.2.2.2.2.2.2.2.2.1, s.1.2.2.2.2.2.2.2.2.2.2.2.2.2.1, s.1.2.2.2.2.2.2.2.2.2.2.2.2.2.2), s.2.1, s.2.2.1, s.2.2.2.1, s.2.2.2.2.1, s.2.2.2.2.2)
def Md.u_bnd (s : Md) (v : Int32) : Md := ((s.1.1, s.1.2.1, s.1.2.2.1, s.1.2.2.2.1, s.1.2.2.2.2.1, s.1.2.2.2.2.2.1, s.1.2.2.2.2.2.2.1, v, s.1.2.2.2.2.2.2.2.2.1, s.1.2.2.2.2.2.2.2.2.2.1, s.1.2.2.2.2.2.2.2.2.2.2.1, s.1.2.2.2.2.2.2.2.2.2.2.2.1, s.1.2.2.2.2.2.2.2.2.2.2.2.2.1, s.1.2.2.2.2.2.2.2.2.2.2.2.2.2.1, s.1.2.2.2.2.2.2.2.2.2.2.2.2.2.2), s.2.1, s.2.2.1, s.2.2.2.1, s.2.2.2.2.1, s.2.2.2.2.2)
def Md.u_rul (s : Md) (v : Int32) : Md := ((s.1.1, s.1.2.1, s.1.2.2.1, s.1.2.2.2.1, s.1.2.2.2.2.1, s.1.2.2.2.2.2.1, s.1.2.2.2.2.2.2.1, s.1.2.2.2.2.2.2.2.1, v, s.1.2.2.2.2.2.2.2.2.2.1, s.1.2.2.2.2.2.2.2.2.2.2.1, s.1.2.2.2.2.2.2.2.2.2.2.2.1, s.1.2.2.2.2.2.2.2.2.2.2.2.2.1, s.1.2.2.2.2.2.2.2.2.2.2.2.2.2.1, s.1.2.2.2.2.2.2.2.2.2.2.2.2.2.2), s.2.1, s.2.2.1, s.2.2.2.1, s.2.2.2.2.1, s.2.2.2.2.2)
def Md.u_drp (s : Md) (v : Int32) : Md := ((s.1.1, s.1.2.1, s.1.2.2.1, s.1.2.2.2.1, s.1.2.2.2.2.1, s.1.2.2.2.2.2.1, s.1.2.2.2.2.2.2.1, s.1.2.2.2.2.2.2.2.1, s.1.2.2.2.2.2.2.2.2.1, v, s.1.2.2.2.2.2.2.2.2.2.2.1, s.1.2.2.2.2.2.2.2.2.2.2.2.1, s.1.2.2.2.2.2.2.2.2.2.2.2.2.1, s.1.2.2.2.2.2.2.2.2.2.2.2.2.2.1, s.1.2.2.2.2.2.2.2.2.2.2.2.2.2.2), s.2.1, s.2.2.1, s.2.2.2.1, s.2.2.2.2.1, s.2.2.2.2.2)
def Md.u_fB (s : Md) (v : Int32) : Md := ((s.1.1, s.1.2.1, s.1.2.2.1, s.1.2.2.2.1, s.1.2.2.2.2.1, s.1.2.2.2.2.2.1, s.1.2.2.2.2.2.2.1, s.1.2.2.2.2.2.2.2.1, s.1.2.2.2.2.2.2.2.2.1, s.1.2.2.2.2.2.2.2.2.2.1, v, s.1.2.2.2.2.2.2.2.2.2.2.2.1, s.1.2.2.2.2.2.2.2.2.2.2.2.2.1, s.1.2.2.2.2.2.2.2.2.2.2.2.2.2.1, s.1.2.2.2.2.2.2.2.2.2.2.2.2.2.2), s.2.1, s.2.2.1, s.2.2.2.1, s.2.2.2.2.1, s.2.2.2.2.2)
def Md.u_fE (s : Md) (v : Int32) : Md := ((s.1.1, s.1.2.1, s.1.2.2.1, s.1.2.2.2.1, s.1.2.2.2.2.1, s.1.2.2.2.2.2.1, s.1.2.2.2.2.2.2.1, s.1.2.2.2.2.2.2.2.1, s.1.2.2.2.2.2.2.2.2.1, s.1.2.2.2.2.2.2.2.2.2.1, s.1.2.2.2.2.2.2.2.2.2.2.1, v, s.1.2.2.2.2.2.2.2.2.2.2.2.2.1, s.1.2.2.2.2.2.2.2.2.2.2.2.2.2.1, s.1.2.2.2.2.2.2.2.2.2.2.2.2.2.2), s.2.1, s.2.2.1, s.2.2.2.1, s.2.2.2.2.1, s.2.2.2.2.2)
def Md.u_jn (s : Md) (v : Int32) : Md := ((s.1.1, s.1.2.1, s.1.2.2.1, s.1.2.2.2.1, s.1.2.2.2.2.1, s.1.2.2.2.2.2.1, s.1.2.2.2.2.2.2.1, s.1.2.2.2.2.2.2.2.1, s.1.2.2.2.2.2.2.2.2.1, s.1.2.2.2.2.2.2.2.2.2.1, s.1.2.2.2.2.2.2.2.2.2.2.1, s.1.2.2.2.2.2.2.2.2.2.2.2.1, v, s.1.2.2.2.2.2.2.2.2.2.2.2.2.2.1, s.1.2.2.2.2.2.2.2.2.2.2.2.2.2.2), s.2.1, s.2.2.1, s.2.2.2.1, s.2.2.2.2.1, s.2.2.2.2.2)
def Md.u_jT (s : Md) (v : Bool) : Md := ((s.1.1, s.1.2.1, s.1.2.2.1, s.1.2.2.2.1, s.1.2.2.2.2.1, s.1.2.2.2.2.2.1, s.1.2.2.2.2.2.2.1, s.1.2.2.2.2.2.2.2.1, s.1.2.2.2.2.2.2.2.2.1, s.1.2.2.2.2.2.2.2.2.2.1, s.1.2.2.2.2.2.2.2.2.2.2.1, s.1.2.2.2.2.2.2.2.2.2.2.2.1, s.1.2.2.2.2.2.2.2.2.2.2.2.2.1, v, s.1.2.2.2.2.2.2.2.2.2.2.2.2.2.2), s.2.1, s.2.2.1, s.2.2.2.1, s.2.2.2.2.1, s.2.2.2.2.2)
def Md.u_nps (s : Md) (v : Int32) : Md := ((s.1.1, s.1.2.1, s.1.2.2.1, s.1.2.2.2.1, s.1.2.2.2.2.1, s.1.2.2.2.2.2.1, s.1.2.2.2.2.2.2.1, s.1.2.2.2.2.2.2.2.1, s.1.2.2.2.2.2.2.2.2.1, s.1.2.2.2.2.2.2.2.2.2.1, s.1.2.2.2.2.2.2.2.2.2.2.1, s.1.2.2.2.2.2.2.2.2.2.2.2.1, s.1.2.2.2.2.2.2.2.2.2.2.2.2.1, s.1.2.2.2.2.2.2.2.2.2.2.2.2.2.1, v), s.2.1, s.2.2.1, s.2.2.2.1, s.2.2.2.2.1, s.2.2.2.2.2)
def Md.oKind (s : Md) : (Nat → Int32) := s.2.1.1
def Md.oSize (s : Md) : (Nat → Int32) := s.2.1.2.1
def Md.oStep (s : Md) : (Nat → Int32) := s.2.1.2.2.1
def Md.oLt (s : Md) : (Nat → Int32) := s.2.1.2.2.2.1
def Md.oRule (s : Md) : (Nat → Int32) := s.2.1.2.2.2.2.1
def Md.oMark (s : Md) : (Nat → Int32) := s.2.1.2.2.2.2.2
def Md.u_oKind (s : Md) (v : (Nat → Int32)) : Md := (s.1, (v, s.2.1.2.1, s.2.1.2.2.1, s.2.1.2.2.2.1, s.2.1.2.2.2.2.1, s.2.1.2.2.2.2.2), s.2.2.1, s.2.2.2.1, s.2.2.2.2.1, s.2.2.2.2.2)
def Md.u_oSize (s : Md) (v : (Nat → Int32)) : Md := (s.1, (s.2.1.1, v, s.2.1.2.2.1, s.2.1.2.2.2.1, s.2.1.2.2.2.2.1, s.2.1.2.2.2.2.2), s.2.2.1, s.2.2.2.1, s.2.2.2.2.1, s.2.2.2.2.2)
def Md.u_oStep (s : Md) (v : (Nat → Int32)) : Md := (s.1, (s.2.1.1, s.2.1.2.1, v, s.2.1.2.2.2.1, s.2.1.2.2.2.2.1, s.2.1.2.2.2.2.2), s.2.2.1, s.2.2.2.1, s.2.2.2.2.1, s.2.2.2.2.2)
def Md.u_oLt (s : Md) (v : (Nat → Int32)) : Md := (s.1, (s.2.1.1, s.2.1.2.1, s.2.1.2.2.1, v, s.2.1.2.2.2.2.1, s.2.1.2.2.2.2.2), s.2.2.1, s.2.2.2.1, s.2.2.2.2.1, s.2.2.2.2.2)
def Md.u_oRule (s : Md) (v : (Nat → Int32)) : Md := (s.1, (s.2.1.1, s.2.1.2.1, s.2.1.2.2.1, s.2.1.2.2.2.1, v, s.2.1.2.2.2.2.2), s.2.2.1, s.2.2.2.1, s.2.2.2.2.1, s.2.2.2.2.2)
def Md.u_oMark (s : Md) (v : (Nat → Int32)) : Md := (s.1, (s.2.1.1, s.2.1.2.1, s.2.1.2.2.1, s.2.1.2.2.2.1, s.2.1.2.2.2.2.1, v), s.2.2.1, s.2.2.2.1, s.2.2.2.2.1, s.2.2.2.2.2)
def Md.sOp (s : Md) : (Nat → Int32) := s.2.2.1.1
def Md.sProm (s : Md) : (Nat → Int32) := s.2.2.1.2.1
def Md.sEnd (s : Md) : (Nat → Bool) := s.2.2.1.2.2.1
def Md.sStop (s : Md) : (Nat → Bool) := s.2.2.1.2.2.2.1
def Md.sUsed (s : Md) : (Nat → Int32) := s.2.2.1.2.2.2.2.1
def Md.sAside (s : Md) : (Nat → Int32) := s.2.2.1.2.2.2.2.2.1
def Md.sBrok (s : Md) : (Nat → Int32) := s.2.2.1.2.2.2.2.2.2.1
def Md.sFirst (s : Md) : (Nat → Int32) := s.2.2.1.2.2.2.2.2.2.2
def Md.u_sOp (s : Md) (v : (Nat → Int32)) : Md := (s.1, s.2.1, (v, s.2.2.1.2.1, s.2.2.1.2.2.1, s.2.2.1.2.2.2.1, s.2.2.1.2.2.2.2.1, s.2.2.1.2.2.2.2.2.1, s.2.2.1.2.2.2.2.2.2.1, s.2.2.1.2.2.2.2.2.2.2), s.2.2.2.1, s.2.2.2.2.1, s.2.2.2.2.2)
def Md.u_sProm (s : Md) (v : (Nat → Int32)) : Md := (s.1, s.2.1, (s.2.2.1.1, v, s.2.2.1.2.2.1, s.2.2.1.2.2.2.1, s.2.2.1.2.2.2.2.1, s.2.2.1.2.2.2.2.2.1, s.2.2.1.2.2.2.2.2.2.1, s.2.2.1.2.2.2.2.2.2.2), s.2.2.2.1, s.2.2.2.2.1, s.2.2.2.2.2)
def Md.u_sEnd (s : Md) (v : (Nat → Bool)) : Md := (s.1, s.2.1, (s.2.2.1.1, s.2.2.1.2.1, v, s.2.2.1.2.2.2.1, s.2.2.1.2.2.2.2.1, s.2.2.1.2.2.2.2.2.1, s.2.2.1.2.2.2.2.2.2.1, s.2.2.1.2.2.2.2.2.2.2), s.2.2.2.1, s.2.2.2.2.1, s.2.2.2.2.2)
def Md.u_sStop (s : Md) (v : (Nat → Bool)) : Md := (s.1, s.2.1, (s.2.2.1.1, s.2.2.1.2.1, s.2.2.1.2.2.1, v, s.2.2.1.2.2.2.2.1, s.2.2.1.2.2.2.2.2.1, s.2.2.1.2.2.2.2.2.2.1, s.2.2.1.2.2.2.2.2.2.2), s.2.2.2.1, s.2.2.2.2.1, s.2.2.2.2.2)
def Md.u_sUsed (s : Md) (v : (Nat → Int32)) : Md := (s.1, s.2.1, (s.2.2.1.1, s.2.2.1.2.1, s.2.2.1.2.2.1, s.2.2.1.2.2.2.1, v, s.2.2.1.2.2.2.2.2.1, s.2.2.1.2.2.2.2.2.2.1, s.2.2.1.2.2.2.2.2.2.2), s.2.2.2.1, s.2.2.2.2.1, s.2.2.2.2.2)
def Md.u_sAside (s : Md) (v : (Nat → Int32)) : Md := (s.1, s.2.1, (s.2.2.1.1, s.2.2.1.2.1, s.2.2.1.2.2.1, s.2.2.1.2.2.2.1, s.2.2.1.2.2.2.2.1, v, s.2.2.1.2.2.2.2.2.2.1, s.2.2.1.2.2.2.2.2.2.2), s.2.2.2.1, s.2.2.2.2.1, s.2.2.2.2.2)
def Md.u_sBrok (s : Md) (v : (Nat → Int32)) : Md := (s.1, s.2.1, (s.2.2.1.1, s.2.2.1.2.1, s.2.2.1.2.2.1, s.2.2.1.2.2.2.1, s.2.2.1.2.2.2.2.1, s.2.2.1.2.2.2.2.2.1, v, s.2.2.1.2.2.2.2.2.2.2), s.2.2.2.1, s.2.2.2.2.1, s.2.2.2.2.2)
def Md.u_sFirst (s : Md) (v : (Nat → Int32)) : Md := (s.1, s.2.1, (s.2.2.1.1, s.2.2.1.2.1, s.2.2.1.2.2.1, s.2.2.1.2.2.2.1, s.2.2.1.2.2.2.2.1, s.2.2.1.2.2.2.2.2.1, s.2.2.1.2.2.2.2.2.2.1, v), s.2.2.2.1, s.2.2.2.2.1, s.2.2.2.2.2)
def Md.rSrc (s : Md) : (Nat → Int32) := s.2.2.2.1.1
def Md.rKey (s : Md) : (Nat → Int32) := s.2.2.2.1.2.1
def Md.rTime (s : Md) : (Nat → Int32) := s.2.2.2.1.2.2.1
def Md.rV (s : Md) : (Nat → Int32) := s.2.2.2.1.2.2.2.1
def Md.rUsed (s : Md) : (Nat → Bool) := s.2.2.2.1.2.2.2.2
def Md.u_rSrc (s : Md) (v : (Nat → Int32)) : Md := (s.1, s.2.1, s.2.2.1, (v, s.2.2.2.1.2.1, s.2.2.2.1.2.2.1, s.2.2.2.1.2.2.2.1, s.2.2.2.1.2.2.2.2), s.2.2.2.2.1, s.2.2.2.2.2)
def Md.u_rKey (s : Md) (v : (Nat → Int32)) : Md := (s.1, s.2.1, s.2.2.1, (s.2.2.2.1.1, v, s.2.2.2.1.2.2.1, s.2.2.2.1.2.2.2.1, s.2.2.2.1.2.2.2.2), s.2.2.2.2.1, s.2.2.2.2.2)
def Md.u_rTime (s : Md) (v : (Nat → Int32)) : Md := (s.1, s.2.1, s.2.2.1, (s.2.2.2.1.1, s.2.2.2.1.2.1, v, s.2.2.2.1.2.2.2.1, s.2.2.2.1.2.2.2.2), s.2.2.2.2.1, s.2.2.2.2.2)
def Md.u_rV (s : Md) (v : (Nat → Int32)) : Md := (s.1, s.2.1, s.2.2.1, (s.2.2.2.1.1, s.2.2.2.1.2.1, s.2.2.2.1.2.2.1, v, s.2.2.2.1.2.2.2.2), s.2.2.2.2.1, s.2.2.2.2.2)
def Md.u_rUsed (s : Md) (v : (Nat → Bool)) : Md := (s.1, s.2.1, s.2.2.1, (s.2.2.2.1.1, s.2.2.2.1.2.1, s.2.2.2.1.2.2.1, s.2.2.2.1.2.2.2.1, v), s.2.2.2.2.1, s.2.2.2.2.2)
def Md.wOp (s : Md) : (Nat → Int32) := s.2.2.2.2.1.1
def Md.wKey (s : Md) : (Nat → Int32) := s.2.2.2.2.1.2.1
def Md.wBeg (s : Md) : (Nat → Int32) := s.2.2.2.2.1.2.2.1
def Md.wEnd (s : Md) : (Nat → Int32) := s.2.2.2.2.1.2.2.2.1
def Md.wMany (s : Md) : (Nat → Int32) := s.2.2.2.2.1.2.2.2.2.1
def Md.wSum (s : Md) : (Nat → Int64) := s.2.2.2.2.1.2.2.2.2.2.1
def Md.wLeast (s : Md) : (Nat → Int32) := s.2.2.2.2.1.2.2.2.2.2.2.1
def Md.wMost (s : Md) : (Nat → Int32) := s.2.2.2.2.1.2.2.2.2.2.2.2.1
def Md.wTold (s : Md) : (Nat → Bool) := s.2.2.2.2.1.2.2.2.2.2.2.2.2.1
def Md.wCame (s : Md) : (Nat → Bool) := s.2.2.2.2.1.2.2.2.2.2.2.2.2.2.1
def Md.tMany (s : Md) : (Nat → Int32) := s.2.2.2.2.1.2.2.2.2.2.2.2.2.2.2.1
def Md.tSum (s : Md) : (Nat → Int64) := s.2.2.2.2.1.2.2.2.2.2.2.2.2.2.2.2.1
def Md.tLeast (s : Md) : (Nat → Int32) := s.2.2.2.2.1.2.2.2.2.2.2.2.2.2.2.2.2.1
def Md.tMost (s : Md) : (Nat → Int32) := s.2.2.2.2.1.2.2.2.2.2.2.2.2.2.2.2.2.2
def Md.u_wOp (s : Md) (v : (Nat → Int32)) : Md := (s.1, s.2.1, s.2.2.1, s.2.2.2.1, (v, s.2.2.2.2.1.2.1, s.2.2.2.2.1.2.2.1, s.2.2.2.2.1.2.2.2.1, s.2.2.2.2.1.2.2.2.2.1, s.2.2.2.2.1.2.2.2.2.2.1, s.2.2.2.2.1.2.2.2.2.2.2.1, s.2.2.2.2.1.2.2.2.2.2.2.2.1, s.2.2.2.2.1.2.2.2.2.2.2.2.2.1, s.2.2.2.2.1.2.2.2.2.2.2.2.2.2.1, s.2.2.2.2.1.2.2.2.2.2.2.2.2.2.2.1, s.2.2.2.2.1.2.2.2.2.2.2.2.2.2.2.2.1, s.2.2.2.2.1.2.2.2.2.2.2.2.2.2.2.2.2.1, s.2.2.2.2.1.2.2.2.2.2.2.2.2.2.2.2.2.2), s.2.2.2.2.2)
def Md.u_wKey (s : Md) (v : (Nat → Int32)) : Md := (s.1, s.2.1, s.2.2.1, s.2.2.2.1, (s.2.2.2.2.1.1, v, s.2.2.2.2.1.2.2.1, s.2.2.2.2.1.2.2.2.1, s.2.2.2.2.1.2.2.2.2.1, s.2.2.2.2.1.2.2.2.2.2.1, s.2.2.2.2.1.2.2.2.2.2.2.1, s.2.2.2.2.1.2.2.2.2.2.2.2.1, s.2.2.2.2.1.2.2.2.2.2.2.2.2.1, s.2.2.2.2.1.2.2.2.2.2.2.2.2.2.1, s.2.2.2.2.1.2.2.2.2.2.2.2.2.2.2.1, s.2.2.2.2.1.2.2.2.2.2.2.2.2.2.2.2.1, s.2.2.2.2.1.2.2.2.2.2.2.2.2.2.2.2.2.1, s.2.2.2.2.1.2.2.2.2.2.2.2.2.2.2.2.2.2), s.2.2.2.2.2)
def Md.u_wBeg (s : Md) (v : (Nat → Int32)) : Md := (s.1, s.2.1, s.2.2.1, s.2.2.2.1, (s.2.2.2.2.1.1, s.2.2.2.2.1.2.1, v, s.2.2.2.2.1.2.2.2.1, s.2.2.2.2.1.2.2.2.2.1, s.2.2.2.2.1.2.2.2.2.2.1, s.2.2.2.2.1.2.2.2.2.2.2.1, s.2.2.2.2.1.2.2.2.2.2.2.2.1, s.2.2.2.2.1.2.2.2.2.2.2.2.2.1, s.2.2.2.2.1.2.2.2.2.2.2.2.2.2.1, s.2.2.2.2.1.2.2.2.2.2.2.2.2.2.2.1, s.2.2.2.2.1.2.2.2.2.2.2.2.2.2.2.2.1, s.2.2.2.2.1.2.2.2.2.2.2.2.2.2.2.2.2.1, s.2.2.2.2.1.2.2.2.2.2.2.2.2.2.2.2.2.2), s.2.2.2.2.2)
def Md.u_wEnd (s : Md) (v : (Nat → Int32)) : Md := (s.1, s.2.1, s.2.2.1, s.2.2.2.1, (s.2.2.2.2.1.1, s.2.2.2.2.1.2.1, s.2.2.2.2.1.2.2.1, v, s.2.2.2.2.1.2.2.2.2.1, s.2.2.2.2.1.2.2.2.2.2.1, s.2.2.2.2.1.2.2.2.2.2.2.1, s.2.2.2.2.1.2.2.2.2.2.2.2.1, s.2.2.2.2.1.2.2.2.2.2.2.2.2.1, s.2.2.2.2.1.2.2.2.2.2.2.2.2.2.1, s.2.2.2.2.1.2.2.2.2.2.2.2.2.2.2.1, s.2.2.2.2.1.2.2.2.2.2.2.2.2.2.2.2.1, s.2.2.2.2.1.2.2.2.2.2.2.2.2.2.2.2.2.1, s.2.2.2.2.1.2.2.2.2.2.2.2.2.2.2.2.2.2), s.2.2.2.2.2)
def Md.u_wMany (s : Md) (v : (Nat → Int32)) : Md := (s.1, s.2.1, s.2.2.1, s.2.2.2.1, (s.2.2.2.2.1.1, s.2.2.2.2.1.2.1, s.2.2.2.2.1.2.2.1, s.2.2.2.2.1.2.2.2.1, v, s.2.2.2.2.1.2.2.2.2.2.1, s.2.2.2.2.1.2.2.2.2.2.2.1, s.2.2.2.2.1.2.2.2.2.2.2.2.1, s.2.2.2.2.1.2.2.2.2.2.2.2.2.1, s.2.2.2.2.1.2.2.2.2.2.2.2.2.2.1, s.2.2.2.2.1.2.2.2.2.2.2.2.2.2.2.1, s.2.2.2.2.1.2.2.2.2.2.2.2.2.2.2.2.1, s.2.2.2.2.1.2.2.2.2.2.2.2.2.2.2.2.2.1, s.2.2.2.2.1.2.2.2.2.2.2.2.2.2.2.2.2.2), s.2.2.2.2.2)
def Md.u_wSum (s : Md) (v : (Nat → Int64)) : Md := (s.1, s.2.1, s.2.2.1, s.2.2.2.1, (s.2.2.2.2.1.1, s.2.2.2.2.1.2.1, s.2.2.2.2.1.2.2.1, s.2.2.2.2.1.2.2.2.1, s.2.2.2.2.1.2.2.2.2.1, v, s.2.2.2.2.1.2.2.2.2.2.2.1, s.2.2.2.2.1.2.2.2.2.2.2.2.1, s.2.2.2.2.1.2.2.2.2.2.2.2.2.1, s.2.2.2.2.1.2.2.2.2.2.2.2.2.2.1, s.2.2.2.2.1.2.2.2.2.2.2.2.2.2.2.1, s.2.2.2.2.1.2.2.2.2.2.2.2.2.2.2.2.1, s.2.2.2.2.1.2.2.2.2.2.2.2.2.2.2.2.2.1, s.2.2.2.2.1.2.2.2.2.2.2.2.2.2.2.2.2.2), s.2.2.2.2.2)
def Md.u_wLeast (s : Md) (v : (Nat → Int32)) : Md := (s.1, s.2.1, s.2.2.1, s.2.2.2.1, (s.2.2.2.2.1.1, s.2.2.2.2.1.2.1, s.2.2.2.2.1.2.2.1, s.2.2.2.2.1.2.2.2.1, s.2.2.2.2.1.2.2.2.2.1, s.2.2.2.2.1.2.2.2.2.2.1, v, s.2.2.2.2.1.2.2.2.2.2.2.2.1, s.2.2.2.2.1.2.2.2.2.2.2.2.2.1, s.2.2.2.2.1.2.2.2.2.2.2.2.2.2.1, s.2.2.2.2.1.2.2.2.2.2.2.2.2.2.2.1, s.2.2.2.2.1.2.2.2.2.2.2.2.2.2.2.2.1, s.2.2.2.2.1.2.2.2.2.2.2.2.2.2.2.2.2.1, s.2.2.2.2.1.2.2.2.2.2.2.2.2.2.2.2.2.2), s.2.2.2.2.2)
def Md.u_wMost (s : Md) (v : (Nat → Int32)) : Md := (s.1, s.2.1, s.2.2.1, s.2.2.2.1, (s.2.2.2.2.1.1, s.2.2.2.2.1.2.1, s.2.2.2.2.1.2.2.1, s.2.2.2.2.1.2.2.2.1, s.2.2.2.2.1.2.2.2.2.1, s.2.2.2.2.1.2.2.2.2.2.1, s.2.2.2.2.1.2.2.2.2.2.2.1, v, s.2.2.2.2.1.2.2.2.2.2.2.2.2.1, s.2.2.2.2.1.2.2.2.2.2.2.2.2.2.1, s.2.2.2.2.1.2.2.2.2.2.2.2.2.2.2.1, s.2.2.2.2.1.2.2.2.2.2.2.2.2.2.2.2.1, s.2.2.2.2.1.2.2.2.2.2.2.2.2.2.2.2.2.1, s.2.2.2.2.1.2.2.2.2.2.2.2.2.2.2.2.2.2), s.2.2.2.2.2)
def Md.u_wTold (s : Md) (v : (Nat → Bool)) : Md := (s.1, s.2.1, s.2.2.1, s.2.2.2.1, (s.2.2.2.2.1.1, s.2.2.2.2.1.2.1, s.2.2.2.2.1.2.2.1, s.2.2.2.2.1.2.2.2.1, s.2.2.2.2.1.2.2.2.2.1, s.2.2.2.2.1.2.2.2.2.2.1, s.2.2.2.2.1.2.2.2.2.2.2.1, s.2.2.2.2.1.2.2.2.2.2.2.2.1, v, s.2.2.2.2.1.2.2.2.2.2.2.2.2.2.1, s.2.2.2.2.1.2.2.2.2.2.2.2.2.2.2.1, s.2.2.2.2.1.2.2.2.2.2.2.2.2.2.2.2.1, s.2.2.2.2.1.2.2.2.2.2.2.2.2.2.2.2.2.1, s.2.2.2.2.1.2.2.2.2.2.2.2.2.2.2.2.2.2), s.2.2.2.2.2)
def Md.u_wCame (s : Md) (v : (Nat → Bool)) : Md := (s.1, s.2.1, s.2.2.1, s.2.2.2.1, (s.2.2.2.2.1.1, s.2.2.2.2.1.2.1, s.2.2.2.2.1.2.2.1, s.2.2.2.2.1.2.2.2.1, s.2.2.2.2.1.2.2.2.2.1, s.2.2.2.2.1.2.2.2.2.2.1, s.2.2.2.2.1.2.2.2.2.2.2.1, s.2.2.2.2.1.2.2.2.2.2.2.2.1, s.2.2.2.2.1.2.2.2.2.2.2.2.2.1, v, s.2.2.2.2.1.2.2.2.2.2.2.2.2.2.2.1, s.2.2.2.2.1.2.2.2.2.2.2.2.2.2.2.2.1, s.2.2.2.2.1.2.2.2.2.2.2.2.2.2.2.2.2.1, s.2.2.2.2.1.2.2.2.2.2.2.2.2.2.2.2.2.2), s.2.2.2.2.2)
def Md.u_tMany (s : Md) (v : (Nat → Int32)) : Md := (s.1, s.2.1, s.2.2.1, s.2.2.2.1, (s.2.2.2.2.1.1, s.2.2.2.2.1.2.1, s.2.2.2.2.1.2.2.1, s.2.2.2.2.1.2.2.2.1, s.2.2.2.2.1.2.2.2.2.1, s.2.2.2.2.1.2.2.2.2.2.1, s.2.2.2.2.1.2.2.2.2.2.2.1, s.2.2.2.2.1.2.2.2.2.2.2.2.1, s.2.2.2.2.1.2.2.2.2.2.2.2.2.1, s.2.2.2.2.1.2.2.2.2.2.2.2.2.2.1, v, s.2.2.2.2.1.2.2.2.2.2.2.2.2.2.2.2.1, s.2.2.2.2.1.2.2.2.2.2.2.2.2.2.2.2.2.1, s.2.2.2.2.1.2.2.2.2.2.2.2.2.2.2.2.2.2), s.2.2.2.2.2)
def Md.u_tSum (s : Md) (v : (Nat → Int64)) : Md := (s.1, s.2.1, s.2.2.1, s.2.2.2.1, (s.2.2.2.2.1.1, s.2.2.2.2.1.2.1, s.2.2.2.2.1.2.2.1, s.2.2.2.2.1.2.2.2.1, s.2.2.2.2.1.2.2.2.2.1, s.2.2.2.2.1.2.2.2.2.2.1, s.2.2.2.2.1.2.2.2.2.2.2.1, s.2.2.2.2.1.2.2.2.2.2.2.2.1, s.2.2.2.2.1.2.2.2.2.2.2.2.2.1, s.2.2.2.2.1.2.2.2.2.2.2.2.2.2.1, s.2.2.2.2.1.2.2.2.2.2.2.2.2.2.2.1, v, s.2.2.2.2.1.2.2.2.2.2.2.2.2.2.2.2.2.1, s.2.2.2.2.1.2.2.2.2.2.2.2.2.2.2.2.2.2), s.2.2.2.2.2)
def Md.u_tLeast (s : Md) (v : (Nat → Int32)) : Md := (s.1, s.2.1, s.2.2.1, s.2.2.2.1, (s.2.2.2.2.1.1, s.2.2.2.2.1.2.1, s.2.2.2.2.1.2.2.1, s.2.2.2.2.1.2.2.2.1, s.2.2.2.2.1.2.2.2.2.1, s.2.2.2.2.1.2.2.2.2.2.1, s.2.2.2.2.1.2.2.2.2.2.2.1, s.2.2.2.2.1.2.2.2.2.2.2.2.1, s.2.2.2.2.1.2.2.2.2.2.2.2.2.1, s.2.2.2.2.1.2.2.2.2.2.2.2.2.2.1, s.2.2.2.2.1.2.2.2.2.2.2.2.2.2.2.1, s.2.2.2.2.1.2.2.2.2.2.2.2.2.2.2.2.1, v, s.2.2.2.2.1.2.2.2.2.2.2.2.2.2.2.2.2.2), s.2.2.2.2.2)
def Md.u_tMost (s : Md) (v : (Nat → Int32)) : Md := (s.1, s.2.1, s.2.2.1, s.2.2.2.1, (s.2.2.2.2.1.1, s.2.2.2.2.1.2.1, s.2.2.2.2.1.2.2.1, s.2.2.2.2.1.2.2.2.1, s.2.2.2.2.1.2.2.2.2.1, s.2.2.2.2.1.2.2.2.2.2.1, s.2.2.2.2.1.2.2.2.2.2.2.1, s.2.2.2.2.1.2.2.2.2.2.2.2.1, s.2.2.2.2.1.2.2.2.2.2.2.2.2.1, s.2.2.2.2.1.2.2.2.2.2.2.2.2.2.1, s.2.2.2.2.1.2.2.2.2.2.2.2.2.2.2.1, s.2.2.2.2.1.2.2.2.2.2.2.2.2.2.2.2.1, s.2.2.2.2.1.2.2.2.2.2.2.2.2.2.2.2.2.1, v), s.2.2.2.2.2)
def Md.eRow (s : Md) : (Nat → Int64) := s.2.2.2.2.2.1
def Md.aRow (s : Md) : (Nat → Int32) := s.2.2.2.2.2.2.1
def Md.pRow (s : Md) : (Nat → Int64) := s.2.2.2.2.2.2.2
def Md.u_eRow (s : Md) (v : (Nat → Int64)) : Md := (s.1, s.2.1, s.2.2.1, s.2.2.2.1, s.2.2.2.2.1, (v, s.2.2.2.2.2.2.1, s.2.2.2.2.2.2.2))
def Md.u_aRow (s : Md) (v : (Nat → Int32)) : Md := (s.1, s.2.1, s.2.2.1, s.2.2.2.1, s.2.2.2.2.1, (s.2.2.2.2.2.1, v, s.2.2.2.2.2.2.2))
def Md.u_pRow (s : Md) (v : (Nat → Int64)) : Md := (s.1, s.2.1, s.2.2.1, s.2.2.2.1, s.2.2.2.2.1, (s.2.2.2.2.2.1, s.2.2.2.2.2.2.1, v))
def mdf (y : Nat) (s : Md) : List Value := [.int s.nop, .ref (y + 1), .ref (y + 2), .ref (y + 3), .ref (y + 4), .ref (y + 5), .ref (y + 6), .int s.nsr, .ref (y + 7), .ref (y + 8), .ref (y + 9), .ref (y + 10), .ref (y + 11), .ref (y + 12), .ref (y + 13), .ref (y + 14), .int s.nrow, .ref (y + 15), .ref (y + 16), .ref (y + 17), .ref (y + 18), .ref (y + 19), .int s.nwin, .ref (y + 20), .ref (y + 21), .ref (y + 22), .ref (y + 23), .ref (y + 24), .ref (y + 25), .ref (y + 26), .ref (y + 27), .ref (y + 28), .ref (y + 29), .ref (y + 30), .ref (y + 31), .ref (y + 32), .ref (y + 33), .int s.nres, .int s.ever, .ref (y + 34), .int s.nas, .ref (y + 35), .int s.bnd, .int s.rul, .int s.drp, .int s.fB, .int s.fE, .int s.jn, .int (rv_b s.jT), .int s.nps, .ref (y + 36)]
def md (y : Nat) (s : Md) : List rv_E := [.inl (k_Model, mdf y s), rv_aI 5 s.oKind, rv_aI 5 s.oSize, rv_aI 5 s.oStep, rv_aI 5 s.oLt, rv_aI 5 s.oRule, rv_aI 5 s.oMark, rv_aI 10 s.sOp, rv_aI 10 s.sProm, rv_aZ 10 s.sEnd, rv_aZ 10 s.sStop, rv_aI 10 s.sUsed, rv_aI 10 s.sAside, rv_aI 10 s.sBrok, rv_aI 10 s.sFirst, rv_aI 300 s.rSrc, rv_aI 300 s.rKey, rv_aI 300 s.rTime, rv_aI 300 s.rV, rv_aZ 300 s.rUsed, rv_aI 120 s.wOp, rv_aI 120 s.wKey, rv_aI 120 s.wBeg, rv_aI 120 s.wEnd, rv_aI 120 s.wMany, rv_aJ 120 s.wSum, rv_aI 120 s.wLeast, rv_aI 120 s.wMost, rv_aZ 120 s.wTold, rv_aZ 120 s.wCame, rv_aI 120 s.tMany, rv_aJ 120 s.tSum, rv_aI 120 s.tLeast, rv_aI 120 s.tMost, rv_aJ 3600 s.eRow, rv_aI 505 s.aRow, rv_aJ 16800 s.pRow]
def mdS (y q : Nat) : Prop := y ≤ q ∧ q < y + 37
/-- from σ0 on only the reference's cells have changed, and they are L -/
def MI (σ0 σ : rv_S) (y : Nat) (L : List rv_E) : Prop := σ.1 = σ0.1 ∧ (∀ i c, rv_nth L i = some c → σ.2 (y + i) = some c) ∧ rv_only (mdS y) σ0.2 σ.2
theorem nth_set {α : Type} : ∀ (L : List α) (J i : Nat) (c c' : α), rv_nth (L.set J c) i = some c' → (i = J ∧ c' = c) ∨ (i ≠ J ∧ rv_nth L i = some c')
  | [], J, i, c, c', h => by cases J <;> cases h
  | a :: L, 0, 0, c, c', h => Or.inl ⟨rfl, (Option.some.inj h).symm⟩
  | a :: L, 0, i + 1, c, c', h => Or.inr ⟨by omega, h⟩
  | a :: L, J + 1, 0, c, c', h => Or.inr ⟨by omega, h⟩
  | a :: L, J + 1, i + 1, c, c', h => by
    rcases nth_set L J i c c' h with ⟨h1, h2⟩ | ⟨h1, h2⟩
    · exact Or.inl ⟨by omega, h2⟩
    · exact Or.inr ⟨by omega, h2⟩
theorem MI.at {σ0 σ : rv_S} {y : Nat} {L : List rv_E} (h : MI σ0 σ y L) (i : Nat) {c : rv_E} (hc : rv_nth L i = some c) : σ.2 (y + i) = some c := h.2.1 i c hc
theorem MI.up {σ0 σ : rv_S} {y : Nat} {L : List rv_E} (h : MI σ0 σ y L) (J : Nat) (hJ : J < 37) (c : rv_E) : MI σ0 (σ.1, rv_up σ.2 (y + J) c) y (L.set J c) := by
  refine ⟨h.1, fun i c' hc => ?_, h.2.2.tr (rv_only.up ⟨by omega, by omega⟩)⟩
  rcases nth_set L J i c c' hc with ⟨h1, h2⟩ | ⟨h1, h2⟩
  · subst h1; subst h2; exact rv_up_s
  · exact (rv_up_n (by omega)).trans (h.2.1 i c' h2)
theorem MI.ld {G : rv_G} {M : rv_M} {mc ms : Nat} {Rt : Option Value → rv_S → Prop} {stops : List Nat} {K : Nat → rv_L → List Value → rv_S → Nat → Nat → Prop} {k pc : Nat} {ls : rv_L} {st : List Value} {ce sl : Nat} {σ0 σ : rv_S} {y : Nat} {L : List rv_E} (h : MI σ0 σ y L) (J : Nat) {n : Nat} {f : Nat → Int32} (hJ : rv_nth L J = some (rv_aI n f)) {vi : Int32} {w : Nat} (ei : vi = nI w) (hw : w < n) (next : rv_bx G M mc ms Rt stops K k pc ls (.int (f w) :: st) σ ce sl) (hn : n < 2147483648 := by decide) : ∃ (n : Nat) (f : Nat → Int32), (σ.2 (y + J) = some (rv_aI n f) ∨ σ.2 (y + J) = some (rv_aT n f)) ∧ vp_in vi n ∧ rv_bx G M mc ms Rt stops K k pc ls (.int (f vi.toNatClampNeg) :: st) σ ce sl :=
  ⟨n, f, Or.inl (h.at J hJ), by rw [ei]; exact vp_in_nI hw (by omega), by rw [ei, nI_clamp (by omega)]; exact next⟩
theorem MI.ldJ {G : rv_G} {M : rv_M} {mc ms : Nat} {Rt : Option Value → rv_S → Prop} {stops : List Nat} {K : Nat → rv_L → List Value → rv_S → Nat → Nat → Prop} {k pc : Nat} {ls : rv_L} {st : List Value} {ce sl : Nat} {σ0 σ : rv_S} {y : Nat} {L : List rv_E} (h : MI σ0 σ y L) (J : Nat) {n : Nat} {f : Nat → Int64} (hJ : rv_nth L J = some (rv_aJ n f)) {vi : Int32} {w : Nat} (ei : vi = nI w) (hw : w < n) (next : rv_bx G M mc ms Rt stops K k pc ls (.long (f w) :: st) σ ce sl) (hn : n < 2147483648 := by decide) : ∃ (n : Nat) (f : Nat → Int64), σ.2 (y + J) = some (rv_aJ n f) ∧ vp_in vi n ∧ rv_bx G M mc ms Rt stops K k pc ls (.long (f vi.toNatClampNeg) :: st) σ ce sl :=
  ⟨n, f, h.at J hJ, by rw [ei]; exact vp_in_nI hw (by omega), by rw [ei, nI_clamp (by omega)]; exact next⟩
theorem MI.ldZ {G : rv_G} {M : rv_M} {mc ms : Nat} {Rt : Option Value → rv_S → Prop} {stops : List Nat} {K : Nat → rv_L → List Value → rv_S → Nat → Nat → Prop} {k pc : Nat} {ls : rv_L} {st : List Value} {ce sl : Nat} {σ0 σ : rv_S} {y : Nat} {L : List rv_E} (h : MI σ0 σ y L) (J : Nat) {n : Nat} {f : Nat → Bool} (hJ : rv_nth L J = some (rv_aZ n f)) {vi : Int32} {w : Nat} (ei : vi = nI w) (hw : w < n) (next : rv_bx G M mc ms Rt stops K k pc ls (.int (rv_b (f w)) :: st) σ ce sl) (hn : n < 2147483648 := by decide) : ∃ (n : Nat) (f : Nat → Bool), σ.2 (y + J) = some (rv_aZ n f) ∧ vp_in vi n ∧ rv_bx G M mc ms Rt stops K k pc ls (.int (rv_b (f vi.toNatClampNeg)) :: st) σ ce sl :=
  ⟨n, f, h.at J hJ, by rw [ei]; exact vp_in_nI hw (by omega), by rw [ei, nI_clamp (by omega)]; exact next⟩
theorem MI.st {G : rv_G} {M : rv_M} {mc ms : Nat} {Rt : Option Value → rv_S → Prop} {stops : List Nat} {K : Nat → rv_L → List Value → rv_S → Nat → Nat → Prop} {k pc : Nat} {ls : rv_L} {st : List Value} {ce sl : Nat} {σ0 σ : rv_S} {y : Nat} {L : List rv_E} (h : MI σ0 σ y L) (J : Nat) {n : Nat} {f : Nat → Int32} (hJ : rv_nth L J = some (rv_aI n f)) {vi : Int32} {w : Nat} (ei : vi = nI w) (hw : w < n) {v : Int32} (next : ∀ σ', MI σ0 σ' y (L.set J (rv_aI n (upd f w v))) → rv_bx G M mc ms Rt stops K k pc ls st σ' ce sl) (hJ2 : J < 37 := by decide) (hn : n < 2147483648 := by decide) : ∃ (n : Nat) (f : Nat → Int32), σ.2 (y + J) = some (rv_aI n f) ∧ vp_in vi n ∧ rv_bx G M mc ms Rt stops K k pc ls st (σ.1, rv_up σ.2 (y + J) (rv_aI n (upd f vi.toNatClampNeg v))) ce sl :=
  ⟨n, f, h.at J hJ, by rw [ei]; exact vp_in_nI hw (by omega), by rw [ei, nI_clamp (by omega)]; exact next _ (h.up J hJ2 _)⟩
theorem MI.stJ {G : rv_G} {M : rv_M} {mc ms : Nat} {Rt : Option Value → rv_S → Prop} {stops : List Nat} {K : Nat → rv_L → List Value → rv_S → Nat → Nat → Prop} {k pc : Nat} {ls : rv_L} {st : List Value} {ce sl : Nat} {σ0 σ : rv_S} {y : Nat} {L : List rv_E} (h : MI σ0 σ y L) (J : Nat) {n : Nat} {f : Nat → Int64} (hJ : rv_nth L J = some (rv_aJ n f)) {vi : Int32} {w : Nat} (ei : vi = nI w) (hw : w < n) {v : Int64} (next : ∀ σ', MI σ0 σ' y (L.set J (rv_aJ n (vp_updL f w v))) → rv_bx G M mc ms Rt stops K k pc ls st σ' ce sl) (hJ2 : J < 37 := by decide) (hn : n < 2147483648 := by decide) : ∃ (n : Nat) (f : Nat → Int64), σ.2 (y + J) = some (rv_aJ n f) ∧ vp_in vi n ∧ rv_bx G M mc ms Rt stops K k pc ls st (σ.1, rv_up σ.2 (y + J) (rv_aJ n (vp_updL f vi.toNatClampNeg v))) ce sl :=
  ⟨n, f, h.at J hJ, by rw [ei]; exact vp_in_nI hw (by omega), by rw [ei, nI_clamp (by omega)]; exact next _ (h.up J hJ2 _)⟩
theorem MI.stZ {G : rv_G} {M : rv_M} {mc ms : Nat} {Rt : Option Value → rv_S → Prop} {stops : List Nat} {K : Nat → rv_L → List Value → rv_S → Nat → Nat → Prop} {k pc : Nat} {ls : rv_L} {st : List Value} {ce sl : Nat} {σ0 σ : rv_S} {y : Nat} {L : List rv_E} (h : MI σ0 σ y L) (J : Nat) {n : Nat} {f : Nat → Bool} (hJ : rv_nth L J = some (rv_aZ n f)) {vi : Int32} {w : Nat} (ei : vi = nI w) (hw : w < n) (b : Bool) {v : Int32} (hv : v = rv_b b) (next : ∀ σ', MI σ0 σ' y (L.set J (rv_aZ n (va_up f w b))) → rv_bx G M mc ms Rt stops K k pc ls st σ' ce sl) (hJ2 : J < 37 := by decide) (hn : n < 2147483648 := by decide) : ∃ (n : Nat) (f : Nat → Bool) (b : Bool), σ.2 (y + J) = some (rv_aZ n f) ∧ v = rv_b b ∧ vp_in vi n ∧ rv_bx G M mc ms Rt stops K k pc ls st (σ.1, rv_up σ.2 (y + J) (rv_aZ n (va_up f vi.toNatClampNeg b))) ce sl :=
  ⟨n, f, b, h.at J hJ, hv, by rw [ei]; exact vp_in_nI hw (by omega), by rw [ei, nI_clamp (by omega)]; exact next _ (h.up J hJ2 _)⟩
theorem MI.put {G : rv_G} {M : rv_M} {mc ms : Nat} {Rt : Option Value → rv_S → Prop} {stops : List Nat} {K : Nat → rv_L → List Value → rv_S → Nat → Nat → Prop} {k pc : Nat} {ls : rv_L} {st : List Value} {ce sl : Nat} {σ0 σ : rv_S} {y : Nat} {L : List rv_E} (h : MI σ0 σ y L) {a b : Nat} {fs : List Value} (hJ : rv_nth L 0 = some (.inl (a, fs))) {w : Value} (hf : rv_fit (rv_ty a b) w) (next : ∀ σ', MI σ0 σ' y (L.set 0 (.inl (a, fs.set b w))) → rv_bx G M mc ms Rt stops K k pc ls st σ' ce sl) : ∃ fs : List Value, σ.2 y = some (.inl (a, fs)) ∧ rv_fit (rv_ty a b) w ∧ rv_bx G M mc ms Rt stops K k pc ls st (σ.1, rv_up σ.2 y (.inl (a, fs.set b w))) ce sl :=
  ⟨fs, h.at 0 hJ, hf, next _ (h.up 0 (by decide) _)⟩
/-- the reference's window w -/
def mw (s : Md) (w : Nat) : Wd := ((s.wOp w, s.wKey w, s.wBeg w, s.wEnd w), (s.wTold w, s.wCame w), (s.wMany w, s.wSum w, s.wLeast w, s.wMost w), (s.tMany w, s.tSum w, s.tLeast w, s.tMost w))
set_option maxRecDepth 100000 in
theorem rt_in {G : rv_G} {σ : rv_S} (n a b : Int32) : rv_Ct G i_Model_in 0 0 [.int n, .int a, .int b] σ (fun r σ' => r = some (.int (rv_b (rv_in n a b))) ∧ σ' = σ) := by
  refine rv_ct (M := m_Model_in) rfl (by decide) rfl rfl ?_
  refine rv_V.run rv_gd_Model_in [] 400 ?_
  refine And.intro (fun c1 => ?_) (fun c1 => ?_)
  · refine And.intro (Or.inl rfl) ⟨?_, rfl⟩
    rw [show rv_in n a b = false from decide_eq_false (fun z => Int32.not_le.mpr c1 z.1)]; rfl
  · refine And.intro (fun c2 => ?_) (fun c2 => ?_)
    · refine And.intro (Or.inl rfl) ⟨?_, rfl⟩
      rw [show rv_in n a b = false from decide_eq_false (fun z => Int32.not_le.mpr c2 z.2)]; rfl
    · refine And.intro (Or.inr rfl) ⟨?_, rfl⟩
      rw [show rv_in n a b = true from decide_eq_true ⟨Int32.not_lt.mp c1, Int32.not_lt.mp c2⟩]; rfl
set_option maxRecDepth 100000 in
theorem rt_isClosed {G : rv_G} {σ0 σ : rv_S} {y o : Nat} {s : Md} {vo : Int32} (h : MI σ0 σ y (md y s)) (eo : vo = nI o) (ho : o < 5) (e : Int32) : rv_Ct G i_Model_isClosed 0 0 [.ref y, .int vo, .int e] σ (fun r σ' => r = some (.int (rv_b (decide (e + s.oLt o ≤ s.oMark o)))) ∧ σ' = σ) := by
  refine rv_ct (M := m_Model_isClosed) rfl (by decide) rfl rfl ?_
  refine rv_V.run rv_gd_Model_isClosed [] 400 ?_
  refine Exists.intro _ (And.intro (h.at 0 rfl) ?_)
  refine h.ld 4 rfl eo ho ?_
  refine Exists.intro _ (And.intro (h.at 0 rfl) ?_)
  refine h.ld 6 rfl eo ho ?_
  refine And.intro (fun c1 => ?_) (fun c1 => ?_)
  · refine And.intro (Or.inl rfl) ⟨?_, rfl⟩
    rw [decide_eq_false (Int32.not_le.mpr c1)]; rfl
  · refine And.intro (Or.inr rfl) ⟨?_, rfl⟩
    rw [decide_eq_true (Int32.not_lt.mp c1)]; rfl

theorem MI.ob {σ0 σ : rv_S} {y : Nat} {s : Md} (h : MI σ0 σ y (md y s)) : σ.2 y = some (.inl (k_Model, mdf y s)) := h.at 0 rfl
theorem MI.p0 {G : rv_G} {M : rv_M} {mc ms : Nat} {Rt : Option Value → rv_S → Prop} {stops : List Nat} {K : Nat → rv_L → List Value → rv_S → Nat → Nat → Prop} {k pc : Nat} {ls : rv_L} {st : List Value} {ce sl : Nat} {σ0 σ : rv_S} {y : Nat} {s : Md} (h : MI σ0 σ y (md y s)) {v : Int32} (next : ∀ σ', MI σ0 σ' y (md y (s.u_nop v)) → rv_bx G M mc ms Rt stops K k pc ls st σ' ce sl) : ∃ fs : List Value, σ.2 y = some (.inl (k_Model, fs)) ∧ rv_fit (rv_ty k_Model 0) (.int v) ∧ rv_bx G M mc ms Rt stops K k pc ls st (σ.1, rv_up σ.2 y (.inl (k_Model, fs.set 0 (.int v)))) ce sl := h.put rfl trivial next
theorem MI.l1 {G : rv_G} {M : rv_M} {mc ms : Nat} {Rt : Option Value → rv_S → Prop} {stops : List Nat} {K : Nat → rv_L → List Value → rv_S → Nat → Nat → Prop} {k pc : Nat} {ls : rv_L} {st : List Value} {ce sl : Nat} {σ0 σ : rv_S} {y : Nat} {s : Md} (h : MI σ0 σ y (md y s)) {vi : Int32} {w : Nat} (ei : vi = nI w) (hw : w < 5) (next : rv_bx G M mc ms Rt stops K k pc ls (.int (s.oKind w) :: st) σ ce sl) : ∃ (n : Nat) (f : Nat → Int32), (σ.2 (y + 1) = some (rv_aI n f) ∨ σ.2 (y + 1) = some (rv_aT n f)) ∧ vp_in vi n ∧ rv_bx G M mc ms Rt stops K k pc ls (.int (f vi.toNatClampNeg) :: st) σ ce sl := h.ld 1 rfl ei hw next
theorem MI.s1 {G : rv_G} {M : rv_M} {mc ms : Nat} {Rt : Option Value → rv_S → Prop} {stops : List Nat} {K : Nat → rv_L → List Value → rv_S → Nat → Nat → Prop} {k pc : Nat} {ls : rv_L} {st : List Value} {ce sl : Nat} {σ0 σ : rv_S} {y : Nat} {s : Md} (h : MI σ0 σ y (md y s)) {vi : Int32} {w : Nat} (ei : vi = nI w) (hw : w < 5) {v : Int32} (next : ∀ σ', MI σ0 σ' y (md y (s.u_oKind (upd s.oKind w v))) → rv_bx G M mc ms Rt stops K k pc ls st σ' ce sl) : ∃ (n : Nat) (f : Nat → Int32), σ.2 (y + 1) = some (rv_aI n f) ∧ vp_in vi n ∧ rv_bx G M mc ms Rt stops K k pc ls st (σ.1, rv_up σ.2 (y + 1) (rv_aI n (upd f vi.toNatClampNeg v))) ce sl := h.st 1 rfl ei hw next
theorem MI.l2 {G : rv_G} {M : rv_M} {mc ms : Nat} {Rt : Option Value → rv_S → Prop} {stops : List Nat} {K : Nat → rv_L → List Value → rv_S → Nat → Nat → Prop} {k pc : Nat} {ls : rv_L} {st : List Value} {ce sl : Nat} {σ0 σ : rv_S} {y : Nat} {s : Md} (h : MI σ0 σ y (md y s)) {vi : Int32} {w : Nat} (ei : vi = nI w) (hw : w < 5) (next : rv_bx G M mc ms Rt stops K k pc ls (.int (s.oSize w) :: st) σ ce sl) : ∃ (n : Nat) (f : Nat → Int32), (σ.2 (y + 2) = some (rv_aI n f) ∨ σ.2 (y + 2) = some (rv_aT n f)) ∧ vp_in vi n ∧ rv_bx G M mc ms Rt stops K k pc ls (.int (f vi.toNatClampNeg) :: st) σ ce sl := h.ld 2 rfl ei hw next
theorem MI.s2 {G : rv_G} {M : rv_M} {mc ms : Nat} {Rt : Option Value → rv_S → Prop} {stops : List Nat} {K : Nat → rv_L → List Value → rv_S → Nat → Nat → Prop} {k pc : Nat} {ls : rv_L} {st : List Value} {ce sl : Nat} {σ0 σ : rv_S} {y : Nat} {s : Md} (h : MI σ0 σ y (md y s)) {vi : Int32} {w : Nat} (ei : vi = nI w) (hw : w < 5) {v : Int32} (next : ∀ σ', MI σ0 σ' y (md y (s.u_oSize (upd s.oSize w v))) → rv_bx G M mc ms Rt stops K k pc ls st σ' ce sl) : ∃ (n : Nat) (f : Nat → Int32), σ.2 (y + 2) = some (rv_aI n f) ∧ vp_in vi n ∧ rv_bx G M mc ms Rt stops K k pc ls st (σ.1, rv_up σ.2 (y + 2) (rv_aI n (upd f vi.toNatClampNeg v))) ce sl := h.st 2 rfl ei hw next
theorem MI.l3 {G : rv_G} {M : rv_M} {mc ms : Nat} {Rt : Option Value → rv_S → Prop} {stops : List Nat} {K : Nat → rv_L → List Value → rv_S → Nat → Nat → Prop} {k pc : Nat} {ls : rv_L} {st : List Value} {ce sl : Nat} {σ0 σ : rv_S} {y : Nat} {s : Md} (h : MI σ0 σ y (md y s)) {vi : Int32} {w : Nat} (ei : vi = nI w) (hw : w < 5) (next : rv_bx G M mc ms Rt stops K k pc ls (.int (s.oStep w) :: st) σ ce sl) : ∃ (n : Nat) (f : Nat → Int32), (σ.2 (y + 3) = some (rv_aI n f) ∨ σ.2 (y + 3) = some (rv_aT n f)) ∧ vp_in vi n ∧ rv_bx G M mc ms Rt stops K k pc ls (.int (f vi.toNatClampNeg) :: st) σ ce sl := h.ld 3 rfl ei hw next
theorem MI.s3 {G : rv_G} {M : rv_M} {mc ms : Nat} {Rt : Option Value → rv_S → Prop} {stops : List Nat} {K : Nat → rv_L → List Value → rv_S → Nat → Nat → Prop} {k pc : Nat} {ls : rv_L} {st : List Value} {ce sl : Nat} {σ0 σ : rv_S} {y : Nat} {s : Md} (h : MI σ0 σ y (md y s)) {vi : Int32} {w : Nat} (ei : vi = nI w) (hw : w < 5) {v : Int32} (next : ∀ σ', MI σ0 σ' y (md y (s.u_oStep (upd s.oStep w v))) → rv_bx G M mc ms Rt stops K k pc ls st σ' ce sl) : ∃ (n : Nat) (f : Nat → Int32), σ.2 (y + 3) = some (rv_aI n f) ∧ vp_in vi n ∧ rv_bx G M mc ms Rt stops K k pc ls st (σ.1, rv_up σ.2 (y + 3) (rv_aI n (upd f vi.toNatClampNeg v))) ce sl := h.st 3 rfl ei hw next
theorem MI.l4 {G : rv_G} {M : rv_M} {mc ms : Nat} {Rt : Option Value → rv_S → Prop} {stops : List Nat} {K : Nat → rv_L → List Value → rv_S → Nat → Nat → Prop} {k pc : Nat} {ls : rv_L} {st : List Value} {ce sl : Nat} {σ0 σ : rv_S} {y : Nat} {s : Md} (h : MI σ0 σ y (md y s)) {vi : Int32} {w : Nat} (ei : vi = nI w) (hw : w < 5) (next : rv_bx G M mc ms Rt stops K k pc ls (.int (s.oLt w) :: st) σ ce sl) : ∃ (n : Nat) (f : Nat → Int32), (σ.2 (y + 4) = some (rv_aI n f) ∨ σ.2 (y + 4) = some (rv_aT n f)) ∧ vp_in vi n ∧ rv_bx G M mc ms Rt stops K k pc ls (.int (f vi.toNatClampNeg) :: st) σ ce sl := h.ld 4 rfl ei hw next
theorem MI.s4 {G : rv_G} {M : rv_M} {mc ms : Nat} {Rt : Option Value → rv_S → Prop} {stops : List Nat} {K : Nat → rv_L → List Value → rv_S → Nat → Nat → Prop} {k pc : Nat} {ls : rv_L} {st : List Value} {ce sl : Nat} {σ0 σ : rv_S} {y : Nat} {s : Md} (h : MI σ0 σ y (md y s)) {vi : Int32} {w : Nat} (ei : vi = nI w) (hw : w < 5) {v : Int32} (next : ∀ σ', MI σ0 σ' y (md y (s.u_oLt (upd s.oLt w v))) → rv_bx G M mc ms Rt stops K k pc ls st σ' ce sl) : ∃ (n : Nat) (f : Nat → Int32), σ.2 (y + 4) = some (rv_aI n f) ∧ vp_in vi n ∧ rv_bx G M mc ms Rt stops K k pc ls st (σ.1, rv_up σ.2 (y + 4) (rv_aI n (upd f vi.toNatClampNeg v))) ce sl := h.st 4 rfl ei hw next
theorem MI.l5 {G : rv_G} {M : rv_M} {mc ms : Nat} {Rt : Option Value → rv_S → Prop} {stops : List Nat} {K : Nat → rv_L → List Value → rv_S → Nat → Nat → Prop} {k pc : Nat} {ls : rv_L} {st : List Value} {ce sl : Nat} {σ0 σ : rv_S} {y : Nat} {s : Md} (h : MI σ0 σ y (md y s)) {vi : Int32} {w : Nat} (ei : vi = nI w) (hw : w < 5) (next : rv_bx G M mc ms Rt stops K k pc ls (.int (s.oRule w) :: st) σ ce sl) : ∃ (n : Nat) (f : Nat → Int32), (σ.2 (y + 5) = some (rv_aI n f) ∨ σ.2 (y + 5) = some (rv_aT n f)) ∧ vp_in vi n ∧ rv_bx G M mc ms Rt stops K k pc ls (.int (f vi.toNatClampNeg) :: st) σ ce sl := h.ld 5 rfl ei hw next
theorem MI.s5 {G : rv_G} {M : rv_M} {mc ms : Nat} {Rt : Option Value → rv_S → Prop} {stops : List Nat} {K : Nat → rv_L → List Value → rv_S → Nat → Nat → Prop} {k pc : Nat} {ls : rv_L} {st : List Value} {ce sl : Nat} {σ0 σ : rv_S} {y : Nat} {s : Md} (h : MI σ0 σ y (md y s)) {vi : Int32} {w : Nat} (ei : vi = nI w) (hw : w < 5) {v : Int32} (next : ∀ σ', MI σ0 σ' y (md y (s.u_oRule (upd s.oRule w v))) → rv_bx G M mc ms Rt stops K k pc ls st σ' ce sl) : ∃ (n : Nat) (f : Nat → Int32), σ.2 (y + 5) = some (rv_aI n f) ∧ vp_in vi n ∧ rv_bx G M mc ms Rt stops K k pc ls st (σ.1, rv_up σ.2 (y + 5) (rv_aI n (upd f vi.toNatClampNeg v))) ce sl := h.st 5 rfl ei hw next
theorem MI.l6 {G : rv_G} {M : rv_M} {mc ms : Nat} {Rt : Option Value → rv_S → Prop} {stops : List Nat} {K : Nat → rv_L → List Value → rv_S → Nat → Nat → Prop} {k pc : Nat} {ls : rv_L} {st : List Value} {ce sl : Nat} {σ0 σ : rv_S} {y : Nat} {s : Md} (h : MI σ0 σ y (md y s)) {vi : Int32} {w : Nat} (ei : vi = nI w) (hw : w < 5) (next : rv_bx G M mc ms Rt stops K k pc ls (.int (s.oMark w) :: st) σ ce sl) : ∃ (n : Nat) (f : Nat → Int32), (σ.2 (y + 6) = some (rv_aI n f) ∨ σ.2 (y + 6) = some (rv_aT n f)) ∧ vp_in vi n ∧ rv_bx G M mc ms Rt stops K k pc ls (.int (f vi.toNatClampNeg) :: st) σ ce sl := h.ld 6 rfl ei hw next
theorem MI.s6 {G : rv_G} {M : rv_M} {mc ms : Nat} {Rt : Option Value → rv_S → Prop} {stops : List Nat} {K : Nat → rv_L → List Value → rv_S → Nat → Nat → Prop} {k pc : Nat} {ls : rv_L} {st : List Value} {ce sl : Nat} {σ0 σ : rv_S} {y : Nat} {s : Md} (h : MI σ0 σ y (md y s)) {vi : Int32} {w : Nat} (ei : vi = nI w) (hw : w < 5) {v : Int32} (next : ∀ σ', MI σ0 σ' y (md y (s.u_oMark (upd s.oMark w v))) → rv_bx G M mc ms Rt stops K k pc ls st σ' ce sl) : ∃ (n : Nat) (f : Nat → Int32), σ.2 (y + 6) = some (rv_aI n f) ∧ vp_in vi n ∧ rv_bx G M mc ms Rt stops K k pc ls st (σ.1, rv_up σ.2 (y + 6) (rv_aI n (upd f vi.toNatClampNeg v))) ce sl := h.st 6 rfl ei hw next
theorem MI.p7 {G : rv_G} {M : rv_M} {mc ms : Nat} {Rt : Option Value → rv_S → Prop} {stops : List Nat} {K : Nat → rv_L → List Value → rv_S → Nat → Nat → Prop} {k pc : Nat} {ls : rv_L} {st : List Value} {ce sl : Nat} {σ0 σ : rv_S} {y : Nat} {s : Md} (h : MI σ0 σ y (md y s)) {v : Int32} (next : ∀ σ', MI σ0 σ' y (md y (s.u_nsr v)) → rv_bx G M mc ms Rt stops K k pc ls st σ' ce sl) : ∃ fs : List Value, σ.2 y = some (.inl (k_Model, fs)) ∧ rv_fit (rv_ty k_Model 7) (.int v) ∧ rv_bx G M mc ms Rt stops K k pc ls st (σ.1, rv_up σ.2 y (.inl (k_Model, fs.set 7 (.int v)))) ce sl := h.put rfl trivial next
theorem MI.l7 {G : rv_G} {M : rv_M} {mc ms : Nat} {Rt : Option Value → rv_S → Prop} {stops : List Nat} {K : Nat → rv_L → List Value → rv_S → Nat → Nat → Prop} {k pc : Nat} {ls : rv_L} {st : List Value} {ce sl : Nat} {σ0 σ : rv_S} {y : Nat} {s : Md} (h : MI σ0 σ y (md y s)) {vi : Int32} {w : Nat} (ei : vi = nI w) (hw : w < 10) (next : rv_bx G M mc ms Rt stops K k pc ls (.int (s.sOp w) :: st) σ ce sl) : ∃ (n : Nat) (f : Nat → Int32), (σ.2 (y + 7) = some (rv_aI n f) ∨ σ.2 (y + 7) = some (rv_aT n f)) ∧ vp_in vi n ∧ rv_bx G M mc ms Rt stops K k pc ls (.int (f vi.toNatClampNeg) :: st) σ ce sl := h.ld 7 rfl ei hw next
theorem MI.s7 {G : rv_G} {M : rv_M} {mc ms : Nat} {Rt : Option Value → rv_S → Prop} {stops : List Nat} {K : Nat → rv_L → List Value → rv_S → Nat → Nat → Prop} {k pc : Nat} {ls : rv_L} {st : List Value} {ce sl : Nat} {σ0 σ : rv_S} {y : Nat} {s : Md} (h : MI σ0 σ y (md y s)) {vi : Int32} {w : Nat} (ei : vi = nI w) (hw : w < 10) {v : Int32} (next : ∀ σ', MI σ0 σ' y (md y (s.u_sOp (upd s.sOp w v))) → rv_bx G M mc ms Rt stops K k pc ls st σ' ce sl) : ∃ (n : Nat) (f : Nat → Int32), σ.2 (y + 7) = some (rv_aI n f) ∧ vp_in vi n ∧ rv_bx G M mc ms Rt stops K k pc ls st (σ.1, rv_up σ.2 (y + 7) (rv_aI n (upd f vi.toNatClampNeg v))) ce sl := h.st 7 rfl ei hw next
theorem MI.l8 {G : rv_G} {M : rv_M} {mc ms : Nat} {Rt : Option Value → rv_S → Prop} {stops : List Nat} {K : Nat → rv_L → List Value → rv_S → Nat → Nat → Prop} {k pc : Nat} {ls : rv_L} {st : List Value} {ce sl : Nat} {σ0 σ : rv_S} {y : Nat} {s : Md} (h : MI σ0 σ y (md y s)) {vi : Int32} {w : Nat} (ei : vi = nI w) (hw : w < 10) (next : rv_bx G M mc ms Rt stops K k pc ls (.int (s.sProm w) :: st) σ ce sl) : ∃ (n : Nat) (f : Nat → Int32), (σ.2 (y + 8) = some (rv_aI n f) ∨ σ.2 (y + 8) = some (rv_aT n f)) ∧ vp_in vi n ∧ rv_bx G M mc ms Rt stops K k pc ls (.int (f vi.toNatClampNeg) :: st) σ ce sl := h.ld 8 rfl ei hw next
theorem MI.s8 {G : rv_G} {M : rv_M} {mc ms : Nat} {Rt : Option Value → rv_S → Prop} {stops : List Nat} {K : Nat → rv_L → List Value → rv_S → Nat → Nat → Prop} {k pc : Nat} {ls : rv_L} {st : List Value} {ce sl : Nat} {σ0 σ : rv_S} {y : Nat} {s : Md} (h : MI σ0 σ y (md y s)) {vi : Int32} {w : Nat} (ei : vi = nI w) (hw : w < 10) {v : Int32} (next : ∀ σ', MI σ0 σ' y (md y (s.u_sProm (upd s.sProm w v))) → rv_bx G M mc ms Rt stops K k pc ls st σ' ce sl) : ∃ (n : Nat) (f : Nat → Int32), σ.2 (y + 8) = some (rv_aI n f) ∧ vp_in vi n ∧ rv_bx G M mc ms Rt stops K k pc ls st (σ.1, rv_up σ.2 (y + 8) (rv_aI n (upd f vi.toNatClampNeg v))) ce sl := h.st 8 rfl ei hw next
theorem MI.l9 {G : rv_G} {M : rv_M} {mc ms : Nat} {Rt : Option Value → rv_S → Prop} {stops : List Nat} {K : Nat → rv_L → List Value → rv_S → Nat → Nat → Prop} {k pc : Nat} {ls : rv_L} {st : List Value} {ce sl : Nat} {σ0 σ : rv_S} {y : Nat} {s : Md} (h : MI σ0 σ y (md y s)) {vi : Int32} {w : Nat} (ei : vi = nI w) (hw : w < 10) (next : rv_bx G M mc ms Rt stops K k pc ls (.int (rv_b (s.sEnd w)) :: st) σ ce sl) : ∃ (n : Nat) (f : Nat → Bool), σ.2 (y + 9) = some (rv_aZ n f) ∧ vp_in vi n ∧ rv_bx G M mc ms Rt stops K k pc ls (.int (rv_b (f vi.toNatClampNeg)) :: st) σ ce sl := h.ldZ 9 rfl ei hw next
theorem MI.s9 {G : rv_G} {M : rv_M} {mc ms : Nat} {Rt : Option Value → rv_S → Prop} {stops : List Nat} {K : Nat → rv_L → List Value → rv_S → Nat → Nat → Prop} {k pc : Nat} {ls : rv_L} {st : List Value} {ce sl : Nat} {σ0 σ : rv_S} {y : Nat} {s : Md} (h : MI σ0 σ y (md y s)) {vi : Int32} {w : Nat} (ei : vi = nI w) (hw : w < 10) (b : Bool) {v : Int32} (hv : v = rv_b b) (next : ∀ σ', MI σ0 σ' y (md y (s.u_sEnd (va_up s.sEnd w b))) → rv_bx G M mc ms Rt stops K k pc ls st σ' ce sl) : ∃ (n : Nat) (f : Nat → Bool) (b : Bool), σ.2 (y + 9) = some (rv_aZ n f) ∧ v = rv_b b ∧ vp_in vi n ∧ rv_bx G M mc ms Rt stops K k pc ls st (σ.1, rv_up σ.2 (y + 9) (rv_aZ n (va_up f vi.toNatClampNeg b))) ce sl := h.stZ 9 rfl ei hw b hv next
theorem MI.l10 {G : rv_G} {M : rv_M} {mc ms : Nat} {Rt : Option Value → rv_S → Prop} {stops : List Nat} {K : Nat → rv_L → List Value → rv_S → Nat → Nat → Prop} {k pc : Nat} {ls : rv_L} {st : List Value} {ce sl : Nat} {σ0 σ : rv_S} {y : Nat} {s : Md} (h : MI σ0 σ y (md y s)) {vi : Int32} {w : Nat} (ei : vi = nI w) (hw : w < 10) (next : rv_bx G M mc ms Rt stops K k pc ls (.int (rv_b (s.sStop w)) :: st) σ ce sl) : ∃ (n : Nat) (f : Nat → Bool), σ.2 (y + 10) = some (rv_aZ n f) ∧ vp_in vi n ∧ rv_bx G M mc ms Rt stops K k pc ls (.int (rv_b (f vi.toNatClampNeg)) :: st) σ ce sl := h.ldZ 10 rfl ei hw next
theorem MI.s10 {G : rv_G} {M : rv_M} {mc ms : Nat} {Rt : Option Value → rv_S → Prop} {stops : List Nat} {K : Nat → rv_L → List Value → rv_S → Nat → Nat → Prop} {k pc : Nat} {ls : rv_L} {st : List Value} {ce sl : Nat} {σ0 σ : rv_S} {y : Nat} {s : Md} (h : MI σ0 σ y (md y s)) {vi : Int32} {w : Nat} (ei : vi = nI w) (hw : w < 10) (b : Bool) {v : Int32} (hv : v = rv_b b) (next : ∀ σ', MI σ0 σ' y (md y (s.u_sStop (va_up s.sStop w b))) → rv_bx G M mc ms Rt stops K k pc ls st σ' ce sl) : ∃ (n : Nat) (f : Nat → Bool) (b : Bool), σ.2 (y + 10) = some (rv_aZ n f) ∧ v = rv_b b ∧ vp_in vi n ∧ rv_bx G M mc ms Rt stops K k pc ls st (σ.1, rv_up σ.2 (y + 10) (rv_aZ n (va_up f vi.toNatClampNeg b))) ce sl := h.stZ 10 rfl ei hw b hv next
theorem MI.l11 {G : rv_G} {M : rv_M} {mc ms : Nat} {Rt : Option Value → rv_S → Prop} {stops : List Nat} {K : Nat → rv_L → List Value → rv_S → Nat → Nat → Prop} {k pc : Nat} {ls : rv_L} {st : List Value} {ce sl : Nat} {σ0 σ : rv_S} {y : Nat} {s : Md} (h : MI σ0 σ y (md y s)) {vi : Int32} {w : Nat} (ei : vi = nI w) (hw : w < 10) (next : rv_bx G M mc ms Rt stops K k pc ls (.int (s.sUsed w) :: st) σ ce sl) : ∃ (n : Nat) (f : Nat → Int32), (σ.2 (y + 11) = some (rv_aI n f) ∨ σ.2 (y + 11) = some (rv_aT n f)) ∧ vp_in vi n ∧ rv_bx G M mc ms Rt stops K k pc ls (.int (f vi.toNatClampNeg) :: st) σ ce sl := h.ld 11 rfl ei hw next
theorem MI.s11 {G : rv_G} {M : rv_M} {mc ms : Nat} {Rt : Option Value → rv_S → Prop} {stops : List Nat} {K : Nat → rv_L → List Value → rv_S → Nat → Nat → Prop} {k pc : Nat} {ls : rv_L} {st : List Value} {ce sl : Nat} {σ0 σ : rv_S} {y : Nat} {s : Md} (h : MI σ0 σ y (md y s)) {vi : Int32} {w : Nat} (ei : vi = nI w) (hw : w < 10) {v : Int32} (next : ∀ σ', MI σ0 σ' y (md y (s.u_sUsed (upd s.sUsed w v))) → rv_bx G M mc ms Rt stops K k pc ls st σ' ce sl) : ∃ (n : Nat) (f : Nat → Int32), σ.2 (y + 11) = some (rv_aI n f) ∧ vp_in vi n ∧ rv_bx G M mc ms Rt stops K k pc ls st (σ.1, rv_up σ.2 (y + 11) (rv_aI n (upd f vi.toNatClampNeg v))) ce sl := h.st 11 rfl ei hw next
theorem MI.l12 {G : rv_G} {M : rv_M} {mc ms : Nat} {Rt : Option Value → rv_S → Prop} {stops : List Nat} {K : Nat → rv_L → List Value → rv_S → Nat → Nat → Prop} {k pc : Nat} {ls : rv_L} {st : List Value} {ce sl : Nat} {σ0 σ : rv_S} {y : Nat} {s : Md} (h : MI σ0 σ y (md y s)) {vi : Int32} {w : Nat} (ei : vi = nI w) (hw : w < 10) (next : rv_bx G M mc ms Rt stops K k pc ls (.int (s.sAside w) :: st) σ ce sl) : ∃ (n : Nat) (f : Nat → Int32), (σ.2 (y + 12) = some (rv_aI n f) ∨ σ.2 (y + 12) = some (rv_aT n f)) ∧ vp_in vi n ∧ rv_bx G M mc ms Rt stops K k pc ls (.int (f vi.toNatClampNeg) :: st) σ ce sl := h.ld 12 rfl ei hw next
theorem MI.s12 {G : rv_G} {M : rv_M} {mc ms : Nat} {Rt : Option Value → rv_S → Prop} {stops : List Nat} {K : Nat → rv_L → List Value → rv_S → Nat → Nat → Prop} {k pc : Nat} {ls : rv_L} {st : List Value} {ce sl : Nat} {σ0 σ : rv_S} {y : Nat} {s : Md} (h : MI σ0 σ y (md y s)) {vi : Int32} {w : Nat} (ei : vi = nI w) (hw : w < 10) {v : Int32} (next : ∀ σ', MI σ0 σ' y (md y (s.u_sAside (upd s.sAside w v))) → rv_bx G M mc ms Rt stops K k pc ls st σ' ce sl) : ∃ (n : Nat) (f : Nat → Int32), σ.2 (y + 12) = some (rv_aI n f) ∧ vp_in vi n ∧ rv_bx G M mc ms Rt stops K k pc ls st (σ.1, rv_up σ.2 (y + 12) (rv_aI n (upd f vi.toNatClampNeg v))) ce sl := h.st 12 rfl ei hw next
theorem MI.l13 {G : rv_G} {M : rv_M} {mc ms : Nat} {Rt : Option Value → rv_S → Prop} {stops : List Nat} {K : Nat → rv_L → List Value → rv_S → Nat → Nat → Prop} {k pc : Nat} {ls : rv_L} {st : List Value} {ce sl : Nat} {σ0 σ : rv_S} {y : Nat} {s : Md} (h : MI σ0 σ y (md y s)) {vi : Int32} {w : Nat} (ei : vi = nI w) (hw : w < 10) (next : rv_bx G M mc ms Rt stops K k pc ls (.int (s.sBrok w) :: st) σ ce sl) : ∃ (n : Nat) (f : Nat → Int32), (σ.2 (y + 13) = some (rv_aI n f) ∨ σ.2 (y + 13) = some (rv_aT n f)) ∧ vp_in vi n ∧ rv_bx G M mc ms Rt stops K k pc ls (.int (f vi.toNatClampNeg) :: st) σ ce sl := h.ld 13 rfl ei hw next
theorem MI.s13 {G : rv_G} {M : rv_M} {mc ms : Nat} {Rt : Option Value → rv_S → Prop} {stops : List Nat} {K : Nat → rv_L → List Value → rv_S → Nat → Nat → Prop} {k pc : Nat} {ls : rv_L} {st : List Value} {ce sl : Nat} {σ0 σ : rv_S} {y : Nat} {s : Md} (h : MI σ0 σ y (md y s)) {vi : Int32} {w : Nat} (ei : vi = nI w) (hw : w < 10) {v : Int32} (next : ∀ σ', MI σ0 σ' y (md y (s.u_sBrok (upd s.sBrok w v))) → rv_bx G M mc ms Rt stops K k pc ls st σ' ce sl) : ∃ (n : Nat) (f : Nat → Int32), σ.2 (y + 13) = some (rv_aI n f) ∧ vp_in vi n ∧ rv_bx G M mc ms Rt stops K k pc ls st (σ.1, rv_up σ.2 (y + 13) (rv_aI n (upd f vi.toNatClampNeg v))) ce sl := h.st 13 rfl ei hw next
theorem MI.l14 {G : rv_G} {M : rv_M} {mc ms : Nat} {Rt : Option Value → rv_S → Prop} {stops : List Nat} {K : Nat → rv_L → List Value → rv_S → Nat → Nat → Prop} {k pc : Nat} {ls : rv_L} {st : List Value} {ce sl : Nat} {σ0 σ : rv_S} {y : Nat} {s : Md} (h : MI σ0 σ y (md y s)) {vi : Int32} {w : Nat} (ei : vi = nI w) (hw : w < 10) (next : rv_bx G M mc ms Rt stops K k pc ls (.int (s.sFirst w) :: st) σ ce sl) : ∃ (n : Nat) (f : Nat → Int32), (σ.2 (y + 14) = some (rv_aI n f) ∨ σ.2 (y + 14) = some (rv_aT n f)) ∧ vp_in vi n ∧ rv_bx G M mc ms Rt stops K k pc ls (.int (f vi.toNatClampNeg) :: st) σ ce sl := h.ld 14 rfl ei hw next
theorem MI.s14 {G : rv_G} {M : rv_M} {mc ms : Nat} {Rt : Option Value → rv_S → Prop} {stops : List Nat} {K : Nat → rv_L → List Value → rv_S → Nat → Nat → Prop} {k pc : Nat} {ls : rv_L} {st : List Value} {ce sl : Nat} {σ0 σ : rv_S} {y : Nat} {s : Md} (h : MI σ0 σ y (md y s)) {vi : Int32} {w : Nat} (ei : vi = nI w) (hw : w < 10) {v : Int32} (next : ∀ σ', MI σ0 σ' y (md y (s.u_sFirst (upd s.sFirst w v))) → rv_bx G M mc ms Rt stops K k pc ls st σ' ce sl) : ∃ (n : Nat) (f : Nat → Int32), σ.2 (y + 14) = some (rv_aI n f) ∧ vp_in vi n ∧ rv_bx G M mc ms Rt stops K k pc ls st (σ.1, rv_up σ.2 (y + 14) (rv_aI n (upd f vi.toNatClampNeg v))) ce sl := h.st 14 rfl ei hw next
theorem MI.p16 {G : rv_G} {M : rv_M} {mc ms : Nat} {Rt : Option Value → rv_S → Prop} {stops : List Nat} {K : Nat → rv_L → List Value → rv_S → Nat → Nat → Prop} {k pc : Nat} {ls : rv_L} {st : List Value} {ce sl : Nat} {σ0 σ : rv_S} {y : Nat} {s : Md} (h : MI σ0 σ y (md y s)) {v : Int32} (next : ∀ σ', MI σ0 σ' y (md y (s.u_nrow v)) → rv_bx G M mc ms Rt stops K k pc ls st σ' ce sl) : ∃ fs : List Value, σ.2 y = some (.inl (k_Model, fs)) ∧ rv_fit (rv_ty k_Model 16) (.int v) ∧ rv_bx G M mc ms Rt stops K k pc ls st (σ.1, rv_up σ.2 y (.inl (k_Model, fs.set 16 (.int v)))) ce sl := h.put rfl trivial next
theorem MI.l15 {G : rv_G} {M : rv_M} {mc ms : Nat} {Rt : Option Value → rv_S → Prop} {stops : List Nat} {K : Nat → rv_L → List Value → rv_S → Nat → Nat → Prop} {k pc : Nat} {ls : rv_L} {st : List Value} {ce sl : Nat} {σ0 σ : rv_S} {y : Nat} {s : Md} (h : MI σ0 σ y (md y s)) {vi : Int32} {w : Nat} (ei : vi = nI w) (hw : w < 300) (next : rv_bx G M mc ms Rt stops K k pc ls (.int (s.rSrc w) :: st) σ ce sl) : ∃ (n : Nat) (f : Nat → Int32), (σ.2 (y + 15) = some (rv_aI n f) ∨ σ.2 (y + 15) = some (rv_aT n f)) ∧ vp_in vi n ∧ rv_bx G M mc ms Rt stops K k pc ls (.int (f vi.toNatClampNeg) :: st) σ ce sl := h.ld 15 rfl ei hw next
theorem MI.s15 {G : rv_G} {M : rv_M} {mc ms : Nat} {Rt : Option Value → rv_S → Prop} {stops : List Nat} {K : Nat → rv_L → List Value → rv_S → Nat → Nat → Prop} {k pc : Nat} {ls : rv_L} {st : List Value} {ce sl : Nat} {σ0 σ : rv_S} {y : Nat} {s : Md} (h : MI σ0 σ y (md y s)) {vi : Int32} {w : Nat} (ei : vi = nI w) (hw : w < 300) {v : Int32} (next : ∀ σ', MI σ0 σ' y (md y (s.u_rSrc (upd s.rSrc w v))) → rv_bx G M mc ms Rt stops K k pc ls st σ' ce sl) : ∃ (n : Nat) (f : Nat → Int32), σ.2 (y + 15) = some (rv_aI n f) ∧ vp_in vi n ∧ rv_bx G M mc ms Rt stops K k pc ls st (σ.1, rv_up σ.2 (y + 15) (rv_aI n (upd f vi.toNatClampNeg v))) ce sl := h.st 15 rfl ei hw next
theorem MI.l16 {G : rv_G} {M : rv_M} {mc ms : Nat} {Rt : Option Value → rv_S → Prop} {stops : List Nat} {K : Nat → rv_L → List Value → rv_S → Nat → Nat → Prop} {k pc : Nat} {ls : rv_L} {st : List Value} {ce sl : Nat} {σ0 σ : rv_S} {y : Nat} {s : Md} (h : MI σ0 σ y (md y s)) {vi : Int32} {w : Nat} (ei : vi = nI w) (hw : w < 300) (next : rv_bx G M mc ms Rt stops K k pc ls (.int (s.rKey w) :: st) σ ce sl) : ∃ (n : Nat) (f : Nat → Int32), (σ.2 (y + 16) = some (rv_aI n f) ∨ σ.2 (y + 16) = some (rv_aT n f)) ∧ vp_in vi n ∧ rv_bx G M mc ms Rt stops K k pc ls (.int (f vi.toNatClampNeg) :: st) σ ce sl := h.ld 16 rfl ei hw next
theorem MI.s16 {G : rv_G} {M : rv_M} {mc ms : Nat} {Rt : Option Value → rv_S → Prop} {stops : List Nat} {K : Nat → rv_L → List Value → rv_S → Nat → Nat → Prop} {k pc : Nat} {ls : rv_L} {st : List Value} {ce sl : Nat} {σ0 σ : rv_S} {y : Nat} {s : Md} (h : MI σ0 σ y (md y s)) {vi : Int32} {w : Nat} (ei : vi = nI w) (hw : w < 300) {v : Int32} (next : ∀ σ', MI σ0 σ' y (md y (s.u_rKey (upd s.rKey w v))) → rv_bx G M mc ms Rt stops K k pc ls st σ' ce sl) : ∃ (n : Nat) (f : Nat → Int32), σ.2 (y + 16) = some (rv_aI n f) ∧ vp_in vi n ∧ rv_bx G M mc ms Rt stops K k pc ls st (σ.1, rv_up σ.2 (y + 16) (rv_aI n (upd f vi.toNatClampNeg v))) ce sl := h.st 16 rfl ei hw next
theorem MI.l17 {G : rv_G} {M : rv_M} {mc ms : Nat} {Rt : Option Value → rv_S → Prop} {stops : List Nat} {K : Nat → rv_L → List Value → rv_S → Nat → Nat → Prop} {k pc : Nat} {ls : rv_L} {st : List Value} {ce sl : Nat} {σ0 σ : rv_S} {y : Nat} {s : Md} (h : MI σ0 σ y (md y s)) {vi : Int32} {w : Nat} (ei : vi = nI w) (hw : w < 300) (next : rv_bx G M mc ms Rt stops K k pc ls (.int (s.rTime w) :: st) σ ce sl) : ∃ (n : Nat) (f : Nat → Int32), (σ.2 (y + 17) = some (rv_aI n f) ∨ σ.2 (y + 17) = some (rv_aT n f)) ∧ vp_in vi n ∧ rv_bx G M mc ms Rt stops K k pc ls (.int (f vi.toNatClampNeg) :: st) σ ce sl := h.ld 17 rfl ei hw next
theorem MI.s17 {G : rv_G} {M : rv_M} {mc ms : Nat} {Rt : Option Value → rv_S → Prop} {stops : List Nat} {K : Nat → rv_L → List Value → rv_S → Nat → Nat → Prop} {k pc : Nat} {ls : rv_L} {st : List Value} {ce sl : Nat} {σ0 σ : rv_S} {y : Nat} {s : Md} (h : MI σ0 σ y (md y s)) {vi : Int32} {w : Nat} (ei : vi = nI w) (hw : w < 300) {v : Int32} (next : ∀ σ', MI σ0 σ' y (md y (s.u_rTime (upd s.rTime w v))) → rv_bx G M mc ms Rt stops K k pc ls st σ' ce sl) : ∃ (n : Nat) (f : Nat → Int32), σ.2 (y + 17) = some (rv_aI n f) ∧ vp_in vi n ∧ rv_bx G M mc ms Rt stops K k pc ls st (σ.1, rv_up σ.2 (y + 17) (rv_aI n (upd f vi.toNatClampNeg v))) ce sl := h.st 17 rfl ei hw next
theorem MI.l18 {G : rv_G} {M : rv_M} {mc ms : Nat} {Rt : Option Value → rv_S → Prop} {stops : List Nat} {K : Nat → rv_L → List Value → rv_S → Nat → Nat → Prop} {k pc : Nat} {ls : rv_L} {st : List Value} {ce sl : Nat} {σ0 σ : rv_S} {y : Nat} {s : Md} (h : MI σ0 σ y (md y s)) {vi : Int32} {w : Nat} (ei : vi = nI w) (hw : w < 300) (next : rv_bx G M mc ms Rt stops K k pc ls (.int (s.rV w) :: st) σ ce sl) : ∃ (n : Nat) (f : Nat → Int32), (σ.2 (y + 18) = some (rv_aI n f) ∨ σ.2 (y + 18) = some (rv_aT n f)) ∧ vp_in vi n ∧ rv_bx G M mc ms Rt stops K k pc ls (.int (f vi.toNatClampNeg) :: st) σ ce sl := h.ld 18 rfl ei hw next
theorem MI.s18 {G : rv_G} {M : rv_M} {mc ms : Nat} {Rt : Option Value → rv_S → Prop} {stops : List Nat} {K : Nat → rv_L → List Value → rv_S → Nat → Nat → Prop} {k pc : Nat} {ls : rv_L} {st : List Value} {ce sl : Nat} {σ0 σ : rv_S} {y : Nat} {s : Md} (h : MI σ0 σ y (md y s)) {vi : Int32} {w : Nat} (ei : vi = nI w) (hw : w < 300) {v : Int32} (next : ∀ σ', MI σ0 σ' y (md y (s.u_rV (upd s.rV w v))) → rv_bx G M mc ms Rt stops K k pc ls st σ' ce sl) : ∃ (n : Nat) (f : Nat → Int32), σ.2 (y + 18) = some (rv_aI n f) ∧ vp_in vi n ∧ rv_bx G M mc ms Rt stops K k pc ls st (σ.1, rv_up σ.2 (y + 18) (rv_aI n (upd f vi.toNatClampNeg v))) ce sl := h.st 18 rfl ei hw next
theorem MI.l19 {G : rv_G} {M : rv_M} {mc ms : Nat} {Rt : Option Value → rv_S → Prop} {stops : List Nat} {K : Nat → rv_L → List Value → rv_S → Nat → Nat → Prop} {k pc : Nat} {ls : rv_L} {st : List Value} {ce sl : Nat} {σ0 σ : rv_S} {y : Nat} {s : Md} (h : MI σ0 σ y (md y s)) {vi : Int32} {w : Nat} (ei : vi = nI w) (hw : w < 300) (next : rv_bx G M mc ms Rt stops K k pc ls (.int (rv_b (s.rUsed w)) :: st) σ ce sl) : ∃ (n : Nat) (f : Nat → Bool), σ.2 (y + 19) = some (rv_aZ n f) ∧ vp_in vi n ∧ rv_bx G M mc ms Rt stops K k pc ls (.int (rv_b (f vi.toNatClampNeg)) :: st) σ ce sl := h.ldZ 19 rfl ei hw next
theorem MI.s19 {G : rv_G} {M : rv_M} {mc ms : Nat} {Rt : Option Value → rv_S → Prop} {stops : List Nat} {K : Nat → rv_L → List Value → rv_S → Nat → Nat → Prop} {k pc : Nat} {ls : rv_L} {st : List Value} {ce sl : Nat} {σ0 σ : rv_S} {y : Nat} {s : Md} (h : MI σ0 σ y (md y s)) {vi : Int32} {w : Nat} (ei : vi = nI w) (hw : w < 300) (b : Bool) {v : Int32} (hv : v = rv_b b) (next : ∀ σ', MI σ0 σ' y (md y (s.u_rUsed (va_up s.rUsed w b))) → rv_bx G M mc ms Rt stops K k pc ls st σ' ce sl) : ∃ (n : Nat) (f : Nat → Bool) (b : Bool), σ.2 (y + 19) = some (rv_aZ n f) ∧ v = rv_b b ∧ vp_in vi n ∧ rv_bx G M mc ms Rt stops K k pc ls st (σ.1, rv_up σ.2 (y + 19) (rv_aZ n (va_up f vi.toNatClampNeg b))) ce sl := h.stZ 19 rfl ei hw b hv next
theorem MI.p22 {G : rv_G} {M : rv_M} {mc ms : Nat} {Rt : Option Value → rv_S → Prop} {stops : List Nat} {K : Nat → rv_L → List Value → rv_S → Nat → Nat → Prop} {k pc : Nat} {ls : rv_L} {st : List Value} {ce sl : Nat} {σ0 σ : rv_S} {y : Nat} {s : Md} (h : MI σ0 σ y (md y s)) {v : Int32} (next : ∀ σ', MI σ0 σ' y (md y (s.u_nwin v)) → rv_bx G M mc ms Rt stops K k pc ls st σ' ce sl) : ∃ fs : List Value, σ.2 y = some (.inl (k_Model, fs)) ∧ rv_fit (rv_ty k_Model 22) (.int v) ∧ rv_bx G M mc ms Rt stops K k pc ls st (σ.1, rv_up σ.2 y (.inl (k_Model, fs.set 22 (.int v)))) ce sl := h.put rfl trivial next
theorem MI.l20 {G : rv_G} {M : rv_M} {mc ms : Nat} {Rt : Option Value → rv_S → Prop} {stops : List Nat} {K : Nat → rv_L → List Value → rv_S → Nat → Nat → Prop} {k pc : Nat} {ls : rv_L} {st : List Value} {ce sl : Nat} {σ0 σ : rv_S} {y : Nat} {s : Md} (h : MI σ0 σ y (md y s)) {vi : Int32} {w : Nat} (ei : vi = nI w) (hw : w < 120) (next : rv_bx G M mc ms Rt stops K k pc ls (.int (s.wOp w) :: st) σ ce sl) : ∃ (n : Nat) (f : Nat → Int32), (σ.2 (y + 20) = some (rv_aI n f) ∨ σ.2 (y + 20) = some (rv_aT n f)) ∧ vp_in vi n ∧ rv_bx G M mc ms Rt stops K k pc ls (.int (f vi.toNatClampNeg) :: st) σ ce sl := h.ld 20 rfl ei hw next
theorem MI.s20 {G : rv_G} {M : rv_M} {mc ms : Nat} {Rt : Option Value → rv_S → Prop} {stops : List Nat} {K : Nat → rv_L → List Value → rv_S → Nat → Nat → Prop} {k pc : Nat} {ls : rv_L} {st : List Value} {ce sl : Nat} {σ0 σ : rv_S} {y : Nat} {s : Md} (h : MI σ0 σ y (md y s)) {vi : Int32} {w : Nat} (ei : vi = nI w) (hw : w < 120) {v : Int32} (next : ∀ σ', MI σ0 σ' y (md y (s.u_wOp (upd s.wOp w v))) → rv_bx G M mc ms Rt stops K k pc ls st σ' ce sl) : ∃ (n : Nat) (f : Nat → Int32), σ.2 (y + 20) = some (rv_aI n f) ∧ vp_in vi n ∧ rv_bx G M mc ms Rt stops K k pc ls st (σ.1, rv_up σ.2 (y + 20) (rv_aI n (upd f vi.toNatClampNeg v))) ce sl := h.st 20 rfl ei hw next
theorem MI.l21 {G : rv_G} {M : rv_M} {mc ms : Nat} {Rt : Option Value → rv_S → Prop} {stops : List Nat} {K : Nat → rv_L → List Value → rv_S → Nat → Nat → Prop} {k pc : Nat} {ls : rv_L} {st : List Value} {ce sl : Nat} {σ0 σ : rv_S} {y : Nat} {s : Md} (h : MI σ0 σ y (md y s)) {vi : Int32} {w : Nat} (ei : vi = nI w) (hw : w < 120) (next : rv_bx G M mc ms Rt stops K k pc ls (.int (s.wKey w) :: st) σ ce sl) : ∃ (n : Nat) (f : Nat → Int32), (σ.2 (y + 21) = some (rv_aI n f) ∨ σ.2 (y + 21) = some (rv_aT n f)) ∧ vp_in vi n ∧ rv_bx G M mc ms Rt stops K k pc ls (.int (f vi.toNatClampNeg) :: st) σ ce sl := h.ld 21 rfl ei hw next
theorem MI.s21 {G : rv_G} {M : rv_M} {mc ms : Nat} {Rt : Option Value → rv_S → Prop} {stops : List Nat} {K : Nat → rv_L → List Value → rv_S → Nat → Nat → Prop} {k pc : Nat} {ls : rv_L} {st : List Value} {ce sl : Nat} {σ0 σ : rv_S} {y : Nat} {s : Md} (h : MI σ0 σ y (md y s)) {vi : Int32} {w : Nat} (ei : vi = nI w) (hw : w < 120) {v : Int32} (next : ∀ σ', MI σ0 σ' y (md y (s.u_wKey (upd s.wKey w v))) → rv_bx G M mc ms Rt stops K k pc ls st σ' ce sl) : ∃ (n : Nat) (f : Nat → Int32), σ.2 (y + 21) = some (rv_aI n f) ∧ vp_in vi n ∧ rv_bx G M mc ms Rt stops K k pc ls st (σ.1, rv_up σ.2 (y + 21) (rv_aI n (upd f vi.toNatClampNeg v))) ce sl := h.st 21 rfl ei hw next
theorem MI.l22 {G : rv_G} {M : rv_M} {mc ms : Nat} {Rt : Option Value → rv_S → Prop} {stops : List Nat} {K : Nat → rv_L → List Value → rv_S → Nat → Nat → Prop} {k pc : Nat} {ls : rv_L} {st : List Value} {ce sl : Nat} {σ0 σ : rv_S} {y : Nat} {s : Md} (h : MI σ0 σ y (md y s)) {vi : Int32} {w : Nat} (ei : vi = nI w) (hw : w < 120) (next : rv_bx G M mc ms Rt stops K k pc ls (.int (s.wBeg w) :: st) σ ce sl) : ∃ (n : Nat) (f : Nat → Int32), (σ.2 (y + 22) = some (rv_aI n f) ∨ σ.2 (y + 22) = some (rv_aT n f)) ∧ vp_in vi n ∧ rv_bx G M mc ms Rt stops K k pc ls (.int (f vi.toNatClampNeg) :: st) σ ce sl := h.ld 22 rfl ei hw next
theorem MI.s22 {G : rv_G} {M : rv_M} {mc ms : Nat} {Rt : Option Value → rv_S → Prop} {stops : List Nat} {K : Nat → rv_L → List Value → rv_S → Nat → Nat → Prop} {k pc : Nat} {ls : rv_L} {st : List Value} {ce sl : Nat} {σ0 σ : rv_S} {y : Nat} {s : Md} (h : MI σ0 σ y (md y s)) {vi : Int32} {w : Nat} (ei : vi = nI w) (hw : w < 120) {v : Int32} (next : ∀ σ', MI σ0 σ' y (md y (s.u_wBeg (upd s.wBeg w v))) → rv_bx G M mc ms Rt stops K k pc ls st σ' ce sl) : ∃ (n : Nat) (f : Nat → Int32), σ.2 (y + 22) = some (rv_aI n f) ∧ vp_in vi n ∧ rv_bx G M mc ms Rt stops K k pc ls st (σ.1, rv_up σ.2 (y + 22) (rv_aI n (upd f vi.toNatClampNeg v))) ce sl := h.st 22 rfl ei hw next
theorem MI.l23 {G : rv_G} {M : rv_M} {mc ms : Nat} {Rt : Option Value → rv_S → Prop} {stops : List Nat} {K : Nat → rv_L → List Value → rv_S → Nat → Nat → Prop} {k pc : Nat} {ls : rv_L} {st : List Value} {ce sl : Nat} {σ0 σ : rv_S} {y : Nat} {s : Md} (h : MI σ0 σ y (md y s)) {vi : Int32} {w : Nat} (ei : vi = nI w) (hw : w < 120) (next : rv_bx G M mc ms Rt stops K k pc ls (.int (s.wEnd w) :: st) σ ce sl) : ∃ (n : Nat) (f : Nat → Int32), (σ.2 (y + 23) = some (rv_aI n f) ∨ σ.2 (y + 23) = some (rv_aT n f)) ∧ vp_in vi n ∧ rv_bx G M mc ms Rt stops K k pc ls (.int (f vi.toNatClampNeg) :: st) σ ce sl := h.ld 23 rfl ei hw next
theorem MI.s23 {G : rv_G} {M : rv_M} {mc ms : Nat} {Rt : Option Value → rv_S → Prop} {stops : List Nat} {K : Nat → rv_L → List Value → rv_S → Nat → Nat → Prop} {k pc : Nat} {ls : rv_L} {st : List Value} {ce sl : Nat} {σ0 σ : rv_S} {y : Nat} {s : Md} (h : MI σ0 σ y (md y s)) {vi : Int32} {w : Nat} (ei : vi = nI w) (hw : w < 120) {v : Int32} (next : ∀ σ', MI σ0 σ' y (md y (s.u_wEnd (upd s.wEnd w v))) → rv_bx G M mc ms Rt stops K k pc ls st σ' ce sl) : ∃ (n : Nat) (f : Nat → Int32), σ.2 (y + 23) = some (rv_aI n f) ∧ vp_in vi n ∧ rv_bx G M mc ms Rt stops K k pc ls st (σ.1, rv_up σ.2 (y + 23) (rv_aI n (upd f vi.toNatClampNeg v))) ce sl := h.st 23 rfl ei hw next
theorem MI.l24 {G : rv_G} {M : rv_M} {mc ms : Nat} {Rt : Option Value → rv_S → Prop} {stops : List Nat} {K : Nat → rv_L → List Value → rv_S → Nat → Nat → Prop} {k pc : Nat} {ls : rv_L} {st : List Value} {ce sl : Nat} {σ0 σ : rv_S} {y : Nat} {s : Md} (h : MI σ0 σ y (md y s)) {vi : Int32} {w : Nat} (ei : vi = nI w) (hw : w < 120) (next : rv_bx G M mc ms Rt stops K k pc ls (.int (s.wMany w) :: st) σ ce sl) : ∃ (n : Nat) (f : Nat → Int32), (σ.2 (y + 24) = some (rv_aI n f) ∨ σ.2 (y + 24) = some (rv_aT n f)) ∧ vp_in vi n ∧ rv_bx G M mc ms Rt stops K k pc ls (.int (f vi.toNatClampNeg) :: st) σ ce sl := h.ld 24 rfl ei hw next
theorem MI.s24 {G : rv_G} {M : rv_M} {mc ms : Nat} {Rt : Option Value → rv_S → Prop} {stops : List Nat} {K : Nat → rv_L → List Value → rv_S → Nat → Nat → Prop} {k pc : Nat} {ls : rv_L} {st : List Value} {ce sl : Nat} {σ0 σ : rv_S} {y : Nat} {s : Md} (h : MI σ0 σ y (md y s)) {vi : Int32} {w : Nat} (ei : vi = nI w) (hw : w < 120) {v : Int32} (next : ∀ σ', MI σ0 σ' y (md y (s.u_wMany (upd s.wMany w v))) → rv_bx G M mc ms Rt stops K k pc ls st σ' ce sl) : ∃ (n : Nat) (f : Nat → Int32), σ.2 (y + 24) = some (rv_aI n f) ∧ vp_in vi n ∧ rv_bx G M mc ms Rt stops K k pc ls st (σ.1, rv_up σ.2 (y + 24) (rv_aI n (upd f vi.toNatClampNeg v))) ce sl := h.st 24 rfl ei hw next
theorem MI.l25 {G : rv_G} {M : rv_M} {mc ms : Nat} {Rt : Option Value → rv_S → Prop} {stops : List Nat} {K : Nat → rv_L → List Value → rv_S → Nat → Nat → Prop} {k pc : Nat} {ls : rv_L} {st : List Value} {ce sl : Nat} {σ0 σ : rv_S} {y : Nat} {s : Md} (h : MI σ0 σ y (md y s)) {vi : Int32} {w : Nat} (ei : vi = nI w) (hw : w < 120) (next : rv_bx G M mc ms Rt stops K k pc ls (.long (s.wSum w) :: st) σ ce sl) : ∃ (n : Nat) (f : Nat → Int64), σ.2 (y + 25) = some (rv_aJ n f) ∧ vp_in vi n ∧ rv_bx G M mc ms Rt stops K k pc ls (.long (f vi.toNatClampNeg) :: st) σ ce sl := h.ldJ 25 rfl ei hw next
theorem MI.s25 {G : rv_G} {M : rv_M} {mc ms : Nat} {Rt : Option Value → rv_S → Prop} {stops : List Nat} {K : Nat → rv_L → List Value → rv_S → Nat → Nat → Prop} {k pc : Nat} {ls : rv_L} {st : List Value} {ce sl : Nat} {σ0 σ : rv_S} {y : Nat} {s : Md} (h : MI σ0 σ y (md y s)) {vi : Int32} {w : Nat} (ei : vi = nI w) (hw : w < 120) {v : Int64} (next : ∀ σ', MI σ0 σ' y (md y (s.u_wSum (vp_updL s.wSum w v))) → rv_bx G M mc ms Rt stops K k pc ls st σ' ce sl) : ∃ (n : Nat) (f : Nat → Int64), σ.2 (y + 25) = some (rv_aJ n f) ∧ vp_in vi n ∧ rv_bx G M mc ms Rt stops K k pc ls st (σ.1, rv_up σ.2 (y + 25) (rv_aJ n (vp_updL f vi.toNatClampNeg v))) ce sl := h.stJ 25 rfl ei hw next
theorem MI.l26 {G : rv_G} {M : rv_M} {mc ms : Nat} {Rt : Option Value → rv_S → Prop} {stops : List Nat} {K : Nat → rv_L → List Value → rv_S → Nat → Nat → Prop} {k pc : Nat} {ls : rv_L} {st : List Value} {ce sl : Nat} {σ0 σ : rv_S} {y : Nat} {s : Md} (h : MI σ0 σ y (md y s)) {vi : Int32} {w : Nat} (ei : vi = nI w) (hw : w < 120) (next : rv_bx G M mc ms Rt stops K k pc ls (.int (s.wLeast w) :: st) σ ce sl) : ∃ (n : Nat) (f : Nat → Int32), (σ.2 (y + 26) = some (rv_aI n f) ∨ σ.2 (y + 26) = some (rv_aT n f)) ∧ vp_in vi n ∧ rv_bx G M mc ms Rt stops K k pc ls (.int (f vi.toNatClampNeg) :: st) σ ce sl := h.ld 26 rfl ei hw next
theorem MI.s26 {G : rv_G} {M : rv_M} {mc ms : Nat} {Rt : Option Value → rv_S → Prop} {stops : List Nat} {K : Nat → rv_L → List Value → rv_S → Nat → Nat → Prop} {k pc : Nat} {ls : rv_L} {st : List Value} {ce sl : Nat} {σ0 σ : rv_S} {y : Nat} {s : Md} (h : MI σ0 σ y (md y s)) {vi : Int32} {w : Nat} (ei : vi = nI w) (hw : w < 120) {v : Int32} (next : ∀ σ', MI σ0 σ' y (md y (s.u_wLeast (upd s.wLeast w v))) → rv_bx G M mc ms Rt stops K k pc ls st σ' ce sl) : ∃ (n : Nat) (f : Nat → Int32), σ.2 (y + 26) = some (rv_aI n f) ∧ vp_in vi n ∧ rv_bx G M mc ms Rt stops K k pc ls st (σ.1, rv_up σ.2 (y + 26) (rv_aI n (upd f vi.toNatClampNeg v))) ce sl := h.st 26 rfl ei hw next
theorem MI.l27 {G : rv_G} {M : rv_M} {mc ms : Nat} {Rt : Option Value → rv_S → Prop} {stops : List Nat} {K : Nat → rv_L → List Value → rv_S → Nat → Nat → Prop} {k pc : Nat} {ls : rv_L} {st : List Value} {ce sl : Nat} {σ0 σ : rv_S} {y : Nat} {s : Md} (h : MI σ0 σ y (md y s)) {vi : Int32} {w : Nat} (ei : vi = nI w) (hw : w < 120) (next : rv_bx G M mc ms Rt stops K k pc ls (.int (s.wMost w) :: st) σ ce sl) : ∃ (n : Nat) (f : Nat → Int32), (σ.2 (y + 27) = some (rv_aI n f) ∨ σ.2 (y + 27) = some (rv_aT n f)) ∧ vp_in vi n ∧ rv_bx G M mc ms Rt stops K k pc ls (.int (f vi.toNatClampNeg) :: st) σ ce sl := h.ld 27 rfl ei hw next
theorem MI.s27 {G : rv_G} {M : rv_M} {mc ms : Nat} {Rt : Option Value → rv_S → Prop} {stops : List Nat} {K : Nat → rv_L → List Value → rv_S → Nat → Nat → Prop} {k pc : Nat} {ls : rv_L} {st : List Value} {ce sl : Nat} {σ0 σ : rv_S} {y : Nat} {s : Md} (h : MI σ0 σ y (md y s)) {vi : Int32} {w : Nat} (ei : vi = nI w) (hw : w < 120) {v : Int32} (next : ∀ σ', MI σ0 σ' y (md y (s.u_wMost (upd s.wMost w v))) → rv_bx G M mc ms Rt stops K k pc ls st σ' ce sl) : ∃ (n : Nat) (f : Nat → Int32), σ.2 (y + 27) = some (rv_aI n f) ∧ vp_in vi n ∧ rv_bx G M mc ms Rt stops K k pc ls st (σ.1, rv_up σ.2 (y + 27) (rv_aI n (upd f vi.toNatClampNeg v))) ce sl := h.st 27 rfl ei hw next
theorem MI.l28 {G : rv_G} {M : rv_M} {mc ms : Nat} {Rt : Option Value → rv_S → Prop} {stops : List Nat} {K : Nat → rv_L → List Value → rv_S → Nat → Nat → Prop} {k pc : Nat} {ls : rv_L} {st : List Value} {ce sl : Nat} {σ0 σ : rv_S} {y : Nat} {s : Md} (h : MI σ0 σ y (md y s)) {vi : Int32} {w : Nat} (ei : vi = nI w) (hw : w < 120) (next : rv_bx G M mc ms Rt stops K k pc ls (.int (rv_b (s.wTold w)) :: st) σ ce sl) : ∃ (n : Nat) (f : Nat → Bool), σ.2 (y + 28) = some (rv_aZ n f) ∧ vp_in vi n ∧ rv_bx G M mc ms Rt stops K k pc ls (.int (rv_b (f vi.toNatClampNeg)) :: st) σ ce sl := h.ldZ 28 rfl ei hw next
theorem MI.s28 {G : rv_G} {M : rv_M} {mc ms : Nat} {Rt : Option Value → rv_S → Prop} {stops : List Nat} {K : Nat → rv_L → List Value → rv_S → Nat → Nat → Prop} {k pc : Nat} {ls : rv_L} {st : List Value} {ce sl : Nat} {σ0 σ : rv_S} {y : Nat} {s : Md} (h : MI σ0 σ y (md y s)) {vi : Int32} {w : Nat} (ei : vi = nI w) (hw : w < 120) (b : Bool) {v : Int32} (hv : v = rv_b b) (next : ∀ σ', MI σ0 σ' y (md y (s.u_wTold (va_up s.wTold w b))) → rv_bx G M mc ms Rt stops K k pc ls st σ' ce sl) : ∃ (n : Nat) (f : Nat → Bool) (b : Bool), σ.2 (y + 28) = some (rv_aZ n f) ∧ v = rv_b b ∧ vp_in vi n ∧ rv_bx G M mc ms Rt stops K k pc ls st (σ.1, rv_up σ.2 (y + 28) (rv_aZ n (va_up f vi.toNatClampNeg b))) ce sl := h.stZ 28 rfl ei hw b hv next
theorem MI.l29 {G : rv_G} {M : rv_M} {mc ms : Nat} {Rt : Option Value → rv_S → Prop} {stops : List Nat} {K : Nat → rv_L → List Value → rv_S → Nat → Nat → Prop} {k pc : Nat} {ls : rv_L} {st : List Value} {ce sl : Nat} {σ0 σ : rv_S} {y : Nat} {s : Md} (h : MI σ0 σ y (md y s)) {vi : Int32} {w : Nat} (ei : vi = nI w) (hw : w < 120) (next : rv_bx G M mc ms Rt stops K k pc ls (.int (rv_b (s.wCame w)) :: st) σ ce sl) : ∃ (n : Nat) (f : Nat → Bool), σ.2 (y + 29) = some (rv_aZ n f) ∧ vp_in vi n ∧ rv_bx G M mc ms Rt stops K k pc ls (.int (rv_b (f vi.toNatClampNeg)) :: st) σ ce sl := h.ldZ 29 rfl ei hw next
theorem MI.s29 {G : rv_G} {M : rv_M} {mc ms : Nat} {Rt : Option Value → rv_S → Prop} {stops : List Nat} {K : Nat → rv_L → List Value → rv_S → Nat → Nat → Prop} {k pc : Nat} {ls : rv_L} {st : List Value} {ce sl : Nat} {σ0 σ : rv_S} {y : Nat} {s : Md} (h : MI σ0 σ y (md y s)) {vi : Int32} {w : Nat} (ei : vi = nI w) (hw : w < 120) (b : Bool) {v : Int32} (hv : v = rv_b b) (next : ∀ σ', MI σ0 σ' y (md y (s.u_wCame (va_up s.wCame w b))) → rv_bx G M mc ms Rt stops K k pc ls st σ' ce sl) : ∃ (n : Nat) (f : Nat → Bool) (b : Bool), σ.2 (y + 29) = some (rv_aZ n f) ∧ v = rv_b b ∧ vp_in vi n ∧ rv_bx G M mc ms Rt stops K k pc ls st (σ.1, rv_up σ.2 (y + 29) (rv_aZ n (va_up f vi.toNatClampNeg b))) ce sl := h.stZ 29 rfl ei hw b hv next
theorem MI.l30 {G : rv_G} {M : rv_M} {mc ms : Nat} {Rt : Option Value → rv_S → Prop} {stops : List Nat} {K : Nat → rv_L → List Value → rv_S → Nat → Nat → Prop} {k pc : Nat} {ls : rv_L} {st : List Value} {ce sl : Nat} {σ0 σ : rv_S} {y : Nat} {s : Md} (h : MI σ0 σ y (md y s)) {vi : Int32} {w : Nat} (ei : vi = nI w) (hw : w < 120) (next : rv_bx G M mc ms Rt stops K k pc ls (.int (s.tMany w) :: st) σ ce sl) : ∃ (n : Nat) (f : Nat → Int32), (σ.2 (y + 30) = some (rv_aI n f) ∨ σ.2 (y + 30) = some (rv_aT n f)) ∧ vp_in vi n ∧ rv_bx G M mc ms Rt stops K k pc ls (.int (f vi.toNatClampNeg) :: st) σ ce sl := h.ld 30 rfl ei hw next
theorem MI.s30 {G : rv_G} {M : rv_M} {mc ms : Nat} {Rt : Option Value → rv_S → Prop} {stops : List Nat} {K : Nat → rv_L → List Value → rv_S → Nat → Nat → Prop} {k pc : Nat} {ls : rv_L} {st : List Value} {ce sl : Nat} {σ0 σ : rv_S} {y : Nat} {s : Md} (h : MI σ0 σ y (md y s)) {vi : Int32} {w : Nat} (ei : vi = nI w) (hw : w < 120) {v : Int32} (next : ∀ σ', MI σ0 σ' y (md y (s.u_tMany (upd s.tMany w v))) → rv_bx G M mc ms Rt stops K k pc ls st σ' ce sl) : ∃ (n : Nat) (f : Nat → Int32), σ.2 (y + 30) = some (rv_aI n f) ∧ vp_in vi n ∧ rv_bx G M mc ms Rt stops K k pc ls st (σ.1, rv_up σ.2 (y + 30) (rv_aI n (upd f vi.toNatClampNeg v))) ce sl := h.st 30 rfl ei hw next
theorem MI.l31 {G : rv_G} {M : rv_M} {mc ms : Nat} {Rt : Option Value → rv_S → Prop} {stops : List Nat} {K : Nat → rv_L → List Value → rv_S → Nat → Nat → Prop} {k pc : Nat} {ls : rv_L} {st : List Value} {ce sl : Nat} {σ0 σ : rv_S} {y : Nat} {s : Md} (h : MI σ0 σ y (md y s)) {vi : Int32} {w : Nat} (ei : vi = nI w) (hw : w < 120) (next : rv_bx G M mc ms Rt stops K k pc ls (.long (s.tSum w) :: st) σ ce sl) : ∃ (n : Nat) (f : Nat → Int64), σ.2 (y + 31) = some (rv_aJ n f) ∧ vp_in vi n ∧ rv_bx G M mc ms Rt stops K k pc ls (.long (f vi.toNatClampNeg) :: st) σ ce sl := h.ldJ 31 rfl ei hw next
theorem MI.s31 {G : rv_G} {M : rv_M} {mc ms : Nat} {Rt : Option Value → rv_S → Prop} {stops : List Nat} {K : Nat → rv_L → List Value → rv_S → Nat → Nat → Prop} {k pc : Nat} {ls : rv_L} {st : List Value} {ce sl : Nat} {σ0 σ : rv_S} {y : Nat} {s : Md} (h : MI σ0 σ y (md y s)) {vi : Int32} {w : Nat} (ei : vi = nI w) (hw : w < 120) {v : Int64} (next : ∀ σ', MI σ0 σ' y (md y (s.u_tSum (vp_updL s.tSum w v))) → rv_bx G M mc ms Rt stops K k pc ls st σ' ce sl) : ∃ (n : Nat) (f : Nat → Int64), σ.2 (y + 31) = some (rv_aJ n f) ∧ vp_in vi n ∧ rv_bx G M mc ms Rt stops K k pc ls st (σ.1, rv_up σ.2 (y + 31) (rv_aJ n (vp_updL f vi.toNatClampNeg v))) ce sl := h.stJ 31 rfl ei hw next
theorem MI.l32 {G : rv_G} {M : rv_M} {mc ms : Nat} {Rt : Option Value → rv_S → Prop} {stops : List Nat} {K : Nat → rv_L → List Value → rv_S → Nat → Nat → Prop} {k pc : Nat} {ls : rv_L} {st : List Value} {ce sl : Nat} {σ0 σ : rv_S} {y : Nat} {s : Md} (h : MI σ0 σ y (md y s)) {vi : Int32} {w : Nat} (ei : vi = nI w) (hw : w < 120) (next : rv_bx G M mc ms Rt stops K k pc ls (.int (s.tLeast w) :: st) σ ce sl) : ∃ (n : Nat) (f : Nat → Int32), (σ.2 (y + 32) = some (rv_aI n f) ∨ σ.2 (y + 32) = some (rv_aT n f)) ∧ vp_in vi n ∧ rv_bx G M mc ms Rt stops K k pc ls (.int (f vi.toNatClampNeg) :: st) σ ce sl := h.ld 32 rfl ei hw next
theorem MI.s32 {G : rv_G} {M : rv_M} {mc ms : Nat} {Rt : Option Value → rv_S → Prop} {stops : List Nat} {K : Nat → rv_L → List Value → rv_S → Nat → Nat → Prop} {k pc : Nat} {ls : rv_L} {st : List Value} {ce sl : Nat} {σ0 σ : rv_S} {y : Nat} {s : Md} (h : MI σ0 σ y (md y s)) {vi : Int32} {w : Nat} (ei : vi = nI w) (hw : w < 120) {v : Int32} (next : ∀ σ', MI σ0 σ' y (md y (s.u_tLeast (upd s.tLeast w v))) → rv_bx G M mc ms Rt stops K k pc ls st σ' ce sl) : ∃ (n : Nat) (f : Nat → Int32), σ.2 (y + 32) = some (rv_aI n f) ∧ vp_in vi n ∧ rv_bx G M mc ms Rt stops K k pc ls st (σ.1, rv_up σ.2 (y + 32) (rv_aI n (upd f vi.toNatClampNeg v))) ce sl := h.st 32 rfl ei hw next
theorem MI.l33 {G : rv_G} {M : rv_M} {mc ms : Nat} {Rt : Option Value → rv_S → Prop} {stops : List Nat} {K : Nat → rv_L → List Value → rv_S → Nat → Nat → Prop} {k pc : Nat} {ls : rv_L} {st : List Value} {ce sl : Nat} {σ0 σ : rv_S} {y : Nat} {s : Md} (h : MI σ0 σ y (md y s)) {vi : Int32} {w : Nat} (ei : vi = nI w) (hw : w < 120) (next : rv_bx G M mc ms Rt stops K k pc ls (.int (s.tMost w) :: st) σ ce sl) : ∃ (n : Nat) (f : Nat → Int32), (σ.2 (y + 33) = some (rv_aI n f) ∨ σ.2 (y + 33) = some (rv_aT n f)) ∧ vp_in vi n ∧ rv_bx G M mc ms Rt stops K k pc ls (.int (f vi.toNatClampNeg) :: st) σ ce sl := h.ld 33 rfl ei hw next
theorem MI.s33 {G : rv_G} {M : rv_M} {mc ms : Nat} {Rt : Option Value → rv_S → Prop} {stops : List Nat} {K : Nat → rv_L → List Value → rv_S → Nat → Nat → Prop} {k pc : Nat} {ls : rv_L} {st : List Value} {ce sl : Nat} {σ0 σ : rv_S} {y : Nat} {s : Md} (h : MI σ0 σ y (md y s)) {vi : Int32} {w : Nat} (ei : vi = nI w) (hw : w < 120) {v : Int32} (next : ∀ σ', MI σ0 σ' y (md y (s.u_tMost (upd s.tMost w v))) → rv_bx G M mc ms Rt stops K k pc ls st σ' ce sl) : ∃ (n : Nat) (f : Nat → Int32), σ.2 (y + 33) = some (rv_aI n f) ∧ vp_in vi n ∧ rv_bx G M mc ms Rt stops K k pc ls st (σ.1, rv_up σ.2 (y + 33) (rv_aI n (upd f vi.toNatClampNeg v))) ce sl := h.st 33 rfl ei hw next
theorem MI.p37 {G : rv_G} {M : rv_M} {mc ms : Nat} {Rt : Option Value → rv_S → Prop} {stops : List Nat} {K : Nat → rv_L → List Value → rv_S → Nat → Nat → Prop} {k pc : Nat} {ls : rv_L} {st : List Value} {ce sl : Nat} {σ0 σ : rv_S} {y : Nat} {s : Md} (h : MI σ0 σ y (md y s)) {v : Int32} (next : ∀ σ', MI σ0 σ' y (md y (s.u_nres v)) → rv_bx G M mc ms Rt stops K k pc ls st σ' ce sl) : ∃ fs : List Value, σ.2 y = some (.inl (k_Model, fs)) ∧ rv_fit (rv_ty k_Model 37) (.int v) ∧ rv_bx G M mc ms Rt stops K k pc ls st (σ.1, rv_up σ.2 y (.inl (k_Model, fs.set 37 (.int v)))) ce sl := h.put rfl trivial next
theorem MI.p38 {G : rv_G} {M : rv_M} {mc ms : Nat} {Rt : Option Value → rv_S → Prop} {stops : List Nat} {K : Nat → rv_L → List Value → rv_S → Nat → Nat → Prop} {k pc : Nat} {ls : rv_L} {st : List Value} {ce sl : Nat} {σ0 σ : rv_S} {y : Nat} {s : Md} (h : MI σ0 σ y (md y s)) {v : Int32} (next : ∀ σ', MI σ0 σ' y (md y (s.u_ever v)) → rv_bx G M mc ms Rt stops K k pc ls st σ' ce sl) : ∃ fs : List Value, σ.2 y = some (.inl (k_Model, fs)) ∧ rv_fit (rv_ty k_Model 38) (.int v) ∧ rv_bx G M mc ms Rt stops K k pc ls st (σ.1, rv_up σ.2 y (.inl (k_Model, fs.set 38 (.int v)))) ce sl := h.put rfl trivial next
theorem MI.l34 {G : rv_G} {M : rv_M} {mc ms : Nat} {Rt : Option Value → rv_S → Prop} {stops : List Nat} {K : Nat → rv_L → List Value → rv_S → Nat → Nat → Prop} {k pc : Nat} {ls : rv_L} {st : List Value} {ce sl : Nat} {σ0 σ : rv_S} {y : Nat} {s : Md} (h : MI σ0 σ y (md y s)) {vi : Int32} {w : Nat} (ei : vi = nI w) (hw : w < 3600) (next : rv_bx G M mc ms Rt stops K k pc ls (.long (s.eRow w) :: st) σ ce sl) : ∃ (n : Nat) (f : Nat → Int64), σ.2 (y + 34) = some (rv_aJ n f) ∧ vp_in vi n ∧ rv_bx G M mc ms Rt stops K k pc ls (.long (f vi.toNatClampNeg) :: st) σ ce sl := h.ldJ 34 rfl ei hw next
theorem MI.s34 {G : rv_G} {M : rv_M} {mc ms : Nat} {Rt : Option Value → rv_S → Prop} {stops : List Nat} {K : Nat → rv_L → List Value → rv_S → Nat → Nat → Prop} {k pc : Nat} {ls : rv_L} {st : List Value} {ce sl : Nat} {σ0 σ : rv_S} {y : Nat} {s : Md} (h : MI σ0 σ y (md y s)) {vi : Int32} {w : Nat} (ei : vi = nI w) (hw : w < 3600) {v : Int64} (next : ∀ σ', MI σ0 σ' y (md y (s.u_eRow (vp_updL s.eRow w v))) → rv_bx G M mc ms Rt stops K k pc ls st σ' ce sl) : ∃ (n : Nat) (f : Nat → Int64), σ.2 (y + 34) = some (rv_aJ n f) ∧ vp_in vi n ∧ rv_bx G M mc ms Rt stops K k pc ls st (σ.1, rv_up σ.2 (y + 34) (rv_aJ n (vp_updL f vi.toNatClampNeg v))) ce sl := h.stJ 34 rfl ei hw next
theorem MI.p40 {G : rv_G} {M : rv_M} {mc ms : Nat} {Rt : Option Value → rv_S → Prop} {stops : List Nat} {K : Nat → rv_L → List Value → rv_S → Nat → Nat → Prop} {k pc : Nat} {ls : rv_L} {st : List Value} {ce sl : Nat} {σ0 σ : rv_S} {y : Nat} {s : Md} (h : MI σ0 σ y (md y s)) {v : Int32} (next : ∀ σ', MI σ0 σ' y (md y (s.u_nas v)) → rv_bx G M mc ms Rt stops K k pc ls st σ' ce sl) : ∃ fs : List Value, σ.2 y = some (.inl (k_Model, fs)) ∧ rv_fit (rv_ty k_Model 40) (.int v) ∧ rv_bx G M mc ms Rt stops K k pc ls st (σ.1, rv_up σ.2 y (.inl (k_Model, fs.set 40 (.int v)))) ce sl := h.put rfl trivial next
theorem MI.l35 {G : rv_G} {M : rv_M} {mc ms : Nat} {Rt : Option Value → rv_S → Prop} {stops : List Nat} {K : Nat → rv_L → List Value → rv_S → Nat → Nat → Prop} {k pc : Nat} {ls : rv_L} {st : List Value} {ce sl : Nat} {σ0 σ : rv_S} {y : Nat} {s : Md} (h : MI σ0 σ y (md y s)) {vi : Int32} {w : Nat} (ei : vi = nI w) (hw : w < 505) (next : rv_bx G M mc ms Rt stops K k pc ls (.int (s.aRow w) :: st) σ ce sl) : ∃ (n : Nat) (f : Nat → Int32), (σ.2 (y + 35) = some (rv_aI n f) ∨ σ.2 (y + 35) = some (rv_aT n f)) ∧ vp_in vi n ∧ rv_bx G M mc ms Rt stops K k pc ls (.int (f vi.toNatClampNeg) :: st) σ ce sl := h.ld 35 rfl ei hw next
theorem MI.s35 {G : rv_G} {M : rv_M} {mc ms : Nat} {Rt : Option Value → rv_S → Prop} {stops : List Nat} {K : Nat → rv_L → List Value → rv_S → Nat → Nat → Prop} {k pc : Nat} {ls : rv_L} {st : List Value} {ce sl : Nat} {σ0 σ : rv_S} {y : Nat} {s : Md} (h : MI σ0 σ y (md y s)) {vi : Int32} {w : Nat} (ei : vi = nI w) (hw : w < 505) {v : Int32} (next : ∀ σ', MI σ0 σ' y (md y (s.u_aRow (upd s.aRow w v))) → rv_bx G M mc ms Rt stops K k pc ls st σ' ce sl) : ∃ (n : Nat) (f : Nat → Int32), σ.2 (y + 35) = some (rv_aI n f) ∧ vp_in vi n ∧ rv_bx G M mc ms Rt stops K k pc ls st (σ.1, rv_up σ.2 (y + 35) (rv_aI n (upd f vi.toNatClampNeg v))) ce sl := h.st 35 rfl ei hw next
theorem MI.p42 {G : rv_G} {M : rv_M} {mc ms : Nat} {Rt : Option Value → rv_S → Prop} {stops : List Nat} {K : Nat → rv_L → List Value → rv_S → Nat → Nat → Prop} {k pc : Nat} {ls : rv_L} {st : List Value} {ce sl : Nat} {σ0 σ : rv_S} {y : Nat} {s : Md} (h : MI σ0 σ y (md y s)) {v : Int32} (next : ∀ σ', MI σ0 σ' y (md y (s.u_bnd v)) → rv_bx G M mc ms Rt stops K k pc ls st σ' ce sl) : ∃ fs : List Value, σ.2 y = some (.inl (k_Model, fs)) ∧ rv_fit (rv_ty k_Model 42) (.int v) ∧ rv_bx G M mc ms Rt stops K k pc ls st (σ.1, rv_up σ.2 y (.inl (k_Model, fs.set 42 (.int v)))) ce sl := h.put rfl trivial next
theorem MI.p43 {G : rv_G} {M : rv_M} {mc ms : Nat} {Rt : Option Value → rv_S → Prop} {stops : List Nat} {K : Nat → rv_L → List Value → rv_S → Nat → Nat → Prop} {k pc : Nat} {ls : rv_L} {st : List Value} {ce sl : Nat} {σ0 σ : rv_S} {y : Nat} {s : Md} (h : MI σ0 σ y (md y s)) {v : Int32} (next : ∀ σ', MI σ0 σ' y (md y (s.u_rul v)) → rv_bx G M mc ms Rt stops K k pc ls st σ' ce sl) : ∃ fs : List Value, σ.2 y = some (.inl (k_Model, fs)) ∧ rv_fit (rv_ty k_Model 43) (.int v) ∧ rv_bx G M mc ms Rt stops K k pc ls st (σ.1, rv_up σ.2 y (.inl (k_Model, fs.set 43 (.int v)))) ce sl := h.put rfl trivial next
theorem MI.p44 {G : rv_G} {M : rv_M} {mc ms : Nat} {Rt : Option Value → rv_S → Prop} {stops : List Nat} {K : Nat → rv_L → List Value → rv_S → Nat → Nat → Prop} {k pc : Nat} {ls : rv_L} {st : List Value} {ce sl : Nat} {σ0 σ : rv_S} {y : Nat} {s : Md} (h : MI σ0 σ y (md y s)) {v : Int32} (next : ∀ σ', MI σ0 σ' y (md y (s.u_drp v)) → rv_bx G M mc ms Rt stops K k pc ls st σ' ce sl) : ∃ fs : List Value, σ.2 y = some (.inl (k_Model, fs)) ∧ rv_fit (rv_ty k_Model 44) (.int v) ∧ rv_bx G M mc ms Rt stops K k pc ls st (σ.1, rv_up σ.2 y (.inl (k_Model, fs.set 44 (.int v)))) ce sl := h.put rfl trivial next
theorem MI.p45 {G : rv_G} {M : rv_M} {mc ms : Nat} {Rt : Option Value → rv_S → Prop} {stops : List Nat} {K : Nat → rv_L → List Value → rv_S → Nat → Nat → Prop} {k pc : Nat} {ls : rv_L} {st : List Value} {ce sl : Nat} {σ0 σ : rv_S} {y : Nat} {s : Md} (h : MI σ0 σ y (md y s)) {v : Int32} (next : ∀ σ', MI σ0 σ' y (md y (s.u_fB v)) → rv_bx G M mc ms Rt stops K k pc ls st σ' ce sl) : ∃ fs : List Value, σ.2 y = some (.inl (k_Model, fs)) ∧ rv_fit (rv_ty k_Model 45) (.int v) ∧ rv_bx G M mc ms Rt stops K k pc ls st (σ.1, rv_up σ.2 y (.inl (k_Model, fs.set 45 (.int v)))) ce sl := h.put rfl trivial next
theorem MI.p46 {G : rv_G} {M : rv_M} {mc ms : Nat} {Rt : Option Value → rv_S → Prop} {stops : List Nat} {K : Nat → rv_L → List Value → rv_S → Nat → Nat → Prop} {k pc : Nat} {ls : rv_L} {st : List Value} {ce sl : Nat} {σ0 σ : rv_S} {y : Nat} {s : Md} (h : MI σ0 σ y (md y s)) {v : Int32} (next : ∀ σ', MI σ0 σ' y (md y (s.u_fE v)) → rv_bx G M mc ms Rt stops K k pc ls st σ' ce sl) : ∃ fs : List Value, σ.2 y = some (.inl (k_Model, fs)) ∧ rv_fit (rv_ty k_Model 46) (.int v) ∧ rv_bx G M mc ms Rt stops K k pc ls st (σ.1, rv_up σ.2 y (.inl (k_Model, fs.set 46 (.int v)))) ce sl := h.put rfl trivial next
theorem MI.p47 {G : rv_G} {M : rv_M} {mc ms : Nat} {Rt : Option Value → rv_S → Prop} {stops : List Nat} {K : Nat → rv_L → List Value → rv_S → Nat → Nat → Prop} {k pc : Nat} {ls : rv_L} {st : List Value} {ce sl : Nat} {σ0 σ : rv_S} {y : Nat} {s : Md} (h : MI σ0 σ y (md y s)) {v : Int32} (next : ∀ σ', MI σ0 σ' y (md y (s.u_jn v)) → rv_bx G M mc ms Rt stops K k pc ls st σ' ce sl) : ∃ fs : List Value, σ.2 y = some (.inl (k_Model, fs)) ∧ rv_fit (rv_ty k_Model 47) (.int v) ∧ rv_bx G M mc ms Rt stops K k pc ls st (σ.1, rv_up σ.2 y (.inl (k_Model, fs.set 47 (.int v)))) ce sl := h.put rfl trivial next
theorem MI.p48 {G : rv_G} {M : rv_M} {mc ms : Nat} {Rt : Option Value → rv_S → Prop} {stops : List Nat} {K : Nat → rv_L → List Value → rv_S → Nat → Nat → Prop} {k pc : Nat} {ls : rv_L} {st : List Value} {ce sl : Nat} {σ0 σ : rv_S} {y : Nat} {s : Md} (h : MI σ0 σ y (md y s)) (b : Bool) {v : Int32} (hv : v = rv_b b) (next : ∀ σ', MI σ0 σ' y (md y (s.u_jT b)) → rv_bx G M mc ms Rt stops K k pc ls st σ' ce sl) : ∃ fs : List Value, σ.2 y = some (.inl (k_Model, fs)) ∧ rv_fit (rv_ty k_Model 48) (.int v) ∧ rv_bx G M mc ms Rt stops K k pc ls st (σ.1, rv_up σ.2 y (.inl (k_Model, fs.set 48 (.int v)))) ce sl := by subst hv; exact h.put rfl (rv_b01 b) next
theorem MI.p49 {G : rv_G} {M : rv_M} {mc ms : Nat} {Rt : Option Value → rv_S → Prop} {stops : List Nat} {K : Nat → rv_L → List Value → rv_S → Nat → Nat → Prop} {k pc : Nat} {ls : rv_L} {st : List Value} {ce sl : Nat} {σ0 σ : rv_S} {y : Nat} {s : Md} (h : MI σ0 σ y (md y s)) {v : Int32} (next : ∀ σ', MI σ0 σ' y (md y (s.u_nps v)) → rv_bx G M mc ms Rt stops K k pc ls st σ' ce sl) : ∃ fs : List Value, σ.2 y = some (.inl (k_Model, fs)) ∧ rv_fit (rv_ty k_Model 49) (.int v) ∧ rv_bx G M mc ms Rt stops K k pc ls st (σ.1, rv_up σ.2 y (.inl (k_Model, fs.set 49 (.int v)))) ce sl := h.put rfl trivial next
theorem MI.l36 {G : rv_G} {M : rv_M} {mc ms : Nat} {Rt : Option Value → rv_S → Prop} {stops : List Nat} {K : Nat → rv_L → List Value → rv_S → Nat → Nat → Prop} {k pc : Nat} {ls : rv_L} {st : List Value} {ce sl : Nat} {σ0 σ : rv_S} {y : Nat} {s : Md} (h : MI σ0 σ y (md y s)) {vi : Int32} {w : Nat} (ei : vi = nI w) (hw : w < 16800) (next : rv_bx G M mc ms Rt stops K k pc ls (.long (s.pRow w) :: st) σ ce sl) : ∃ (n : Nat) (f : Nat → Int64), σ.2 (y + 36) = some (rv_aJ n f) ∧ vp_in vi n ∧ rv_bx G M mc ms Rt stops K k pc ls (.long (f vi.toNatClampNeg) :: st) σ ce sl := h.ldJ 36 rfl ei hw next
theorem MI.s36 {G : rv_G} {M : rv_M} {mc ms : Nat} {Rt : Option Value → rv_S → Prop} {stops : List Nat} {K : Nat → rv_L → List Value → rv_S → Nat → Nat → Prop} {k pc : Nat} {ls : rv_L} {st : List Value} {ce sl : Nat} {σ0 σ : rv_S} {y : Nat} {s : Md} (h : MI σ0 σ y (md y s)) {vi : Int32} {w : Nat} (ei : vi = nI w) (hw : w < 16800) {v : Int64} (next : ∀ σ', MI σ0 σ' y (md y (s.u_pRow (vp_updL s.pRow w v))) → rv_bx G M mc ms Rt stops K k pc ls st σ' ce sl) : ∃ (n : Nat) (f : Nat → Int64), σ.2 (y + 36) = some (rv_aJ n f) ∧ vp_in vi n ∧ rv_bx G M mc ms Rt stops K k pc ls st (σ.1, rv_up σ.2 (y + 36) (rv_aJ n (vp_updL f vi.toNatClampNeg v))) ce sl := h.stJ 36 rfl ei hw next
end
section
/-! THE REFERENCE: its results and windows -/
theorem nI_mul (a b : Nat) : nI a * nI b = nI (a * b) := (Int32.ofNat_mul a b).symm
/-- all records one place down -/
def sh_run : Nat → Nat → (Nat → Int64) → Nat → Int64
  | 0, _, e => e
  | t + 1, k, e => sh_run t (k + 1) (vp_updL e k (e (k + 9)))
def md_put (s : Md) (r w : Nat) (sg : Int32) (t : Tl) : Md :=
  let s := s.u_eRow (vp_updL s.eRow (9 * r + 0) (sg.toInt64))
  let s := s.u_eRow (vp_updL s.eRow (9 * r + 1) ((s.wOp w).toInt64))
  let s := s.u_eRow (vp_updL s.eRow (9 * r + 2) ((s.wKey w).toInt64))
  let s := s.u_eRow (vp_updL s.eRow (9 * r + 3) ((s.wBeg w).toInt64))
  let s := s.u_eRow (vp_updL s.eRow (9 * r + 4) ((s.wEnd w).toInt64))
  let s := s.u_eRow (vp_updL s.eRow (9 * r + 5) (t.1.toInt64))
  let s := s.u_eRow (vp_updL s.eRow (9 * r + 6) (t.2.1))
  let s := s.u_eRow (vp_updL s.eRow (9 * r + 7) (t.2.2.1.toInt64))
  let s := s.u_eRow (vp_updL s.eRow (9 * r + 8) (t.2.2.2.toInt64))
  let s := s.u_nres ((s.nres + 1))
  let s := s.u_ever ((s.ever + 1))
  s
def md_res (s : Md) (r w : Nat) (sg : Int32) (t : Tl) : Md := if r = 400 then md_put ((s.u_eRow (sh_run 3591 0 s.eRow)).u_nres (s.nres - 1)) 399 w sg t else md_put s r w sg t
set_option maxRecDepth 100000 in
theorem rt_put {G : rv_G} {σ0 σ : rv_S} {y w r : Nat} {s : Md} {vw sg many least most : Int32} {sum : Int64} (x8 : Option Value) (ew : vw = nI w) (hw : w < 120) (er : s.nres = nI r) (hr : r < 400) (h : MI σ0 σ y (md y s)) :
    rv_V G m_Model_result_IIIJIIV 0 0 (fun q σ' => q = none ∧ MI σ0 σ' y (md y (md_put s r w sg (many, sum, least, most)))) 54 [some (.ref y), some (.int sg), some (.int vw), some (.int many), some (.long sum), none, some (.int least), some (.int most), x8] [] σ 0 0 := by
  have ea : ∀ k, (9 : Int32) * s.nres + nI k = nI (9 * r + k) := fun k => by rw [er, show (9 : Int32) = nI 9 from rfl, nI_mul, nI_add]
  have e0 : (9 : Int32) * s.nres = nI (9 * r + 0) := by rw [er, show (9 : Int32) = nI 9 from rfl, nI_mul]; rfl
  refine rv_V.run rv_gd_Model_result_IIIJIIV [] 400 ?_
  refine Exists.intro _ (And.intro h.ob ?_)
  refine Exists.intro _ (And.intro h.ob ?_)
  refine h.s34 e0 (by omega) (fun σ h => ?_)
  refine Exists.intro _ (And.intro h.ob ?_)
  refine Exists.intro _ (And.intro h.ob ?_)
  refine h.l20 ew hw ?_
  refine h.s34 (ea 1) (by omega) (fun σ h => ?_)
  refine Exists.intro _ (And.intro h.ob ?_)
  refine Exists.intro _ (And.intro h.ob ?_)
  refine h.l21 ew hw ?_
  refine h.s34 (ea 2) (by omega) (fun σ h => ?_)
  refine Exists.intro _ (And.intro h.ob ?_)
  refine Exists.intro _ (And.intro h.ob ?_)
  refine h.l22 ew hw ?_
  refine h.s34 (ea 3) (by omega) (fun σ h => ?_)
  refine Exists.intro _ (And.intro h.ob ?_)
  refine Exists.intro _ (And.intro h.ob ?_)
  refine h.l23 ew hw ?_
  refine h.s34 (ea 4) (by omega) (fun σ h => ?_)
  refine Exists.intro _ (And.intro h.ob ?_)
  refine h.s34 (ea 5) (by omega) (fun σ h => ?_)
  refine Exists.intro _ (And.intro h.ob ?_)
  refine h.s34 (ea 6) (by omega) (fun σ h => ?_)
  refine Exists.intro _ (And.intro h.ob ?_)
  refine h.s34 (ea 7) (by omega) (fun σ h => ?_)
  refine Exists.intro _ (And.intro h.ob ?_)
  refine h.s34 (ea 8) (by omega) (fun σ h => ?_)
  refine Exists.intro _ (And.intro h.ob ?_)
  refine h.p37  (fun σ h => ?_)
  refine Exists.intro _ (And.intro h.ob ?_)
  refine h.p38  (fun σ h => ?_)
  exact ⟨rfl, h⟩
set_option maxRecDepth 100000 in
theorem lp_shift {G : rv_G} {σ0 : rv_S} {y : Nat} {vw sg many least most : Int32} {sum : Int64} {Rt : Option Value → rv_S → Prop} (s : Md) (fin : ∀ (x8 : Option Value) (σ : rv_S), MI σ0 σ y (md y ((s.u_eRow (sh_run 3591 0 s.eRow)).u_nres (s.nres - 1))) → rv_V G m_Model_result_IIIJIIV 0 0 Rt 54 [some (.ref y), some (.int sg), some (.int vw), some (.int many), some (.long sum), none, some (.int least), some (.int most), x8] [] σ 0 0) : ∀ (t k : Nat) (vk : Int32) (e : Nat → Int64) (σ : rv_S), vk = nI k → k + t = 3591 → sh_run t k e = sh_run 3591 0 s.eRow → MI σ0 σ y (md y (s.u_eRow e)) →
    rv_V G m_Model_result_IIIJIIV 0 0 Rt 13 [some (.ref y), some (.int sg), some (.int vw), some (.int many), some (.long sum), none, some (.int least), some (.int most), some (.int vk)] [] σ 0 0 := by
  intro t
  induction t with
  | zero =>
    intro k vk e σ ek h1 h2 h
    refine rv_V.run rv_gd_Model_result_IIIJIIV [13, 54] 400 ?_
    refine And.intro (fun c1 => ?_) (fun c1 => ?_)
    · refine Exists.intro _ (And.intro h.ob ?_)
      refine h.p37 (fun σ h => ?_)
      refine fin _ σ ?_
      rw [← h2]
      exact h
    · exact absurd ((rv_leN (a := 3591) rfl ek (by omega) (by omega)).mpr (by omega)) c1
  | succ t ih =>
    intro k vk e σ ek h1 h2 h
    have e9 : vk + 9 = nI (k + 9) := by rw [ek, show (9 : Int32) = nI 9 from rfl, nI_add]
    refine rv_V.run rv_gd_Model_result_IIIJIIV [13, 54] 400 ?_
    refine And.intro (fun c1 => ?_) (fun c1 => ?_)
    · exact absurd ((rv_leN (a := 3591) rfl ek (by omega) (by omega)).mp c1) (by omega)
    refine Exists.intro _ (And.intro h.ob ?_)
    refine Exists.intro _ (And.intro h.ob ?_)
    refine h.l34 e9 (by omega) ?_
    refine h.s34 ek (by omega) (fun σ h => ?_)
    exact ih (k + 1) (vk + 1) (vp_updL e k (e (k + 9))) σ (by rw [ek]; exact nI_1 k) (by omega) h2 h
set_option maxRecDepth 100000 in
theorem rt_result {G : rv_G} {σ0 σ : rv_S} {y w r : Nat} {s : Md} {vw sg many least most : Int32} {sum : Int64} (ew : vw = nI w) (hw : w < 120) (er : s.nres = nI r) (hr : r ≤ 400) (h : MI σ0 σ y (md y s)) :
    rv_Ct G i_Model_result_IIIJIIV 0 0 [.ref y, .int sg, .int vw, .int many, .long sum, .int least, .int most] σ (fun q σ' => q = none ∧ MI σ0 σ' y (md y (md_res s r w sg (many, sum, least, most)))) := by
  refine rv_ct (M := m_Model_result_IIIJIIV) rfl (by decide) rfl rfl ?_
  refine rv_V.run rv_gd_Model_result_IIIJIIV [13, 54] 400 ?_
  refine Exists.intro _ (And.intro h.ob ?_)
  refine And.intro (fun c1 => ?_) (fun c1 => ?_)
  · have hr4 : r = 400 := (nI_eq (a := r) (b := 400) (by omega) (by decide)).mp (by rw [← er]; exact c1)
    refine lp_shift s (fun x8 σ h => ?_) 3591 0 _ s.eRow σ rfl rfl rfl h
    refine (rt_put (r := 399) x8 ew hw (by show s.nres - 1 = _; rw [er, hr4]; exact nI_pred 399) (by decide) h).mono ?_
    rintro q σ' ⟨k1, k2⟩
    refine ⟨k1, ?_⟩
    rw [show md_res s r w sg (many, sum, least, most) = _ from if_pos hr4]
    exact k2
  · have hr4 : ¬ r = 400 := fun z => c1 (by rw [show (s.nres = _) from er, z]; rfl)
    refine (rt_put _ ew hw er (by omega) h).mono ?_
    rintro q σ' ⟨k1, k2⟩
    refine ⟨k1, ?_⟩
    rw [show md_res s r w sg (many, sum, least, most) = _ from if_neg hr4]
    exact k2
end
section
/-! THE REFERENCE: telling, removing, what is due -/
def md_told (s : Md) (w : Nat) : Md :=
  let s := s.u_wTold (va_up s.wTold w true)
  let s := s.u_wCame (va_up s.wCame w false)
  let s := s.u_tMany (upd s.tMany w ((s.wMany w)))
  let s := s.u_tSum (vp_updL s.tSum w ((s.wSum w)))
  let s := s.u_tLeast (upd s.tLeast w ((s.wLeast w)))
  let s := s.u_tMost (upd s.tMost w ((s.wMost w)))
  s
def md_tell (s : Md) (r w : Nat) : Md := md_told (md_res s r w 1 (mw s w).2.2.1) w
def md_back (s : Md) (r w : Nat) : Md := md_res s r w (-1) (mw s w).2.2.2
set_option maxRecDepth 100000 in
theorem lp_told {G : rv_G} {σ0 σ : rv_S} {y w : Nat} {s : Md} {vw : Int32} (ew : vw = nI w) (hw : w < 120) (h : MI σ0 σ y (md y s)) :
    rv_V G m_Model_tell 0 0 (fun q σ' => q = none ∧ MI σ0 σ' y (md y (md_told s w))) 30 [some (.ref y), some (.int vw)] [] σ 0 0 := by
  refine rv_V.run rv_gd_Model_tell [] 400 ?_
  refine Exists.intro _ (And.intro h.ob ?_)
  refine h.s28 ew hw true rfl (fun σ h => ?_)
  refine Exists.intro _ (And.intro h.ob ?_)
  refine h.s29 ew hw false rfl (fun σ h => ?_)
  refine Exists.intro _ (And.intro h.ob ?_)
  refine Exists.intro _ (And.intro h.ob ?_)
  refine h.l24 ew hw ?_
  refine h.s30 ew hw (fun σ h => ?_)
  refine Exists.intro _ (And.intro h.ob ?_)
  refine Exists.intro _ (And.intro h.ob ?_)
  refine h.l25 ew hw ?_
  refine h.s31 ew hw (fun σ h => ?_)
  refine Exists.intro _ (And.intro h.ob ?_)
  refine Exists.intro _ (And.intro h.ob ?_)
  refine h.l26 ew hw ?_
  refine h.s32 ew hw (fun σ h => ?_)
  refine Exists.intro _ (And.intro h.ob ?_)
  refine Exists.intro _ (And.intro h.ob ?_)
  refine h.l27 ew hw ?_
  refine h.s33 ew hw (fun σ h => ?_)
  exact ⟨rfl, h⟩
set_option maxRecDepth 100000 in
theorem rt_tell {G : rv_G} {σ0 σ : rv_S} {y w r : Nat} {s : Md} {vw : Int32} (ew : vw = nI w) (hw : w < 120) (er : s.nres = nI r) (hr : r ≤ 400) (h : MI σ0 σ y (md y s)) :
    rv_Ct G i_Model_tell 0 0 [.ref y, .int vw] σ (fun q σ' => q = none ∧ MI σ0 σ' y (md y (md_tell s r w))) := by
  refine rv_ct (M := m_Model_tell) rfl (by decide) rfl rfl ?_
  refine rv_V.run rv_gd_Model_tell [30] 400 ?_
  refine Exists.intro _ (And.intro h.ob ?_)
  refine h.l24 ew hw ?_
  refine Exists.intro _ (And.intro h.ob ?_)
  refine h.l25 ew hw ?_
  refine Exists.intro _ (And.intro h.ob ?_)
  refine h.l26 ew hw ?_
  refine Exists.intro _ (And.intro h.ob ?_)
  refine h.l27 ew hw ?_
  refine And.intro (Exists.intro _ h.ob) ?_
  refine ⟨_, _, _, rt_result ew hw er hr h, Nat.zero_le _, Nat.zero_le _, rfl, ?_⟩
  rintro _ σ ⟨rfl, h⟩
  exact lp_told ew hw h
set_option maxRecDepth 100000 in
theorem rt_takeBack {G : rv_G} {σ0 σ : rv_S} {y w r : Nat} {s : Md} {vw : Int32} (ew : vw = nI w) (hw : w < 120) (er : s.nres = nI r) (hr : r ≤ 400) (h : MI σ0 σ y (md y s)) :
    rv_Ct G i_Model_takeBack 0 0 [.ref y, .int vw] σ (fun q σ' => q = none ∧ MI σ0 σ' y (md y (md_back s r w))) := by
  refine rv_ct (M := m_Model_takeBack) rfl (by decide) rfl rfl ?_
  refine rv_V.run rv_gd_Model_takeBack [] 400 ?_
  refine Exists.intro _ (And.intro h.ob ?_)
  refine h.l30 ew hw ?_
  refine Exists.intro _ (And.intro h.ob ?_)
  refine h.l31 ew hw ?_
  refine Exists.intro _ (And.intro h.ob ?_)
  refine h.l32 ew hw ?_
  refine Exists.intro _ (And.intro h.ob ?_)
  refine h.l33 ew hw ?_
  refine And.intro (Exists.intro _ h.ob) ?_
  refine ⟨_, _, _, rt_result ew hw er hr h, Nat.zero_le _, Nat.zero_le _, rfl, ?_⟩
  rintro _ σ ⟨rfl, h⟩
  exact ⟨rfl, h⟩
def md_mv (s : Md) (k : Nat) : Md :=
  let s := s.u_wOp (upd s.wOp k ((s.wOp (k + 1))))
  let s := s.u_wKey (upd s.wKey k ((s.wKey (k + 1))))
  let s := s.u_wBeg (upd s.wBeg k ((s.wBeg (k + 1))))
  let s := s.u_wEnd (upd s.wEnd k ((s.wEnd (k + 1))))
  let s := s.u_wMany (upd s.wMany k ((s.wMany (k + 1))))
  let s := s.u_wSum (vp_updL s.wSum k ((s.wSum (k + 1))))
  let s := s.u_wLeast (upd s.wLeast k ((s.wLeast (k + 1))))
  let s := s.u_wMost (upd s.wMost k ((s.wMost (k + 1))))
  let s := s.u_wTold (va_up s.wTold k (s.wTold (k + 1)))
  let s := s.u_wCame (va_up s.wCame k (s.wCame (k + 1)))
  let s := s.u_tMany (upd s.tMany k ((s.tMany (k + 1))))
  let s := s.u_tSum (vp_updL s.tSum k ((s.tSum (k + 1))))
  let s := s.u_tLeast (upd s.tLeast k ((s.tLeast (k + 1))))
  let s := s.u_tMost (upd s.tMost k ((s.tMost (k + 1))))
  s
theorem mv_nwin (s : Md) (k : Nat) : (md_mv s k).nwin = s.nwin := by
  obtain ⟨a, b, c, d, e, f⟩ := s
  rfl
def rm_run : Nat → Nat → Md → Md
  | 0, _, s => s
  | t + 1, k, s => rm_run t (k + 1) (md_mv s k)
def md_rem (s : Md) (n w : Nat) : Md := rm_run (n - 1 - w) w (s.u_nwin (s.nwin - 1))
set_option maxRecDepth 100000 in
theorem lp_mremove {G : rv_G} {σ0 : rv_S} {y m : Nat} {v1 : Int32} (hm : m < 120) (S : Md) : ∀ (t k : Nat) (vk : Int32) (s : Md) (σ : rv_S), vk = nI k → k + t = m → s.nwin = nI m → rm_run t k s = S → MI σ0 σ y (md y s) →
    rv_V G m_Model_remove 0 0 (fun q σ' => q = none ∧ MI σ0 σ' y (md y S)) 12 [some (.ref y), some (.int v1), some (.int vk)] [] σ 0 0 := by
  intro t
  induction t with
  | zero =>
    intro k vk s σ ek h1 hn hS h
    refine rv_V.run rv_gd_Model_remove [12] 400 ?_
    refine Exists.intro _ (And.intro h.ob ?_)
    refine And.intro (fun c1 => ?_) (fun c1 => ?_)
    · subst hS
      exact ⟨rfl, h⟩
    · exact absurd ((rv_leN hn ek (by omega) (by omega)).mpr (by omega)) c1
  | succ t ih =>
    intro k vk s σ ek h1 hn hS h
    have ek1 : vk + 1 = nI (k + 1) := by rw [ek]; exact nI_1 k
    refine rv_V.run rv_gd_Model_remove [12] 400 ?_
    refine Exists.intro _ (And.intro h.ob ?_)
    refine And.intro (fun c1 => ?_) (fun c1 => ?_)
    · exact absurd ((rv_leN hn ek (by omega) (by omega)).mp c1) (by omega)
    refine Exists.intro _ (And.intro h.ob ?_)
    refine Exists.intro _ (And.intro h.ob ?_)
    refine h.l20 ek1 (by omega) ?_
    refine h.s20 ek (by omega) (fun σ h => ?_)
    refine Exists.intro _ (And.intro h.ob ?_)
    refine Exists.intro _ (And.intro h.ob ?_)
    refine h.l21 ek1 (by omega) ?_
    refine h.s21 ek (by omega) (fun σ h => ?_)
    refine Exists.intro _ (And.intro h.ob ?_)
    refine Exists.intro _ (And.intro h.ob ?_)
    refine h.l22 ek1 (by omega) ?_
    refine h.s22 ek (by omega) (fun σ h => ?_)
    refine Exists.intro _ (And.intro h.ob ?_)
    refine Exists.intro _ (And.intro h.ob ?_)
    refine h.l23 ek1 (by omega) ?_
    refine h.s23 ek (by omega) (fun σ h => ?_)
    refine Exists.intro _ (And.intro h.ob ?_)
    refine Exists.intro _ (And.intro h.ob ?_)
    refine h.l24 ek1 (by omega) ?_
    refine h.s24 ek (by omega) (fun σ h => ?_)
    refine Exists.intro _ (And.intro h.ob ?_)
    refine Exists.intro _ (And.intro h.ob ?_)
    refine h.l25 ek1 (by omega) ?_
    refine h.s25 ek (by omega) (fun σ h => ?_)
    refine Exists.intro _ (And.intro h.ob ?_)
    refine Exists.intro _ (And.intro h.ob ?_)
    refine h.l26 ek1 (by omega) ?_
    refine h.s26 ek (by omega) (fun σ h => ?_)
    refine Exists.intro _ (And.intro h.ob ?_)
    refine Exists.intro _ (And.intro h.ob ?_)
    refine h.l27 ek1 (by omega) ?_
    refine h.s27 ek (by omega) (fun σ h => ?_)
    refine Exists.intro _ (And.intro h.ob ?_)
    refine Exists.intro _ (And.intro h.ob ?_)
    refine h.l28 ek1 (by omega) ?_
    refine h.s28 ek (by omega) _ rfl (fun σ h => ?_)
    refine Exists.intro _ (And.intro h.ob ?_)
    refine Exists.intro _ (And.intro h.ob ?_)
    refine h.l29 ek1 (by omega) ?_
    refine h.s29 ek (by omega) _ rfl (fun σ h => ?_)
    refine Exists.intro _ (And.intro h.ob ?_)
    refine Exists.intro _ (And.intro h.ob ?_)
    refine h.l30 ek1 (by omega) ?_
    refine h.s30 ek (by omega) (fun σ h => ?_)
    refine Exists.intro _ (And.intro h.ob ?_)
    refine Exists.intro _ (And.intro h.ob ?_)
    refine h.l31 ek1 (by omega) ?_
    refine h.s31 ek (by omega) (fun σ h => ?_)
    refine Exists.intro _ (And.intro h.ob ?_)
    refine Exists.intro _ (And.intro h.ob ?_)
    refine h.l32 ek1 (by omega) ?_
    refine h.s32 ek (by omega) (fun σ h => ?_)
    refine Exists.intro _ (And.intro h.ob ?_)
    refine Exists.intro _ (And.intro h.ob ?_)
    refine h.l33 ek1 (by omega) ?_
    refine h.s33 ek (by omega) (fun σ h => ?_)
    exact ih (k + 1) (vk + 1) (md_mv s k) σ ek1 (by omega) ((mv_nwin s k).trans hn) hS h
set_option maxRecDepth 100000 in
theorem rt_remove {G : rv_G} {σ0 σ : rv_S} {y w n : Nat} {s : Md} {vw : Int32} (ew : vw = nI w) (hw : w < n) (en : s.nwin = nI n) (hn : n ≤ 120) (h : MI σ0 σ y (md y s)) :
    rv_Ct G i_Model_remove 0 0 [.ref y, .int vw] σ (fun q σ' => q = none ∧ MI σ0 σ' y (md y (md_rem s n w))) := by
  refine rv_ct (M := m_Model_remove) rfl (by decide) rfl rfl ?_
  refine rv_V.run rv_gd_Model_remove [12] 400 ?_
  refine Exists.intro _ (And.intro h.ob ?_)
  refine h.p22 (fun σ h => ?_)
  exact lp_mremove (m := n - 1) (by omega) _ (n - 1 - w) w vw (s.u_nwin (s.nwin - 1)) σ ew (by omega) (by show s.nwin - 1 = _; rw [en]; obtain ⟨t, rfl⟩ : ∃ t, n = t + 1 := ⟨n - 1, by omega⟩; exact nI_pred t) rfl h
def ah (s : Md) (w v : Nat) : Bool := if s.wEnd w = s.wEnd v then (if s.wKey w = s.wKey v then decide (s.wBeg w < s.wBeg v) else decide (s.wKey w < s.wKey v)) else decide (s.wEnd w < s.wEnd v)
set_option maxRecDepth 100000 in
theorem rt_isAhead {G : rv_G} {σ0 σ : rv_S} {y w v : Nat} {s : Md} {vw vv : Int32} (ew : vw = nI w) (hw : w < 120) (ev : vv = nI v) (hv : v < 120) (h : MI σ0 σ y (md y s)) :
    rv_Ct G i_Model_isAhead 0 0 [.ref y, .int vw, .int vv] σ (fun q σ' => q = some (.int (rv_b (ah s w v))) ∧ σ' = σ) := by
  refine rv_ct (M := m_Model_isAhead) rfl (by decide) rfl rfl ?_
  refine rv_V.run rv_gd_Model_isAhead [] 400 ?_
  refine Exists.intro _ (And.intro h.ob ?_)
  refine h.l23 ew hw ?_
  refine Exists.intro _ (And.intro h.ob ?_)
  refine h.l23 ev hv ?_
  refine And.intro (fun c1 => ?_) (fun c1 => ?_)
  · refine Exists.intro _ (And.intro h.ob ?_)
    refine h.l21 ew hw ?_
    refine Exists.intro _ (And.intro h.ob ?_)
    refine h.l21 ev hv ?_
    refine And.intro (fun c2 => ?_) (fun c2 => ?_)
    · refine Exists.intro _ (And.intro h.ob ?_)
      refine h.l22 ew hw ?_
      refine Exists.intro _ (And.intro h.ob ?_)
      refine h.l22 ev hv ?_
      refine And.intro (fun c9 => ?_) (fun c9 => ?_)
      · refine And.intro (Or.inl rfl) ⟨?_, rfl⟩
        unfold ah
        rw [if_pos c1, if_pos c2, decide_eq_false (Int32.not_lt.mpr c9)]; rfl
      · refine And.intro (Or.inr rfl) ⟨?_, rfl⟩
        unfold ah
        rw [if_pos c1, if_pos c2, decide_eq_true (Int32.not_le.mp c9)]; rfl
    · refine Exists.intro _ (And.intro h.ob ?_)
      refine h.l21 ew hw ?_
      refine Exists.intro _ (And.intro h.ob ?_)
      refine h.l21 ev hv ?_
      refine And.intro (fun c9 => ?_) (fun c9 => ?_)
      · refine And.intro (Or.inl rfl) ⟨?_, rfl⟩
        unfold ah
        rw [if_pos c1, if_neg c2, decide_eq_false (Int32.not_lt.mpr c9)]; rfl
      · refine And.intro (Or.inr rfl) ⟨?_, rfl⟩
        unfold ah
        rw [if_pos c1, if_neg c2, decide_eq_true (Int32.not_le.mp c9)]; rfl
  · refine Exists.intro _ (And.intro h.ob ?_)
    refine h.l23 ew hw ?_
    refine Exists.intro _ (And.intro h.ob ?_)
    refine h.l23 ev hv ?_
    refine And.intro (fun c9 => ?_) (fun c9 => ?_)
    · refine And.intro (Or.inl rfl) ⟨?_, rfl⟩
      unfold ah
      rw [if_neg c1, decide_eq_false (Int32.not_lt.mpr c9)]; rfl
    · refine And.intro (Or.inr rfl) ⟨?_, rfl⟩
      unfold ah
      rw [if_neg c1, decide_eq_true (Int32.not_le.mp c9)]; rfl
end
section
/-! THE REFERENCE: what is due, found, made -/
def oi : Option Nat → Int32
  | none => -99999999
  | some j => nI j
theorem oi_none {b : Option Nat} (hb : ∀ j, b = some j → j < 120) : oi b = -99999999 ↔ b = none := by
  cases b with
  | none => exact ⟨fun _ => rfl, fun _ => rfl⟩
  | some j =>
    refine ⟨fun z => ?_, fun z => by cases z⟩
    have hj := hb j rfl
    have h1 : (0 : Int32) ≤ nI j := nI_pos' (by omega)
    rw [show nI j = -99999999 from z] at h1
    exact absurd h1 (by decide)
def du_is (s : Md) (o : Nat) (g : Bool) (w : Nat) : Bool := decide (s.wOp w = nI o) && (if g = true then decide (s.wEnd w + s.oLt o ≤ s.oMark o) else (!s.wTold w && decide (s.wEnd w ≤ s.oMark o)))
def du_bt (s : Md) (w : Nat) (b : Option Nat) : Bool := match b with
  | none => true
  | some v => ah s w v
def du_run (s : Md) (o : Nat) (g : Bool) : Nat → Nat → Option Nat → Option Nat
  | 0, _, b => b
  | t + 1, w, b => du_run s o g t (w + 1) (if du_is s o g w = true ∧ du_bt s w b = true then some w else b)
set_option maxRecDepth 100000 in
theorem lp_due {G : rv_G} {σ0 σ : rv_S} {y o n : Nat} {s : Md} {vo : Int32} {g : Bool} (eo : vo = nI o) (ho : o < 5) (en : s.nwin = nI n) (hn : n ≤ 120) (h : MI σ0 σ y (md y s)) : ∀ (t w : Nat) (vw bv : Int32) (b : Option Nat) (x5 : Option Value), vw = nI w → w + t = n → bv = oi b → (∀ j, b = some j → j < 120) →
    rv_V G m_Model_due 0 0 (fun q σ' => q = some (.int (oi (du_run s o g t w b))) ∧ σ' = σ) 6 [some (.ref y), some (.int vo), some (.int (rv_b g)), some (.int bv), some (.int vw), x5] [] σ 0 0 := by
  intro t
  induction t with
  | zero =>
    intro w vw bv b x5 ew h1 eb hb
    refine rv_V.run rv_gd_Model_due [6] 400 ?_
    refine Exists.intro _ (And.intro h.ob ?_)
    refine And.intro (fun c1 => ?_) (fun c1 => ?_)
    · exact And.intro trivial ⟨by rw [eb]; rfl, rfl⟩
    · exact absurd ((rv_leN en ew (by omega) (by omega)).mpr (by omega)) c1
  | succ t ih =>
    intro w vw bv b x5 ew h1 eb hb
    have at105 : ∀ (bv' : Int32) (b' : Option Nat) (x5 : Option Value), bv' = oi b' → (∀ j, b' = some j → j < 120) → du_run s o g (t + 1) w b = du_run s o g t (w + 1) b' → rv_V G m_Model_due 0 0 (fun q σ' => q = some (.int (oi (du_run s o g (t + 1) w b))) ∧ σ' = σ) 105 [some (.ref y), some (.int vo), some (.int (rv_b g)), some (.int bv'), some (.int vw), x5] [] σ 0 0 := by
      intro bv' b' x5 e1 e2 e3
      refine rv_V.run rv_gd_Model_due [6] 400 ?_
      rw [e3]
      exact ih (w + 1) (vw + 1) bv' b' x5 (by rw [ew]; exact nI_1 w) (by omega) e1 e2
    have at81 : ∀ b0 : Bool, du_is s o g w = b0 → rv_V G m_Model_due 0 0 (fun q σ' => q = some (.int (oi (du_run s o g (t + 1) w b))) ∧ σ' = σ) 81 [some (.ref y), some (.int vo), some (.int (rv_b g)), some (.int bv), some (.int vw), some (.int (rv_b b0))] [] σ 0 0 := by
      intro b0 e0
      have yes : b0 = true → du_bt s w b = true → du_run s o g (t + 1) w b = du_run s o g t (w + 1) (some w) := fun z1 z2 => by
        conv => lhs; unfold du_run
        rw [if_pos ⟨e0.trans z1, z2⟩]
      have no : (b0 = false ∨ du_bt s w b = false) → du_run s o g (t + 1) w b = du_run s o g t (w + 1) b := fun z => by
        conv => lhs; unfold du_run
        rw [if_neg (fun q => by
          rcases z with z | z
          · rw [e0, z] at q; exact absurd q.1 (by decide)
          · rw [z] at q; exact absurd q.2 (by decide))]
      refine rv_V.run rv_gd_Model_due [105] 400 ?_
      refine And.intro (fun c1 => ?_) (fun c1 => ?_)
      · exact at105 bv b _ eb hb (no (Or.inl (rv_b0.mp c1)))
      refine And.intro (fun c2 => ?_) (fun c2 => ?_)
      · have hbn := (oi_none hb).mp (eb.symm.trans c2)
        subst hbn
        exact at105 vw (some w) _ ew (fun j hj => by cases hj; omega) (yes (rv_bn c1) rfl)
      · cases b with
        | none => exact absurd eb c2
        | some v =>
          refine And.intro (Exists.intro _ h.ob) ?_
          refine ⟨_, _, _, rt_isAhead ew (by omega) eb (hb v rfl) h, Nat.zero_le _, Nat.zero_le _, rfl, ?_⟩
          rintro _ σ ⟨rfl, rfl⟩
          refine And.intro (fun c3 => ?_) (fun c3 => ?_)
          · exact at105 bv (some v) _ eb hb (no (Or.inr (rv_b0.mp c3)))
          · exact at105 vw (some w) _ ew (fun j hj => by cases hj; omega) (yes (rv_bn c1) (rv_bn c3))
    refine rv_V.run rv_gd_Model_due [6, 81] 400 ?_
    refine Exists.intro _ (And.intro h.ob ?_)
    refine And.intro (fun c1 => ?_) (fun c1 => ?_)
    · exact absurd ((rv_leN en ew (by omega) (by omega)).mp c1) (by omega)
    refine Exists.intro _ (And.intro h.ob ?_)
    refine h.l20 ew (by omega) ?_
    refine And.intro (fun c2 => ?_) (fun c2 => ?_)
    · have hop : decide (s.wOp w = nI o) = true := decide_eq_true (by rw [← eo]; exact c2)
      refine And.intro (fun c3 => ?_) (fun c3 => ?_)
      · have hg := rv_b0.mp c3
        have du : ∀ b1 : Bool, (!s.wTold w && decide (s.wEnd w ≤ s.oMark o)) = b1 → du_is s o g w = b1 := fun b1 z => by
          unfold du_is
          rw [hop, hg, if_neg (by decide), z]; rfl
        refine Exists.intro _ (And.intro h.ob ?_)
        refine h.l28 ew (by omega) ?_
        refine And.intro (fun c4 => ?_) (fun c4 => ?_)
        · have ht := rv_b0.mp c4
          refine Exists.intro _ (And.intro h.ob ?_)
          refine h.l23 ew (by omega) ?_
          refine Exists.intro _ (And.intro h.ob ?_)
          refine h.l6 eo ho ?_
          refine And.intro (fun c5 => ?_) (fun c5 => ?_)
          · exact at81 false (du _ (by rw [ht, decide_eq_false (Int32.not_le.mpr c5)]; rfl))
          · exact at81 true (du _ (by rw [ht, decide_eq_true (Int32.not_lt.mp c5)]; rfl))
        · exact at81 false (du _ (by rw [rv_bn c4]; rfl))
      · have hg := rv_bn c3
        have du : ∀ b1 : Bool, decide (s.wEnd w + s.oLt o ≤ s.oMark o) = b1 → du_is s o g w = b1 := fun b1 z => by
          unfold du_is
          rw [hop, hg, if_pos rfl, z]; rfl
        refine Exists.intro _ (And.intro h.ob ?_)
        refine h.l23 ew (by omega) ?_
        refine And.intro (Exists.intro _ h.ob) ?_
        refine ⟨_, _, _, rt_isClosed h eo ho _, Nat.zero_le _, Nat.zero_le _, rfl, ?_⟩
        rintro _ σ ⟨rfl, rfl⟩
        refine And.intro (fun c4 => ?_) (fun c4 => ?_)
        · exact at81 false (du _ (rv_b0.mp c4))
        · exact at81 true (du _ (rv_bn c4))
    · refine at81 false ?_
      unfold du_is
      rw [decide_eq_false (by rw [← eo]; exact c2)]; rfl
set_option maxRecDepth 100000 in
theorem rt_due {G : rv_G} {σ0 σ : rv_S} {y o n : Nat} {s : Md} {vo : Int32} (g : Bool) (eo : vo = nI o) (ho : o < 5) (en : s.nwin = nI n) (hn : n ≤ 120) (h : MI σ0 σ y (md y s)) :
    rv_Ct G i_Model_due 0 0 [.ref y, .int vo, .int (rv_b g)] σ (fun q σ' => q = some (.int (oi (du_run s o g n 0 none))) ∧ σ' = σ) := by
  refine rv_ct (M := m_Model_due) rfl (by decide) rfl rfl ?_
  refine rv_V.run rv_gd_Model_due [6] 400 ?_
  exact lp_due eo ho en hn h n 0 _ _ none _ rfl (by omega) rfl (fun j hj => by cases hj)
def fd_run (s : Md) (o k b : Int32) : Nat → Nat → Option Nat
  | 0, _ => none
  | t + 1, w => if s.wOp w = o ∧ s.wKey w = k ∧ s.wBeg w = b then some w else fd_run s o k b t (w + 1)
set_option maxRecDepth 100000 in
theorem lp_found {G : rv_G} {σ0 σ : rv_S} {y n : Nat} {s : Md} {vo k b : Int32} (en : s.nwin = nI n) (hn : n ≤ 120) (h : MI σ0 σ y (md y s)) : ∀ (t w : Nat) (vw : Int32), vw = nI w → w + t = n →
    rv_V G m_Model_found 0 0 (fun q σ' => q = some (.int (oi (fd_run s vo k b t w))) ∧ σ' = σ) 3 [some (.ref y), some (.int vo), some (.int k), some (.int b), some (.int vw)] [] σ 0 0 := by
  intro t
  induction t with
  | zero =>
    intro w vw ew h1
    refine rv_V.run rv_gd_Model_found [3] 400 ?_
    refine Exists.intro _ (And.intro h.ob ?_)
    refine And.intro (fun c1 => ?_) (fun c1 => ?_)
    · exact And.intro trivial ⟨rfl, rfl⟩
    · exact absurd ((rv_leN en ew (by omega) (by omega)).mpr (by omega)) c1
  | succ t ih =>
    intro w vw ew h1
    have next : ¬ (s.wOp w = vo ∧ s.wKey w = k ∧ s.wBeg w = b) → rv_V G m_Model_found 0 0 (fun q σ' => q = some (.int (oi (fd_run s vo k b (t + 1) w))) ∧ σ' = σ) 48 [some (.ref y), some (.int vo), some (.int k), some (.int b), some (.int vw)] [] σ 0 0 := by
      intro hno
      refine rv_V.run rv_gd_Model_found [3] 400 ?_
      rw [show fd_run s vo k b (t + 1) w = fd_run s vo k b t (w + 1) from if_neg hno]
      exact ih (w + 1) (vw + 1) (by rw [ew]; exact nI_1 w) (by omega)
    refine rv_V.run rv_gd_Model_found [3, 48] 400 ?_
    refine Exists.intro _ (And.intro h.ob ?_)
    refine And.intro (fun c1 => ?_) (fun c1 => ?_)
    · exact absurd ((rv_leN en ew (by omega) (by omega)).mp c1) (by omega)
    refine Exists.intro _ (And.intro h.ob ?_)
    refine h.l20 ew (by omega) ?_
    refine And.intro (fun c2 => ?_) (fun c2 => next (fun z => c2 z.1))
    refine Exists.intro _ (And.intro h.ob ?_)
    refine h.l21 ew (by omega) ?_
    refine And.intro (fun c3 => ?_) (fun c3 => next (fun z => c3 z.2.1))
    refine Exists.intro _ (And.intro h.ob ?_)
    refine h.l22 ew (by omega) ?_
    refine And.intro (fun c4 => ?_) (fun c4 => next (fun z => c4 z.2.2))
    refine And.intro trivial ⟨?_, rfl⟩
    rw [show fd_run s vo k b (t + 1) w = some w from if_pos ⟨c2, c3, c4⟩, ew]
    rfl
set_option maxRecDepth 100000 in
theorem rt_found {G : rv_G} {σ0 σ : rv_S} {y n : Nat} {s : Md} (vo k b : Int32) (en : s.nwin = nI n) (hn : n ≤ 120) (h : MI σ0 σ y (md y s)) :
    rv_Ct G i_Model_found 0 0 [.ref y, .int vo, .int k, .int b] σ (fun q σ' => q = some (.int (oi (fd_run s vo k b n 0))) ∧ σ' = σ) := by
  refine rv_ct (M := m_Model_found) rfl (by decide) rfl rfl ?_
  refine rv_V.run rv_gd_Model_found [3] 400 ?_
  exact lp_found en hn h n 0 _ rfl (by omega)
def md_made (s : Md) (n : Nat) (vo k b e : Int32) : Md :=
  let s := s.u_wOp (upd s.wOp n (vo))
  let s := s.u_wKey (upd s.wKey n (k))
  let s := s.u_wBeg (upd s.wBeg n (b))
  let s := s.u_wEnd (upd s.wEnd n (e))
  let s := s.u_wMany (upd s.wMany n (0))
  let s := s.u_wSum (vp_updL s.wSum n ((0 : Int64)))
  let s := s.u_wTold (va_up s.wTold n false)
  let s := s.u_wCame (va_up s.wCame n false)
  let s := s.u_nwin ((s.nwin + 1))
  s
set_option maxRecDepth 100000 in
theorem rt_made {G : rv_G} {σ0 σ : rv_S} {y n : Nat} {s : Md} (vo k b e : Int32) (en : s.nwin = nI n) (hn : n < 120) (h : MI σ0 σ y (md y s)) :
    rv_Ct G i_Model_made 0 0 [.ref y, .int vo, .int k, .int b, .int e] σ (fun q σ' => q = some (.int (nI n)) ∧ MI σ0 σ' y (md y (md_made s n vo k b e))) := by
  refine rv_ct (M := m_Model_made) rfl (by decide) rfl rfl ?_
  refine rv_V.run rv_gd_Model_made [] 400 ?_
  refine Exists.intro _ (And.intro h.ob ?_)
  refine Exists.intro _ (And.intro h.ob ?_)
  refine h.s20 en (by omega) (fun σ h => ?_)
  refine Exists.intro _ (And.intro h.ob ?_)
  refine Exists.intro _ (And.intro h.ob ?_)
  refine h.s21 en (by omega) (fun σ h => ?_)
  refine Exists.intro _ (And.intro h.ob ?_)
  refine Exists.intro _ (And.intro h.ob ?_)
  refine h.s22 en (by omega) (fun σ h => ?_)
  refine Exists.intro _ (And.intro h.ob ?_)
  refine Exists.intro _ (And.intro h.ob ?_)
  refine h.s23 en (by omega) (fun σ h => ?_)
  refine Exists.intro _ (And.intro h.ob ?_)
  refine Exists.intro _ (And.intro h.ob ?_)
  refine h.s24 en (by omega) (fun σ h => ?_)
  refine Exists.intro _ (And.intro h.ob ?_)
  refine Exists.intro _ (And.intro h.ob ?_)
  refine h.s25 en (by omega) (fun σ h => ?_)
  refine Exists.intro _ (And.intro h.ob ?_)
  refine Exists.intro _ (And.intro h.ob ?_)
  refine h.s28 en (by omega) false rfl (fun σ h => ?_)
  refine Exists.intro _ (And.intro h.ob ?_)
  refine Exists.intro _ (And.intro h.ob ?_)
  refine h.s29 en (by omega) false rfl (fun σ h => ?_)
  refine Exists.intro _ (And.intro h.ob ?_)
  refine h.p22  (fun σ h => ?_)
  refine Exists.intro _ (And.intro h.ob ?_)
  refine And.intro trivial ⟨?_, h⟩
  show some (Value.int (s.nwin + 1 - 1)) = _
  rw [en, nI_1, nI_pred]
end
section
/-! THE REFERENCE: a number comes into a window -/
def md_in1 (s : Md) (w : Nat) (l : Int32) : Md := s.u_wLeast (upd s.wLeast w l)
def md_in2 (s : Md) (w : Nat) (l : Int32) : Md := s.u_wMost (upd s.wMost w l)
def md_in3 (s : Md) (w : Nat) (v : Int32) : Md :=
  let s := s.u_wMany (upd s.wMany w (((s.wMany w) + 1)))
  let s := s.u_wSum (vp_updL s.wSum w (((s.wSum w) + v.toInt64)))
  let s := s.u_wCame (va_up s.wCame w true)
  s
def md_into (s : Md) (w : Nat) (v : Int32) : Md := md_in3 (md_in2 (md_in1 s w (if s.wMany w = 0 ∨ v < s.wLeast w then v else s.wLeast w)) w (if s.wMany w = 0 ∨ s.wMost w < v then v else s.wMost w)) w v
set_option maxRecDepth 100000 in
theorem lp_into3 {G : rv_G} {σ0 σ : rv_S} {y w : Nat} {s : Md} {vw v : Int32} (ew : vw = nI w) (hw : w < 120) (h : MI σ0 σ y (md y s)) :
    rv_V G m_Model_into 0 0 (fun q σ' => q = none ∧ MI σ0 σ' y (md y (md_in3 s w v))) 70 [some (.ref y), some (.int vw), some (.int v)] [] σ 0 0 := by
  refine rv_V.run rv_gd_Model_into [] 400 ?_
  refine Exists.intro _ (And.intro h.ob ?_)
  refine h.l24 ew hw ?_
  refine h.s24 ew hw (fun σ h => ?_)
  refine Exists.intro _ (And.intro h.ob ?_)
  refine h.l25 ew hw ?_
  refine h.s25 ew hw (fun σ h => ?_)
  refine Exists.intro _ (And.intro h.ob ?_)
  refine h.s29 ew hw true rfl (fun σ h => ?_)
  exact ⟨rfl, h⟩
set_option maxRecDepth 100000 in
theorem lp_into2 {G : rv_G} {σ0 σ : rv_S} {y w : Nat} {s : Md} {vw v : Int32} (ew : vw = nI w) (hw : w < 120) (h : MI σ0 σ y (md y s)) :
    rv_V G m_Model_into 0 0 (fun q σ' => q = none ∧ MI σ0 σ' y (md y (md_in3 (md_in2 s w (if s.wMany w = 0 ∨ s.wMost w < v then v else s.wMost w)) w v))) 35 [some (.ref y), some (.int vw), some (.int v)] [] σ 0 0 := by
  refine rv_V.run rv_gd_Model_into [70] 400 ?_
  refine Exists.intro _ (And.intro h.ob ?_)
  refine Exists.intro _ (And.intro h.ob ?_)
  refine h.l24 ew hw ?_
  refine And.intro (fun c1 => ?_) (fun c1 => ?_)
  · refine h.s27 ew hw (fun σ h => ?_)
    rw [if_pos (Or.inl c1)]
    exact lp_into3 ew hw h
  · refine Exists.intro _ (And.intro h.ob ?_)
    refine h.l27 ew hw ?_
    refine And.intro (fun c2 => ?_) (fun c2 => ?_)
    · refine Exists.intro _ (And.intro h.ob ?_)
      refine h.l27 ew hw ?_
      refine h.s27 ew hw (fun σ h => ?_)
      rw [if_neg (fun z => z.elim c1 (Int32.not_lt.mpr c2))]
      exact lp_into3 ew hw h
    · refine h.s27 ew hw (fun σ h => ?_)
      rw [if_pos (Or.inr (Int32.not_le.mp c2))]
      exact lp_into3 ew hw h
set_option maxRecDepth 100000 in
theorem rt_into {G : rv_G} {σ0 σ : rv_S} {y w : Nat} {s : Md} {vw : Int32} (v : Int32) (ew : vw = nI w) (hw : w < 120) (h : MI σ0 σ y (md y s)) :
    rv_Ct G i_Model_into 0 0 [.ref y, .int vw, .int v] σ (fun q σ' => q = none ∧ MI σ0 σ' y (md y (md_into s w v))) := by
  have go : ∀ (l : Int32) (σ : rv_S), MI σ0 σ y (md y (md_in1 s w l)) → l = (if s.wMany w = 0 ∨ v < s.wLeast w then v else s.wLeast w) → rv_V G m_Model_into 0 0 (fun q σ' => q = none ∧ MI σ0 σ' y (md y (md_into s w v))) 35 [some (.ref y), some (.int vw), some (.int v)] [] σ 0 0 := by
    intro l σ h el
    subst el
    exact lp_into2 ew hw h
  refine rv_ct (M := m_Model_into) rfl (by decide) rfl rfl ?_
  refine rv_V.run rv_gd_Model_into [35] 400 ?_
  refine Exists.intro _ (And.intro h.ob ?_)
  refine Exists.intro _ (And.intro h.ob ?_)
  refine h.l24 ew hw ?_
  refine And.intro (fun c1 => ?_) (fun c1 => ?_)
  · refine h.s26 ew hw (fun σ h => ?_)
    exact go _ σ h (by rw [if_pos (Or.inl c1)])
  · refine Exists.intro _ (And.intro h.ob ?_)
    refine h.l26 ew hw ?_
    refine And.intro (fun c2 => ?_) (fun c2 => ?_)
    · refine Exists.intro _ (And.intro h.ob ?_)
      refine h.l26 ew hw ?_
      refine h.s26 ew hw (fun σ h => ?_)
      exact go _ σ h (by rw [if_neg (fun z => z.elim c1 (Int32.not_lt.mpr c2))])
    · refine h.s26 ew hw (fun σ h => ?_)
      exact go _ σ h (by rw [if_pos (Or.inr (Int32.not_le.mp c2))])
/-! how many results there are then -/
def rq (r : Nat) : Nat := if r = 400 then 400 else r + 1
theorem rq_le {r : Nat} (h : r ≤ 400) : rq r ≤ 400 := by unfold rq; split <;> omega
theorem put_nres (s : Md) (r w : Nat) (sg : Int32) (t : Tl) : (md_put s r w sg t).nres = s.nres + 1 := by
  obtain ⟨a, b, c, d, e, f⟩ := s
  rfl
theorem res_nres {s : Md} {r : Nat} (w : Nat) (sg : Int32) (t : Tl) (er : s.nres = nI r) : (md_res s r w sg t).nres = nI (rq r) := by
  unfold md_res rq
  by_cases h : r = 400
  · rw [if_pos h, if_pos h, put_nres, show ((s.u_eRow (sh_run 3591 0 s.eRow)).u_nres (s.nres - 1)).nres = s.nres - 1 from rfl, er, h, nI_pred 399]
    rfl
  · rw [if_neg h, if_neg h, put_nres, er, nI_1]
theorem told_nres (s : Md) (w : Nat) : (md_told s w).nres = s.nres := by
  obtain ⟨a, b, c, d, e, f⟩ := s
  rfl
theorem back_nres {s : Md} {r : Nat} (w : Nat) (er : s.nres = nI r) : (md_back s r w).nres = nI (rq r) := res_nres w _ _ er
theorem tell_nres {s : Md} {r : Nat} (w : Nat) (er : s.nres = nI r) : (md_tell s r w).nres = nI (rq r) := (told_nres _ w).trans (res_nres w _ _ er)
/-- what follows of a number that came -/
def md_foll (s : Md) (r w o : Nat) : Md := if s.wTold w = true then (if s.oRule o = 1 then s else md_tell (md_back s r w) (rq r) w) else (if s.wEnd w ≤ s.oMark o then md_tell s r w else s)
set_option maxRecDepth 100000 in
theorem rt_follows {G : rv_G} {σ0 σ : rv_S} {y w r o : Nat} {s : Md} {vw : Int32} (ew : vw = nI w) (hw : w < 120) (er : s.nres = nI r) (hr : r ≤ 400) (eo : s.wOp w = nI o) (ho : o < 5) (h : MI σ0 σ y (md y s)) :
    rv_Ct G i_Model_follows 0 0 [.ref y, .int vw] σ (fun q σ' => q = none ∧ MI σ0 σ' y (md y (md_foll s r w o))) := by
  refine rv_ct (M := m_Model_follows) rfl (by decide) rfl rfl ?_
  refine rv_V.run rv_gd_Model_follows [] 400 ?_
  refine Exists.intro _ (And.intro h.ob ?_)
  refine h.l20 ew hw ?_
  refine Exists.intro _ (And.intro h.ob ?_)
  refine h.l28 ew hw ?_
  refine And.intro (fun c1 => ?_) (fun c1 => ?_)
  · have ht : ¬ s.wTold w = true := by rw [rv_b0.mp c1]; decide
    refine Exists.intro _ (And.intro h.ob ?_)
    refine h.l23 ew hw ?_
    refine Exists.intro _ (And.intro h.ob ?_)
    refine h.l6 eo ho ?_
    refine And.intro (fun c2 => ?_) (fun c2 => ?_)
    · refine ⟨rfl, ?_⟩
      rw [show md_foll s r w o = s from (if_neg ht).trans (if_neg (Int32.not_le.mpr c2))]
      exact h
    · refine And.intro (Exists.intro _ h.ob) ?_
      refine ⟨_, _, _, rt_tell ew hw er hr h, Nat.zero_le _, Nat.zero_le _, rfl, ?_⟩
      rintro _ σ ⟨rfl, h⟩
      refine ⟨rfl, ?_⟩
      rw [show md_foll s r w o = md_tell s r w from (if_neg ht).trans (if_pos (Int32.not_lt.mp c2))]
      exact h
  · have ht : s.wTold w = true := rv_bn c1
    refine Exists.intro _ (And.intro h.ob ?_)
    refine h.l5 eo ho ?_
    refine And.intro (fun c2 => ?_) (fun c2 => ?_)
    · refine ⟨rfl, ?_⟩
      rw [show md_foll s r w o = s from (if_pos ht).trans (if_pos c2)]
      exact h
    · refine And.intro (Exists.intro _ h.ob) ?_
      refine ⟨_, _, _, rt_takeBack ew hw er hr h, Nat.zero_le _, Nat.zero_le _, rfl, ?_⟩
      rintro _ σ ⟨rfl, h⟩
      refine And.intro (Exists.intro _ h.ob) ?_
      refine ⟨_, _, _, rt_tell ew hw (back_nres w er) (rq_le hr) h, Nat.zero_le _, Nat.zero_le _, rfl, ?_⟩
      rintro _ σ ⟨rfl, h⟩
      refine ⟨rfl, ?_⟩
      rw [show md_foll s r w o = md_tell (md_back s r w) (rq r) w from (if_pos ht).trans (if_neg c2)]
      exact h
def mt_is (s : Md) (w : Nat) (o k b e : Int32) : Bool := decide (s.wOp w = o ∧ s.wKey w = k ∧ s.wBeg w < e ∧ b < s.wEnd w)
set_option maxRecDepth 100000 in
theorem rt_meets {G : rv_G} {σ0 σ : rv_S} {y w : Nat} {s : Md} {vw : Int32} (vo k b e : Int32) (ew : vw = nI w) (hw : w < 120) (h : MI σ0 σ y (md y s)) :
    rv_Ct G i_Model_meets 0 0 [.ref y, .int vw, .int vo, .int k, .int b, .int e] σ (fun q σ' => q = some (.int (rv_b (mt_is s w vo k b e))) ∧ σ' = σ) := by
  have no : ¬ (s.wOp w = vo ∧ s.wKey w = k ∧ s.wBeg w < e ∧ b < s.wEnd w) → rv_V G m_Model_meets 0 0 (fun q σ' => q = some (.int (rv_b (mt_is s w vo k b e))) ∧ σ' = σ) 46 [some (.ref y), some (.int vw), some (.int vo), some (.int k), some (.int b), some (.int e)] [] σ 0 0 := by
    intro hno
    refine rv_V.run rv_gd_Model_meets [] 400 ?_
    refine And.intro (Or.inl rfl) ⟨?_, rfl⟩
    rw [show mt_is s w vo k b e = false from decide_eq_false hno]; rfl
  refine rv_ct (M := m_Model_meets) rfl (by decide) rfl rfl ?_
  refine rv_V.run rv_gd_Model_meets [46] 400 ?_
  refine Exists.intro _ (And.intro h.ob ?_)
  refine h.l20 ew hw ?_
  refine And.intro (fun c1 => ?_) (fun c1 => no (fun z => c1 z.1))
  refine Exists.intro _ (And.intro h.ob ?_)
  refine h.l21 ew hw ?_
  refine And.intro (fun c2 => ?_) (fun c2 => no (fun z => c2 z.2.1))
  refine Exists.intro _ (And.intro h.ob ?_)
  refine h.l22 ew hw ?_
  refine And.intro (fun c3 => no (fun z => Int32.not_lt.mpr c3 z.2.2.1)) (fun c3 => ?_)
  refine Exists.intro _ (And.intro h.ob ?_)
  refine h.l23 ew hw ?_
  refine And.intro (fun c4 => no (fun z => Int32.not_lt.mpr c4 z.2.2.2)) (fun c4 => ?_)
  refine And.intro (Or.inr rfl) ⟨?_, rfl⟩
  rw [show mt_is s w vo k b e = true from decide_eq_true ⟨c1, c2, Int32.not_le.mp c3, Int32.not_le.mp c4⟩]; rfl
end
section
/-! THE REFERENCE: what a row would join, the begins of a time, a row that came -/
def jo_st (s : Md) (w : Nat) : Md :=
  let s := s.u_jn (s.jn + 1)
  let s := s.u_jT (s.jT || s.wTold w)
  let s := if s.wBeg w < s.fB then s.u_fB (s.wBeg w) else s
  if s.fE < s.wEnd w then s.u_fE (s.wEnd w) else s
def jo_run (vo k b e : Int32) : Nat → Nat → Md → Md
  | 0, _, s => s
  | t + 1, w, s => jo_run vo k b e t (w + 1) (if mt_is s w vo k b e = true then jo_st s w else s)
def jo_0 (s : Md) (o : Nat) (time : Int32) : Md :=
  let s := s.u_fB time
  let s := s.u_fE (time + s.oSize o)
  let s := s.u_jn 0
  s.u_jT false
theorem jo_st_nwin (s : Md) (w : Nat) : (jo_st s w).nwin = s.nwin := by
  unfold jo_st
  dsimp only
  split <;> split <;> rfl
set_option maxRecDepth 100000 in
theorem lp_jo1 {G : rv_G} {σ0 σ : rv_S} {y w : Nat} {s : Md} {vo k time b e vw : Int32} {Rt : Option Value → rv_S → Prop} (ew : vw = nI w) (hw : w < 120) (h : MI σ0 σ y (md y s)) (next : ∀ σ, MI σ0 σ y (md y (if s.fE < s.wEnd w then s.u_fE (s.wEnd w) else s)) → rv_V G m_Model_joined 0 0 Rt 152 [some (.ref y), some (.int vo), some (.int k), some (.int time), some (.int b), some (.int e), some (.int vw)] [] σ 0 0) :
    rv_V G m_Model_joined 0 0 Rt 127 [some (.ref y), some (.int vo), some (.int k), some (.int time), some (.int b), some (.int e), some (.int vw)] [] σ 0 0 := by
  refine rv_V.run rv_gd_Model_joined [152] 400 ?_
  refine Exists.intro _ (And.intro h.ob ?_)
  refine h.l23 ew hw ?_
  refine Exists.intro _ (And.intro h.ob ?_)
  refine And.intro (fun c1 => ?_) (fun c1 => ?_)
  · exact next σ (by rw [if_neg (Int32.not_lt.mpr c1)]; exact h)
  · refine Exists.intro _ (And.intro h.ob ?_)
    refine h.l23 ew hw ?_
    refine h.p46 (fun σ h => ?_)
    exact next σ (by rw [if_pos (Int32.not_le.mp c1)]; exact h)
set_option maxRecDepth 100000 in
theorem lp_jo2 {G : rv_G} {σ0 σ : rv_S} {y w : Nat} {s : Md} {vo k time b e vw : Int32} {Rt : Option Value → rv_S → Prop} (ew : vw = nI w) (hw : w < 120) (h : MI σ0 σ y (md y s)) (next : ∀ σ, MI σ0 σ y (md y (if s.wBeg w < s.fB then s.u_fB (s.wBeg w) else s)) → rv_V G m_Model_joined 0 0 Rt 127 [some (.ref y), some (.int vo), some (.int k), some (.int time), some (.int b), some (.int e), some (.int vw)] [] σ 0 0) :
    rv_V G m_Model_joined 0 0 Rt 102 [some (.ref y), some (.int vo), some (.int k), some (.int time), some (.int b), some (.int e), some (.int vw)] [] σ 0 0 := by
  refine rv_V.run rv_gd_Model_joined [127] 400 ?_
  refine Exists.intro _ (And.intro h.ob ?_)
  refine h.l22 ew hw ?_
  refine Exists.intro _ (And.intro h.ob ?_)
  refine And.intro (fun c1 => ?_) (fun c1 => ?_)
  · exact next σ (by rw [if_neg (Int32.not_lt.mpr c1)]; exact h)
  · refine Exists.intro _ (And.intro h.ob ?_)
    refine h.l22 ew hw ?_
    refine h.p45 (fun σ h => ?_)
    exact next σ (by rw [if_pos (Int32.not_le.mp c1)]; exact h)
set_option maxRecDepth 100000 in
theorem lp_jo3 {G : rv_G} {σ0 σ : rv_S} {y w : Nat} {s : Md} {vo k time b e vw : Int32} {Rt : Option Value → rv_S → Prop} (ew : vw = nI w) (hw : w < 120) (h : MI σ0 σ y (md y s)) (next : ∀ σ, MI σ0 σ y (md y ((s.u_jn (s.jn + 1)).u_jT ((s.u_jn (s.jn + 1)).jT || (s.u_jn (s.jn + 1)).wTold w))) → rv_V G m_Model_joined 0 0 Rt 102 [some (.ref y), some (.int vo), some (.int k), some (.int time), some (.int b), some (.int e), some (.int vw)] [] σ 0 0) :
    rv_V G m_Model_joined 0 0 Rt 66 [some (.ref y), some (.int vo), some (.int k), some (.int time), some (.int b), some (.int e), some (.int vw)] [] σ 0 0 := by
  refine rv_V.run rv_gd_Model_joined [102] 400 ?_
  refine Exists.intro _ (And.intro h.ob ?_)
  refine h.p47 (fun σ h => ?_)
  refine Exists.intro _ (And.intro h.ob ?_)
  refine And.intro (fun c1 => ?_) (fun c1 => ?_)
  · refine Exists.intro _ (And.intro h.ob ?_)
    refine h.l28 ew hw ?_
    refine And.intro (fun c2 => ?_) (fun c2 => ?_)
    · refine h.p48 false rfl (fun σ h => ?_)
      exact next σ (by rw [rv_b0.mp c1, rv_b0.mp c2]; exact h)
    · refine h.p48 true rfl (fun σ h => ?_)
      exact next σ (by rw [rv_b0.mp c1, rv_bn c2]; exact h)
  · refine h.p48 true rfl (fun σ h => ?_)
    exact next σ (by rw [rv_bn c1]; exact h)
set_option maxRecDepth 100000 in
theorem lp_joined {G : rv_G} {σ0 : rv_S} {y n : Nat} {vo k time b e : Int32} (hn : n ≤ 120) (S : Md) : ∀ (t w : Nat) (vw : Int32) (s : Md) (σ : rv_S), vw = nI w → w + t = n → s.nwin = nI n → jo_run vo k b e t w s = S → MI σ0 σ y (md y s) →
    rv_V G m_Model_joined 0 0 (fun q σ' => q = none ∧ MI σ0 σ' y (md y S)) 39 [some (.ref y), some (.int vo), some (.int k), some (.int time), some (.int b), some (.int e), some (.int vw)] [] σ 0 0 := by
  intro t
  induction t with
  | zero =>
    intro w vw s σ ew h1 en hS h
    refine rv_V.run rv_gd_Model_joined [39] 400 ?_
    refine Exists.intro _ (And.intro h.ob ?_)
    refine And.intro (fun c1 => ?_) (fun c1 => ?_)
    · subst hS
      exact ⟨rfl, h⟩
    · exact absurd ((rv_leN en ew (by omega) (by omega)).mpr (by omega)) c1
  | succ t ih =>
    intro w vw s σ ew h1 en hS h
    have at152 : ∀ (s' : Md) (σ : rv_S), jo_run vo k b e (t + 1) w s = jo_run vo k b e t (w + 1) s' → s'.nwin = nI n → MI σ0 σ y (md y s') → rv_V G m_Model_joined 0 0 (fun q σ' => q = none ∧ MI σ0 σ' y (md y S)) 152 [some (.ref y), some (.int vo), some (.int k), some (.int time), some (.int b), some (.int e), some (.int vw)] [] σ 0 0 := by
      intro s' σ e1 e2 h
      refine rv_V.run rv_gd_Model_joined [39] 400 ?_
      exact ih (w + 1) (vw + 1) s' σ (by rw [ew]; exact nI_1 w) (by omega) e2 (e1.symm.trans hS) h
    refine rv_V.run rv_gd_Model_joined [39, 66, 152] 400 ?_
    refine Exists.intro _ (And.intro h.ob ?_)
    refine And.intro (fun c1 => ?_) (fun c1 => ?_)
    · exact absurd ((rv_leN en ew (by omega) (by omega)).mp c1) (by omega)
    refine And.intro (Exists.intro _ h.ob) ?_
    refine ⟨_, _, _, rt_meets vo k b e ew (by omega) h, Nat.zero_le _, Nat.zero_le _, rfl, ?_⟩
    rintro _ σ ⟨rfl, rfl⟩
    refine And.intro (fun c2 => ?_) (fun c2 => ?_)
    · refine at152 s σ ?_ en h
      conv => lhs; unfold jo_run
      rw [if_neg (by rw [rv_b0.mp c2]; decide)]
    · refine lp_jo3 ew (by omega) h (fun σ h => lp_jo2 ew (by omega) h (fun σ h => lp_jo1 ew (by omega) h (fun σ h => ?_)))
      refine at152 (jo_st s w) σ ?_ ((jo_st_nwin s w).trans en) h
      conv => lhs; unfold jo_run
      rw [if_pos (rv_bn c2)]
set_option maxRecDepth 100000 in
theorem rt_joined {G : rv_G} {σ0 σ : rv_S} {y o n : Nat} {s : Md} {vo : Int32} (k time : Int32) (eo : vo = nI o) (ho : o < 5) (en : s.nwin = nI n) (hn : n ≤ 120) (h : MI σ0 σ y (md y s)) :
    rv_Ct G i_Model_joined 0 0 [.ref y, .int vo, .int k, .int time] σ (fun q σ' => q = none ∧ MI σ0 σ' y (md y (jo_run vo k time (time + s.oSize o) n 0 (jo_0 s o time)))) := by
  refine rv_ct (M := m_Model_joined) rfl (by decide) rfl rfl ?_
  refine rv_V.run rv_gd_Model_joined [39] 400 ?_
  refine h.p45 (fun σ h => ?_)
  refine Exists.intro _ (And.intro h.ob ?_)
  refine h.l2 eo ho ?_
  refine h.p46 (fun σ h => ?_)
  refine h.p47 (fun σ h => ?_)
  refine h.p48 false rfl (fun σ h => ?_)
  refine Exists.intro _ (And.intro h.ob ?_)
  exact lp_joined hn _ n 0 _ (jo_0 s o time) σ rfl (by omega) en rfl h
def dn (v b : Int32) : Int32 := if v < v / b * b then v / b - 1 else v / b
set_option maxRecDepth 100000 in
theorem rt_down {G : rv_G} {σ : rv_S} (v b : Int32) (hb : ¬ b = 0) : rv_Ct G i_Model_down 0 0 [.int v, .int b] σ (fun q σ' => q = some (.int (dn v b)) ∧ σ' = σ) := by
  refine rv_ct (M := m_Model_down) rfl (by decide) rfl rfl ?_
  refine rv_V.run rv_gd_Model_down [] 400 ?_
  refine And.intro hb ?_
  refine And.intro (fun c1 => ?_) (fun c1 => ?_)
  · refine And.intro trivial ⟨?_, rfl⟩
    rw [show dn v b = v / b from if_neg (Int32.not_lt.mpr c1)]
  · refine And.intro trivial ⟨?_, rfl⟩
    rw [show dn v b = v / b - 1 from if_pos (Int32.not_le.mp c1)]
/-- the least begin, from the last one down -/
def bg_run (st sz time : Int32) : Nat → Int32 → Int32
  | 0, f => f
  | t + 1, f => if f - st + sz ≤ time then f else bg_run st sz time t (f - st)
def bg_ok (st sz time : Int32) : Nat → Int32 → Prop
  | 0, f => f - st + sz ≤ time
  | t + 1, f => ¬ f - st + sz ≤ time → bg_ok st sz time t (f - st)
def bg_of (st sz time : Int32) (t : Nat) (k : Int32) : Int32 := if bg_run st sz time t (dn time st * st) + k * st ≤ dn time st * st then bg_run st sz time t (dn time st * st) + k * st else -99999999
set_option maxRecDepth 100000 in
theorem lp_beginOf {G : rv_G} {σ0 σ : rv_S} {y o : Nat} {s : Md} {vo time k st la : Int32} (eo : vo = nI o) (ho : o < 5) (h : MI σ0 σ y (md y s)) : ∀ (t : Nat) (f : Int32) (x7 : Option Value), bg_ok st (s.oSize o) time t f →
    rv_V G m_Model_beginOf 0 0 (fun q σ' => q = some (.int (if bg_run st (s.oSize o) time t f + k * st ≤ la then bg_run st (s.oSize o) time t f + k * st else -99999999)) ∧ σ' = σ) 41 [some (.ref y), some (.int vo), some (.int time), some (.int k), some (.int st), some (.int la), some (.int f), x7] [] σ 0 0 := by
  have fin : ∀ (f : Int32) (x7 : Option Value), rv_V G m_Model_beginOf 0 0 (fun q σ' => q = some (.int (if f + k * st ≤ la then f + k * st else -99999999)) ∧ σ' = σ) 67 [some (.ref y), some (.int vo), some (.int time), some (.int k), some (.int st), some (.int la), some (.int f), x7] [] σ 0 0 := by
    intro f x7
    refine rv_V.run rv_gd_Model_beginOf [] 400 ?_
    refine And.intro (fun c1 => ?_) (fun c1 => ?_)
    · exact And.intro trivial ⟨by rw [if_neg (Int32.not_le.mpr c1)], rfl⟩
    · exact And.intro trivial ⟨by rw [if_pos (Int32.not_lt.mp c1)], rfl⟩
  intro t
  induction t with
  | zero =>
    intro f x7 hok
    refine rv_V.run rv_gd_Model_beginOf [41, 67] 400 ?_
    refine Exists.intro _ (And.intro h.ob ?_)
    refine h.l2 eo ho ?_
    refine And.intro (fun c1 => ?_) (fun c1 => ?_)
    · exact fin f x7
    · exact absurd hok c1
  | succ t ih =>
    intro f x7 hok
    refine rv_V.run rv_gd_Model_beginOf [41, 67] 400 ?_
    refine Exists.intro _ (And.intro h.ob ?_)
    refine h.l2 eo ho ?_
    refine And.intro (fun c1 => ?_) (fun c1 => ?_)
    · rw [show bg_run st (s.oSize o) time (t + 1) f = f from if_pos c1]
      exact fin f x7
    · rw [show bg_run st (s.oSize o) time (t + 1) f = bg_run st (s.oSize o) time t (f - st) from if_neg c1]
      exact ih (f - st) x7 (hok c1)
def bg_st (s : Md) (o : Nat) : Int32 := if s.oKind o = 0 then s.oSize o else s.oStep o
set_option maxRecDepth 100000 in
theorem rt_beginOf {G : rv_G} {σ0 σ : rv_S} {y o : Nat} {s : Md} {vo : Int32} (time k : Int32) (t : Nat) (eo : vo = nI o) (ho : o < 5) (h : MI σ0 σ y (md y s)) (h0 : ¬ bg_st s o = 0) (hok : bg_ok (bg_st s o) (s.oSize o) time t (dn time (bg_st s o) * bg_st s o)) :
    rv_Ct G i_Model_beginOf 0 0 [.ref y, .int vo, .int time, .int k] σ (fun q σ' => q = some (.int (bg_of (bg_st s o) (s.oSize o) time t k)) ∧ σ' = σ) := by
  have mid : ∀ v : Int32, v = bg_st s o → rv_V G m_Model_beginOf 0 0 (fun q σ' => q = some (.int (bg_of (bg_st s o) (s.oSize o) time t k)) ∧ σ' = σ) 24 [some (.ref y), some (.int vo), some (.int time), some (.int k), none, none, none, none] [.int v] σ 0 0 := by
    rintro _ rfl
    refine rv_V.run rv_gd_Model_beginOf [41] 400 ?_
    refine ⟨_, _, _, rt_down time (bg_st s o) h0, Nat.zero_le _, Nat.zero_le _, rfl, ?_⟩
    rintro _ σ ⟨rfl, rfl⟩
    exact lp_beginOf eo ho h t _ _ hok
  refine rv_ct (M := m_Model_beginOf) rfl (by decide) rfl rfl ?_
  refine rv_V.run rv_gd_Model_beginOf [24] 400 ?_
  refine Exists.intro _ (And.intro h.ob ?_)
  refine h.l1 eo ho ?_
  refine And.intro (fun c1 => ?_) (fun c1 => ?_)
  · refine Exists.intro _ (And.intro h.ob ?_)
    refine h.l2 eo ho ?_
    exact mid _ (if_pos c1).symm
  · refine Exists.intro _ (And.intro h.ob ?_)
    refine h.l3 eo ho ?_
    exact mid _ (if_neg c1).symm
end
section
/-! THE REFERENCE: a row that came, a row aside -/
def md_cm1 (s : Md) (m : Nat) (vs k time v : Int32) (u : Bool) : Md :=
  let s := s.u_rSrc (upd s.rSrc m (vs))
  let s := s.u_rKey (upd s.rKey m (k))
  let s := s.u_rTime (upd s.rTime m (time))
  let s := s.u_rV (upd s.rV m (v))
  let s := s.u_rUsed (va_up s.rUsed m u)
  let s := s.u_nrow ((s.nrow + 1))
  s
def md_cm2 (s : Md) (j : Nat) (u : Bool) : Md := if u = true then s.u_sUsed (upd s.sUsed j (s.sUsed j + 1)) else s.u_sAside (upd s.sAside j (s.sAside j + 1))
def md_cm4 (s : Md) (j : Nat) : Md := s.u_sBrok (upd s.sBrok j (s.sBrok j + 1))
def md_cm3 (s : Md) (j : Nat) (time : Int32) : Md := if time < s.sProm j then md_cm4 (if s.sBrok j = 0 then s.u_sFirst (upd s.sFirst j time) else s) j else s
def md_came (s : Md) (m j : Nat) (vs k time v : Int32) (u : Bool) : Md := md_cm3 (md_cm2 (md_cm1 s m vs k time v u) j u) j time
set_option maxRecDepth 100000 in
theorem lp_came4 {G : rv_G} {σ0 σ : rv_S} {y j : Nat} {s : Md} {vs k time v : Int32} {u : Bool} (ej : vs = nI j) (hj : j < 10) (h : MI σ0 σ y (md y s)) :
    rv_V G m_Model_came 0 0 (fun q σ' => q = none ∧ MI σ0 σ' y (md y (md_cm4 s j))) 116 [some (.ref y), some (.int vs), some (.int k), some (.int time), some (.int v), some (.int (rv_b u))] [] σ 0 0 := by
  refine rv_V.run rv_gd_Model_came [] 400 ?_
  refine Exists.intro _ (And.intro h.ob ?_)
  refine h.l13 ej hj ?_
  refine h.s13 ej hj (fun σ h => ?_)
  exact ⟨rfl, h⟩
set_option maxRecDepth 100000 in
theorem lp_came3 {G : rv_G} {σ0 σ : rv_S} {y j : Nat} {s : Md} {vs k time v : Int32} {u : Bool} (ej : vs = nI j) (hj : j < 10) (h : MI σ0 σ y (md y s)) :
    rv_V G m_Model_came 0 0 (fun q σ' => q = none ∧ MI σ0 σ' y (md y (md_cm3 s j time))) 90 [some (.ref y), some (.int vs), some (.int k), some (.int time), some (.int v), some (.int (rv_b u))] [] σ 0 0 := by
  refine rv_V.run rv_gd_Model_came [116] 400 ?_
  refine Exists.intro _ (And.intro h.ob ?_)
  refine h.l8 ej hj ?_
  refine And.intro (fun c1 => ?_) (fun c1 => ?_)
  · refine ⟨rfl, ?_⟩
    rw [show md_cm3 s j time = s from if_neg (Int32.not_lt.mpr c1)]
    exact h
  · rw [show md_cm3 s j time = _ from if_pos (Int32.not_le.mp c1)]
    refine Exists.intro _ (And.intro h.ob ?_)
    refine h.l13 ej hj ?_
    refine And.intro (fun c2 => ?_) (fun c2 => ?_)
    · refine Exists.intro _ (And.intro h.ob ?_)
      refine h.s14 ej hj (fun σ h => ?_)
      rw [if_pos c2]
      exact lp_came4 ej hj h
    · rw [if_neg c2]
      exact lp_came4 ej hj h
set_option maxRecDepth 100000 in
theorem lp_came2 {G : rv_G} {σ0 σ : rv_S} {y j : Nat} {s : Md} {vs k time v : Int32} {u : Bool} (ej : vs = nI j) (hj : j < 10) (h : MI σ0 σ y (md y s)) :
    rv_V G m_Model_came 0 0 (fun q σ' => q = none ∧ MI σ0 σ' y (md y (md_cm3 (md_cm2 s j u) j time))) 62 [some (.ref y), some (.int vs), some (.int k), some (.int time), some (.int v), some (.int (rv_b u))] [] σ 0 0 := by
  refine rv_V.run rv_gd_Model_came [90] 400 ?_
  refine And.intro (fun c1 => ?_) (fun c1 => ?_)
  · rw [show md_cm2 s j u = _ from if_neg (by rw [rv_b0.mp c1]; decide)]
    refine Exists.intro _ (And.intro h.ob ?_)
    refine h.l12 ej hj ?_
    refine h.s12 ej hj (fun σ h => ?_)
    exact lp_came3 ej hj h
  · rw [show md_cm2 s j u = _ from if_pos (rv_bn c1)]
    refine Exists.intro _ (And.intro h.ob ?_)
    refine h.l11 ej hj ?_
    refine h.s11 ej hj (fun σ h => ?_)
    exact lp_came3 ej hj h
set_option maxRecDepth 100000 in
theorem rt_came {G : rv_G} {σ0 σ : rv_S} {y j m : Nat} {s : Md} {vs : Int32} (k time v : Int32) (u : Bool) (ej : vs = nI j) (hj : j < 10) (en : s.nrow = nI m) (hm : m < 300) (h : MI σ0 σ y (md y s)) :
    rv_Ct G i_Model_came 0 0 [.ref y, .int vs, .int k, .int time, .int v, .int (rv_b u)] σ (fun q σ' => q = none ∧ MI σ0 σ' y (md y (md_came s m j vs k time v u))) := by
  refine rv_ct (M := m_Model_came) rfl (by decide) rfl rfl ?_
  refine rv_V.run rv_gd_Model_came [62] 400 ?_
  refine Exists.intro _ (And.intro h.ob ?_)
  refine Exists.intro _ (And.intro h.ob ?_)
  refine h.s15 en (by omega) (fun σ h => ?_)
  refine Exists.intro _ (And.intro h.ob ?_)
  refine Exists.intro _ (And.intro h.ob ?_)
  refine h.s16 en (by omega) (fun σ h => ?_)
  refine Exists.intro _ (And.intro h.ob ?_)
  refine Exists.intro _ (And.intro h.ob ?_)
  refine h.s17 en (by omega) (fun σ h => ?_)
  refine Exists.intro _ (And.intro h.ob ?_)
  refine Exists.intro _ (And.intro h.ob ?_)
  refine h.s18 en (by omega) (fun σ h => ?_)
  refine Exists.intro _ (And.intro h.ob ?_)
  refine Exists.intro _ (And.intro h.ob ?_)
  refine h.s19 en (by omega) u rfl (fun σ h => ?_)
  refine Exists.intro _ (And.intro h.ob ?_)
  refine h.p16  (fun σ h => ?_)
  exact lp_came2 ej hj h
def md_ap (s : Md) (a : Nat) (vs k time v why : Int32) : Md :=
  let s := s.u_aRow (upd s.aRow (5 * a + 0) (vs))
  let s := s.u_aRow (upd s.aRow (5 * a + 1) (k))
  let s := s.u_aRow (upd s.aRow (5 * a + 2) (time))
  let s := s.u_aRow (upd s.aRow (5 * a + 3) (v))
  let s := s.u_aRow (upd s.aRow (5 * a + 4) (why))
  let s := s.u_nas ((s.nas + 1))
  s
def sh5 : Nat → Nat → (Nat → Int32) → Nat → Int32
  | 0, _, e => e
  | t + 1, k, e => sh5 t (k + 1) (upd e k (e (k + 5)))
def pa_run (s : Md) (a b j : Nat) (vs k time v why : Int32) : Bool × Md :=
  if a = b then (if s.rul = 1 then (false, s.u_sStop (va_up s.sStop j true)) else if a = 0 then (true, s.u_drp (s.drp + 1)) else (true, md_ap (((s.u_drp (s.drp + 1)).u_aRow (sh5 (5 * (a - 1)) 0 s.aRow)).u_nas (s.nas - 1)) (a - 1) vs k time v why)) else (true, md_ap s a vs k time v why)
set_option maxRecDepth 100000 in
theorem lp_ap {G : rv_G} {σ0 σ : rv_S} {y a : Nat} {s : Md} {vs k time v why : Int32} (x6 : Option Value) (e : s.nas = nI a) (ha : a ≤ 100) (h : MI σ0 σ y (md y s)) :
    rv_V G m_Model_putAside 0 0 (fun q σ' => q = some (.int 1) ∧ MI σ0 σ' y (md y (md_ap s a vs k time v why))) 98 [some (.ref y), some (.int vs), some (.int k), some (.int time), some (.int v), some (.int why), x6] [] σ 0 0 := by
  have ea : ∀ k, (5 : Int32) * s.nas + nI k = nI (5 * a + k) := fun k => by rw [e, show (5 : Int32) = nI 5 from rfl, nI_mul, nI_add]
  have e0 : (5 : Int32) * s.nas = nI (5 * a + 0) := by rw [e, show (5 : Int32) = nI 5 from rfl, nI_mul]; rfl
  refine rv_V.run rv_gd_Model_putAside [] 400 ?_
  refine Exists.intro _ (And.intro h.ob ?_)
  refine Exists.intro _ (And.intro h.ob ?_)
  refine h.s35 e0 (by omega) (fun σ h => ?_)
  refine Exists.intro _ (And.intro h.ob ?_)
  refine h.s35 (ea 1) (by omega) (fun σ h => ?_)
  refine Exists.intro _ (And.intro h.ob ?_)
  refine h.s35 (ea 2) (by omega) (fun σ h => ?_)
  refine Exists.intro _ (And.intro h.ob ?_)
  refine h.s35 (ea 3) (by omega) (fun σ h => ?_)
  refine Exists.intro _ (And.intro h.ob ?_)
  refine h.s35 (ea 4) (by omega) (fun σ h => ?_)
  refine Exists.intro _ (And.intro h.ob ?_)
  refine h.p40  (fun σ h => ?_)
  exact And.intro (Or.inr rfl) ⟨rfl, h⟩
set_option maxRecDepth 100000 in
theorem lp_sh5 {G : rv_G} {σ0 : rv_S} {y N : Nat} {vs k time v why : Int32} {Rt : Option Value → rv_S → Prop} (s : Md) (hN : N ≤ 500) (eN : (5 : Int32) * (s.nas - 1) = nI N) (fin : ∀ (x6 : Option Value) (σ : rv_S), MI σ0 σ y (md y (s.u_aRow (sh5 N 0 s.aRow))) → rv_V G m_Model_putAside 0 0 Rt 76 [some (.ref y), some (.int vs), some (.int k), some (.int time), some (.int v), some (.int why), x6] [] σ 0 0) : ∀ (t i : Nat) (vi : Int32) (e : Nat → Int32) (σ : rv_S), vi = nI i → i + t = N → sh5 t i e = sh5 N 0 s.aRow → MI σ0 σ y (md y (s.u_aRow e)) →
    rv_V G m_Model_putAside 0 0 Rt 41 [some (.ref y), some (.int vs), some (.int k), some (.int time), some (.int v), some (.int why), some (.int vi)] [] σ 0 0 := by
  intro t
  induction t with
  | zero =>
    intro i vi e σ ei h1 h2 h
    refine rv_V.run rv_gd_Model_putAside [41, 76] 400 ?_
    refine Exists.intro _ (And.intro h.ob ?_)
    refine And.intro (fun c1 => ?_) (fun c1 => ?_)
    · refine fin _ σ ?_
      rw [← h2]
      exact h
    · exact absurd ((rv_leN eN ei (by omega) (by omega)).mpr (by omega)) c1
  | succ t ih =>
    intro i vi e σ ei h1 h2 h
    have e5 : vi + 5 = nI (i + 5) := by rw [ei, show (5 : Int32) = nI 5 from rfl, nI_add]
    refine rv_V.run rv_gd_Model_putAside [41, 76] 400 ?_
    refine Exists.intro _ (And.intro h.ob ?_)
    refine And.intro (fun c1 => ?_) (fun c1 => ?_)
    · exact absurd ((rv_leN eN ei (by omega) (by omega)).mp c1) (by omega)
    refine Exists.intro _ (And.intro h.ob ?_)
    refine Exists.intro _ (And.intro h.ob ?_)
    refine h.l35 e5 (by omega) ?_
    refine h.s35 ei (by omega) (fun σ h => ?_)
    exact ih (i + 1) (vi + 1) (upd e i (e (i + 5))) σ (by rw [ei]; exact nI_1 i) (by omega) h2 h
set_option maxRecDepth 100000 in
theorem rt_putAside {G : rv_G} {σ0 σ : rv_S} {y a b j : Nat} {s : Md} {vs : Int32} (k time v why : Int32) (ej : vs = nI j) (hj : j < 10) (e : s.nas = nI a) (ha : a ≤ 100) (eb : s.bnd = nI b) (hb : b ≤ 100) (h : MI σ0 σ y (md y s)) :
    rv_Ct G i_Model_putAside 0 0 [.ref y, .int vs, .int k, .int time, .int v, .int why] σ (fun q σ' => q = some (.int (rv_b (pa_run s a b j vs k time v why).1)) ∧ MI σ0 σ' y (md y (pa_run s a b j vs k time v why).2)) := by
  refine rv_ct (M := m_Model_putAside) rfl (by decide) rfl rfl ?_
  refine rv_V.run rv_gd_Model_putAside [41, 98] 400 ?_
  refine Exists.intro _ (And.intro h.ob ?_)
  refine Exists.intro _ (And.intro h.ob ?_)
  refine And.intro (fun c1 => ?_) (fun c1 => ?_)
  · have hab : a = b := (nI_eq (by omega) (by omega)).mp (e.symm.trans (Eq.trans c1 eb))
    refine Exists.intro _ (And.intro h.ob ?_)
    refine And.intro (fun c2 => ?_) (fun c2 => ?_)
    · refine Exists.intro _ (And.intro h.ob ?_)
      refine h.s10 ej hj true rfl (fun σ h => ?_)
      rw [show pa_run s a b j vs k time v why = _ from (if_pos hab).trans (if_pos c2)]
      exact And.intro (Or.inl rfl) ⟨rfl, h⟩
    · refine Exists.intro _ (And.intro h.ob ?_)
      refine h.p44 (fun σ h => ?_)
      rcases Nat.eq_zero_or_pos a with ha0 | ha0
      · rw [show pa_run s a b j vs k time v why = _ from (if_pos hab).trans ((if_neg c2).trans (if_pos ha0))]
        have en0 : (s.u_drp (s.drp + 1)).nas = 0 := by show s.nas = 0; rw [e, ha0]; rfl
        refine rv_V.run rv_gd_Model_putAside [] 400 ?_
        refine Exists.intro _ (And.intro h.ob ?_)
        refine And.intro (fun c3 => ?_) (fun c3 => ?_)
        · refine Exists.intro _ (And.intro h.ob ?_)
          refine And.intro (fun c4 => ?_) (fun c4 => ?_)
          · exact And.intro (Or.inr rfl) ⟨rfl, h⟩
          · exact absurd (by rw [show Md.nas (s.u_drp (s.drp + 1)) = 0 from en0]; decide) c4
        · exact absurd (by show (5 : Int32) * (s.nas - 1) ≤ 0; rw [e, ha0]; decide) c3
      · obtain ⟨a', rfl⟩ : ∃ a', a = a' + 1 := ⟨a - 1, by omega⟩
        rw [show pa_run s (a' + 1) b j vs k time v why = _ from (if_pos hab).trans ((if_neg c2).trans (if_neg (by omega)))]
        refine lp_sh5 (N := 5 * a') (s.u_drp (s.drp + 1)) (by omega) (by show (5 : Int32) * (s.nas - 1) = _; rw [e, nI_pred, show (5 : Int32) = nI 5 from rfl, nI_mul]) (fun x6 σ h => ?_) (5 * a') 0 _ s.aRow σ rfl (by omega) rfl h
        refine rv_V.run rv_gd_Model_putAside [98] 400 ?_
        refine Exists.intro _ (And.intro h.ob ?_)
        refine And.intro (fun c4 => ?_) (fun c4 => ?_)
        · exact absurd c4 (by show ¬ s.nas ≤ 0; rw [e]; exact nI_nle (by omega) (by omega))
        · refine Exists.intro _ (And.intro h.ob ?_)
          refine h.p40 (fun σ h => ?_)
          exact lp_ap _ (by show s.nas - 1 = _; rw [e]; exact nI_pred a') (by omega) h
  · rw [show pa_run s a b j vs k time v why = (true, md_ap s a vs k time v why) from if_neg (fun z => c1 (by rw [show Md.nas s = _ from e, show Md.bnd s = _ from eb, z]))]
    exact lp_ap _ e ha h
end
section
/-! THE REFERENCE: the mark moves -/
theorem put_nwin (s : Md) (r w : Nat) (sg : Int32) (t : Tl) : (md_put s r w sg t).nwin = s.nwin := by
  obtain ⟨a, b, c, d, e, f⟩ := s
  rfl
theorem res_nwin (s : Md) (r w : Nat) (sg : Int32) (t : Tl) : (md_res s r w sg t).nwin = s.nwin := by
  unfold md_res
  split
  · exact put_nwin _ _ _ _ _
  · exact put_nwin _ _ _ _ _
theorem told_nwin (s : Md) (w : Nat) : (md_told s w).nwin = s.nwin := by
  obtain ⟨a, b, c, d, e, f⟩ := s
  rfl
theorem back_nwin (s : Md) (r w : Nat) : (md_back s r w).nwin = s.nwin := res_nwin _ _ _ _ _
theorem tell_nwin (s : Md) (r w : Nat) : (md_tell s r w).nwin = s.nwin := (told_nwin _ _).trans (res_nwin _ _ _ _ _)
theorem mv_nres (s : Md) (k : Nat) : (md_mv s k).nres = s.nres := by
  obtain ⟨a, b, c, d, e, f⟩ := s
  rfl
theorem rm_nwin : ∀ (t k : Nat) (s : Md), (rm_run t k s).nwin = s.nwin
  | 0, _, _ => rfl
  | t + 1, k, s => (rm_nwin t (k + 1) (md_mv s k)).trans (mv_nwin s k)
theorem rm_nres : ∀ (t k : Nat) (s : Md), (rm_run t k s).nres = s.nres
  | 0, _, _ => rfl
  | t + 1, k, s => (rm_nres t (k + 1) (md_mv s k)).trans (mv_nres s k)
theorem rem_nwin {s : Md} {n : Nat} (w : Nat) (hn : 0 < n) (en : s.nwin = nI n) : (md_rem s n w).nwin = nI (n - 1) := by
  refine (rm_nwin _ _ _).trans ?_
  show s.nwin - 1 = _
  rw [en]
  obtain ⟨t, rfl⟩ : ∃ t, n = t + 1 := ⟨n - 1, by omega⟩
  exact nI_pred t
theorem rem_nres (s : Md) (n w : Nat) : (md_rem s n w).nres = s.nres := rm_nres _ _ _
theorem du_lt (s : Md) (o : Nat) (g : Bool) : ∀ (t w : Nat) (b : Option Nat) (j : Nat), du_run s o g t w b = some j → (∀ i, b = some i → i < w) → j < w + t
  | 0, w, b, j, h, hb => hb j h
  | t + 1, w, b, j, h, hb => by
    have := du_lt s o g t (w + 1) _ j h (fun i hi => by
      split at hi
      · cases hi; omega
      · have := hb i hi; omega)
    omega
/-- the least promise -/
def ml_run (s : Md) (o : Nat) : Nat → Nat → Int32 → Int32
  | 0, _, a => a
  | t + 1, j, a => ml_run s o t (j + 1) (if s.sOp j = nI o ∧ s.sEnd j = false ∧ s.sProm j < a then s.sProm j else a)
def td_run (o n : Nat) : Nat → Md × Nat → Md × Nat
  | 0, p => p
  | t + 1, p => match du_run p.1 o false n 0 none with
    | none => p
    | some w => td_run o n t (md_tell p.1 p.2 w, rq p.2)
/-- the telling ends -/
def td_ok (o n : Nat) : Nat → Md × Nat → Prop
  | 0, p => du_run p.1 o false n 0 none = none
  | t + 1, p => ∀ w, du_run p.1 o false n 0 none = some w → td_ok o n t (md_tell p.1 p.2 w, rq p.2)
def tr_one (s : Md) (r w o : Nat) : Md × Nat := if s.oRule o = 1 ∧ s.wCame w = true then (md_tell (md_back s r w) (rq r) w, rq (rq r)) else (s, r)
def tr_run (o : Nat) : Nat → Md × Nat → Md × Nat
  | 0, p => p
  | n + 1, p => match du_run p.1 o true (n + 1) 0 none with
    | none => p
    | some w => tr_run o n (md_rem (tr_one p.1 p.2 w o).1 (n + 1) w, (tr_one p.1 p.2 w o).2)
theorem oi_eq {b : Option Nat} {v : Int32} (hv : v = oi b) (hb : ∀ j, b = some j → j < 120) : v = -99999999 ↔ b = none := by
  rw [hv]; exact oi_none hb
set_option maxRecDepth 100000 in
theorem lp_mv3 {G : rv_G} {σ0 : rv_S} {y o : Nat} {vo be le : Int32} (eo : vo = nI o) (ho : o < 5) : ∀ (n r : Nat) (s : Md) (vw : Int32) (σ : rv_S), n ≤ 120 → s.nwin = nI n → s.nres = nI r → r ≤ 400 → vw = oi (du_run s o true n 0 none) → MI σ0 σ y (md y s) →
    rv_V G m_Model_moves 0 0 (fun q σ' => q = some (.int ((tr_run o n (s, r)).1.ever - be)) ∧ MI σ0 σ' y (md y (tr_run o n (s, r)).1)) 125 [some (.ref y), some (.int vo), some (.int be), some (.int le), some (.int vw)] [] σ 0 0 := by
  intro n
  induction n with
  | zero =>
    intro r s vw σ hn en er hr ew h
    refine rv_V.run rv_gd_Model_moves [125] 400 ?_
    refine And.intro (fun c1 => ?_) (fun c1 => ?_)
    · refine Exists.intro _ (And.intro h.ob ?_)
      exact And.intro trivial ⟨rfl, h⟩
    · exact absurd ew c1
  | succ n ih =>
    intro r s vw σ hn en er hr ew h
    have hlt : ∀ j, du_run s o true (n + 1) 0 none = some j → j < n + 1 := fun j hj => by
      have := du_lt s o true (n + 1) 0 none j hj (fun i hi => by cases hi)
      omega
    cases hd : du_run s o true (n + 1) 0 none with
    | none =>
      rw [hd] at ew
      have hR : tr_run o (n + 1) (s, r) = (s, r) := by
        unfold tr_run
        rw [hd]
      rw [hR]
      refine rv_V.run rv_gd_Model_moves [125] 400 ?_
      refine And.intro (fun c1 => ?_) (fun c1 => ?_)
      · refine Exists.intro _ (And.intro h.ob ?_)
        exact And.intro trivial ⟨rfl, h⟩
      · exact absurd ew c1
    | some w =>
      have hw := hlt w hd
      rw [hd] at ew
      have ew' : vw = nI w := ew
      have hR : tr_run o (n + 1) (s, r) = tr_run o n (md_rem (tr_one s r w o).1 (n + 1) w, (tr_one s r w o).2) := by
        conv => lhs; unfold tr_run
        rw [hd]
      rw [hR]
      have at164 : ∀ (s1 : Md) (r1 : Nat) (σ : rv_S), tr_one s r w o = (s1, r1) → s1.nwin = nI (n + 1) → s1.nres = nI r1 → r1 ≤ 400 → MI σ0 σ y (md y s1) → rv_V G m_Model_moves 0 0 (fun q σ' => q = some (.int ((tr_run o n (md_rem (tr_one s r w o).1 (n + 1) w, (tr_one s r w o).2)).1.ever - be)) ∧ MI σ0 σ' y (md y (tr_run o n (md_rem (tr_one s r w o).1 (n + 1) w, (tr_one s r w o).2)).1)) 164 [some (.ref y), some (.int vo), some (.int be), some (.int le), some (.int vw)] [] σ 0 0 := by
        intro s1 r1 σ e1 e2 e3 e4 h
        rw [e1]
        refine rv_V.run rv_gd_Model_moves [125] 400 ?_
        refine And.intro (Exists.intro _ h.ob) ?_
        refine ⟨_, _, _, rt_remove ew' hw e2 hn h, Nat.zero_le _, Nat.zero_le _, rfl, ?_⟩
        rintro _ σ ⟨rfl, h⟩
        have en' := rem_nwin w (Nat.succ_pos n) e2
        refine And.intro (Exists.intro _ h.ob) ?_
        refine ⟨_, _, _, rt_due true eo ho en' (by omega) h, Nat.zero_le _, Nat.zero_le _, rfl, ?_⟩
        rintro _ σ ⟨rfl, rfl⟩
        exact ih r1 (md_rem s1 (n + 1) w) _ σ (by omega) en' ((rem_nres s1 (n + 1) w).trans e3) e4 rfl h
      refine rv_V.run rv_gd_Model_moves [125, 164] 400 ?_
      refine And.intro (fun c1 => ?_) (fun c1 => ?_)
      · have := (oi_eq ew (fun j hj => by cases hj; omega)).mp c1
        cases this
      refine Exists.intro _ (And.intro h.ob ?_)
      refine h.l5 eo ho ?_
      refine And.intro (fun c2 => ?_) (fun c2 => ?_)
      · refine Exists.intro _ (And.intro h.ob ?_)
        refine h.l29 ew' (by omega) ?_
        refine And.intro (fun c3 => ?_) (fun c3 => ?_)
        · exact at164 s r σ (if_neg (fun z => by rw [rv_b0.mp c3] at z; exact absurd z.2 (by decide))) en er hr h
        · refine And.intro (Exists.intro _ h.ob) ?_
          refine ⟨_, _, _, rt_takeBack ew' (by omega) er hr h, Nat.zero_le _, Nat.zero_le _, rfl, ?_⟩
          rintro _ σ ⟨rfl, h⟩
          refine And.intro (Exists.intro _ h.ob) ?_
          refine ⟨_, _, _, rt_tell ew' (by omega) (back_nres w er) (rq_le hr) h, Nat.zero_le _, Nat.zero_le _, rfl, ?_⟩
          rintro _ σ ⟨rfl, h⟩
          exact at164 _ _ σ (if_pos ⟨c2, rv_bn c3⟩) ((tell_nwin _ _ _).trans ((back_nwin _ _ _).trans en)) (tell_nres w (back_nres w er)) (rq_le (rq_le hr)) h
      · exact at164 s r σ (if_neg (fun z => c2 z.1)) en er hr h
set_option maxRecDepth 100000 in
theorem lp_mv2 {G : rv_G} {σ0 : rv_S} {y o n : Nat} {vo be le : Int32} (eo : vo = nI o) (ho : o < 5) (hn : n ≤ 120) : ∀ (t r : Nat) (s : Md) (vw : Int32) (σ : rv_S), s.nwin = nI n → s.nres = nI r → r ≤ 400 → td_ok o n t (s, r) → vw = oi (du_run s o false n 0 none) → MI σ0 σ y (md y s) →
    rv_V G m_Model_moves 0 0 (fun q σ' => q = some (.int ((tr_run o n (td_run o n t (s, r))).1.ever - be)) ∧ MI σ0 σ' y (md y (tr_run o n (td_run o n t (s, r))).1)) 93 [some (.ref y), some (.int vo), some (.int be), some (.int le), some (.int vw)] [] σ 0 0 := by
  have fin : ∀ (r : Nat) (s : Md) (vw : Int32) (σ : rv_S), s.nwin = nI n → s.nres = nI r → r ≤ 400 → MI σ0 σ y (md y s) → rv_V G m_Model_moves 0 0 (fun q σ' => q = some (.int ((tr_run o n (s, r)).1.ever - be)) ∧ MI σ0 σ' y (md y (tr_run o n (s, r)).1)) 117 [some (.ref y), some (.int vo), some (.int be), some (.int le), some (.int vw)] [] σ 0 0 := by
    intro r s vw σ en er hr h
    refine rv_V.run rv_gd_Model_moves [125] 400 ?_
    refine And.intro (Exists.intro _ h.ob) ?_
    refine ⟨_, _, _, rt_due true eo ho en hn h, Nat.zero_le _, Nat.zero_le _, rfl, ?_⟩
    rintro _ σ ⟨rfl, rfl⟩
    exact lp_mv3 eo ho n r s _ σ hn en er hr rfl h
  have hlt : ∀ (s : Md) j, du_run s o false n 0 none = some j → j < n := fun s j hj => by
    have := du_lt s o false n 0 none j hj (fun i hi => by cases hi)
    omega
  intro t
  induction t with
  | zero =>
    intro r s vw σ en er hr hok ew h
    have hd : du_run s o false n 0 none = none := hok
    rw [hd] at ew
    refine rv_V.run rv_gd_Model_moves [93, 117] 400 ?_
    refine And.intro (fun c1 => ?_) (fun c1 => ?_)
    · exact fin r s vw σ en er hr h
    · exact absurd ew c1
  | succ t ih =>
    intro r s vw σ en er hr hok ew h
    cases hd : du_run s o false n 0 none with
    | none =>
      rw [hd] at ew
      have hR : td_run o n (t + 1) (s, r) = (s, r) := by
        unfold td_run
        rw [hd]
      rw [hR]
      refine rv_V.run rv_gd_Model_moves [93, 117] 400 ?_
      refine And.intro (fun c1 => ?_) (fun c1 => ?_)
      · exact fin r s vw σ en er hr h
      · exact absurd ew c1
    | some w =>
      have hw := hlt s w hd
      rw [hd] at ew
      have ew' : vw = nI w := ew
      have hR : td_run o n (t + 1) (s, r) = td_run o n t (md_tell s r w, rq r) := by
        conv => lhs; unfold td_run
        rw [hd]
      rw [hR]
      refine rv_V.run rv_gd_Model_moves [93, 117] 400 ?_
      refine And.intro (fun c1 => ?_) (fun c1 => ?_)
      · have := (oi_eq ew (fun j hj => by cases hj; omega)).mp c1
        cases this
      refine And.intro (Exists.intro _ h.ob) ?_
      refine ⟨_, _, _, rt_tell ew' (by omega) er hr h, Nat.zero_le _, Nat.zero_le _, rfl, ?_⟩
      rintro _ σ ⟨rfl, h⟩
      refine And.intro (Exists.intro _ h.ob) ?_
      refine ⟨_, _, _, rt_due false eo ho ((tell_nwin s r w).trans en) hn h, Nat.zero_le _, Nat.zero_le _, rfl, ?_⟩
      rintro _ σ ⟨rfl, rfl⟩
      exact ih (rq r) (md_tell s r w) _ σ ((tell_nwin s r w).trans en) (tell_nres w er) (rq_le hr) (hok w hd) rfl h
set_option maxRecDepth 100000 in
theorem lp_mv1 {G : rv_G} {σ0 σ : rv_S} {y o ns : Nat} {s : Md} {vo be : Int32} {Rt : Option Value → rv_S → Prop} (eo : vo = nI o) (es : s.nsr = nI ns) (hs : ns ≤ 10) (h : MI σ0 σ y (md y s)) : ∀ (t j : Nat) (vj a : Int32), vj = nI j → j + t = ns → (∀ vj : Int32, rv_V G m_Model_moves 0 0 Rt 66 [some (.ref y), some (.int vo), some (.int be), some (.int (ml_run s o t j a)), some (.int vj)] [] σ 0 0) →
    rv_V G m_Model_moves 0 0 Rt 11 [some (.ref y), some (.int vo), some (.int be), some (.int a), some (.int vj)] [] σ 0 0 := by
  intro t
  induction t with
  | zero =>
    intro j vj a ej h1 fin
    refine rv_V.run rv_gd_Model_moves [11, 66] 400 ?_
    refine Exists.intro _ (And.intro h.ob ?_)
    refine And.intro (fun c1 => ?_) (fun c1 => ?_)
    · exact fin vj
    · exact absurd ((rv_leN es ej (by omega) (by omega)).mpr (by omega)) c1
  | succ t ih =>
    intro j vj a ej h1 fin
    have next : ∀ a' : Int32, ml_run s o (t + 1) j a = ml_run s o t (j + 1) a' → rv_V G m_Model_moves 0 0 Rt 60 [some (.ref y), some (.int vo), some (.int be), some (.int a'), some (.int vj)] [] σ 0 0 := by
      intro a' e1
      refine rv_V.run rv_gd_Model_moves [11] 400 ?_
      refine ih (j + 1) (vj + 1) a' (by rw [ej]; exact nI_1 j) (by omega) ?_
      rw [← e1]
      exact fin
    have no : ¬ (s.sOp j = nI o ∧ s.sEnd j = false ∧ s.sProm j < a) → ml_run s o (t + 1) j a = ml_run s o t (j + 1) a := fun hno => by
      conv => lhs; unfold ml_run
      rw [if_neg hno]
    refine rv_V.run rv_gd_Model_moves [11, 60, 66] 400 ?_
    refine Exists.intro _ (And.intro h.ob ?_)
    refine And.intro (fun c1 => ?_) (fun c1 => ?_)
    · exact absurd ((rv_leN es ej (by omega) (by omega)).mp c1) (by omega)
    refine Exists.intro _ (And.intro h.ob ?_)
    refine h.l7 ej (by omega) ?_
    refine And.intro (fun c2 => ?_) (fun c2 => next a (no (fun z => c2 (by rw [eo]; exact z.1))))
    refine Exists.intro _ (And.intro h.ob ?_)
    refine h.l9 ej (by omega) ?_
    refine And.intro (fun c3 => ?_) (fun c3 => next a (no (fun z => by have := rv_bn c3; rw [z.2.1] at this; cases this)))
    refine Exists.intro _ (And.intro h.ob ?_)
    refine h.l8 ej (by omega) ?_
    refine And.intro (fun c4 => next a (no (fun z => Int32.not_lt.mpr c4 z.2.2))) (fun c4 => ?_)
    refine Exists.intro _ (And.intro h.ob ?_)
    refine h.l8 ej (by omega) ?_
    refine next _ ?_
    conv => lhs; unfold ml_run
    rw [if_pos ⟨by rw [← eo]; exact c2, rv_b0.mp c3, Int32.not_le.mp c4⟩]
def mo_run (s : Md) (o n ns r : Nat) : Md := (tr_run o n (td_run o n 120 (s.u_oMark (upd s.oMark o (ml_run s o ns 0 1000000000)), r))).1
set_option maxRecDepth 100000 in
theorem rt_moves {G : rv_G} {σ0 σ : rv_S} {y o n ns r : Nat} {s : Md} {vo : Int32} (eo : vo = nI o) (ho : o < 5) (es : s.nsr = nI ns) (hs : ns ≤ 10) (en : s.nwin = nI n) (hn : n ≤ 120) (er : s.nres = nI r) (hr : r ≤ 400) (hok : td_ok o n 120 (s.u_oMark (upd s.oMark o (ml_run s o ns 0 1000000000)), r)) (h : MI σ0 σ y (md y s)) :
    rv_Ct G i_Model_moves 0 0 [.ref y, .int vo] σ (fun q σ' => q = some (.int (if ml_run s o ns 0 1000000000 ≤ s.oMark o then 0 else (mo_run s o n ns r).ever - s.ever)) ∧ MI σ0 σ' y (md y (if ml_run s o ns 0 1000000000 ≤ s.oMark o then s else mo_run s o n ns r))) := by
  refine rv_ct (M := m_Model_moves) rfl (by decide) rfl rfl ?_
  refine rv_V.run rv_gd_Model_moves [11] 400 ?_
  refine Exists.intro _ (And.intro h.ob ?_)
  refine lp_mv1 eo es hs h ns 0 _ _ rfl (by omega) (fun vj => ?_)
  refine rv_V.run rv_gd_Model_moves [93] 400 ?_
  refine Exists.intro _ (And.intro h.ob ?_)
  refine h.l6 eo ho ?_
  refine And.intro (fun c1 => ?_) (fun c1 => ?_)
  · have hno := Int32.not_le.mpr c1
    rw [if_neg hno, if_neg hno]
    refine Exists.intro _ (And.intro h.ob ?_)
    refine h.s6 eo ho (fun σ h => ?_)
    refine And.intro (Exists.intro _ h.ob) ?_
    refine ⟨_, _, _, rt_due (s := (s.u_oMark (upd s.oMark o (ml_run s o ns 0 1000000000)))) false eo ho en hn h, Nat.zero_le _, Nat.zero_le _, rfl, ?_⟩
    rintro _ σ ⟨rfl, rfl⟩
    exact lp_mv2 eo ho hn 120 r (s.u_oMark (upd s.oMark o (ml_run s o ns 0 1000000000))) _ σ en er hr hok rfl h
  · rw [if_pos (Int32.not_lt.mp c1), if_pos (Int32.not_lt.mp c1)]
    exact And.intro trivial ⟨rfl, h⟩
end
section
/-! THE REFERENCE: its smaller calls -/
theorem in_nI {x : Int32} {n : Nat} (hn : n < 2 ^ 30) : rv_in x 0 (nI n - 1) = true ↔ ∃ j, j < n ∧ x = nI j := by
  unfold rv_in
  rw [decide_eq_true_iff]
  cases n with
  | zero =>
    constructor
    · rintro ⟨h1, h2⟩
      have := Int32.le_trans h1 h2
      exact absurd this (by decide)
    · rintro ⟨j, hj, _⟩
      omega
  | succ t =>
    rw [nI_pred]
    constructor
    · rintro ⟨h1, h2⟩
      obtain ⟨j, hj, e⟩ := nI_of2 (nI_toInt (n := t) (by omega)) (Int32.not_lt.mpr h1) h2
      exact ⟨j, by omega, e⟩
    · rintro ⟨j, hj, rfl⟩
      exact ⟨nI_pos' (by omega), nI_le (by omega) (by omega)⟩
set_option maxRecDepth 100000 in
theorem rt_isOp {G : rv_G} {σ0 σ : rv_S} {y : Nat} {s : Md} (x : Int32) (h : MI σ0 σ y (md y s)) : rv_Ct G i_Model_isOp 0 0 [.ref y, .int x] σ (fun q σ' => q = some (.int (rv_b (rv_in x 0 (s.nop - 1)))) ∧ σ' = σ) := by
  refine rv_ct (M := m_Model_isOp) rfl (by decide) rfl rfl ?_
  refine rv_V.run rv_gd_Model_isOp [] 400 ?_
  refine Exists.intro _ (And.intro h.ob ?_)
  refine ⟨_, _, _, rt_in x 0 (s.nop - 1), Nat.zero_le _, Nat.zero_le _, rfl, ?_⟩
  rintro _ σ ⟨rfl, rfl⟩
  exact And.intro (rv_b01 _) ⟨rfl, rfl⟩
set_option maxRecDepth 100000 in
theorem rt_isSource {G : rv_G} {σ0 σ : rv_S} {y : Nat} {s : Md} (x : Int32) (h : MI σ0 σ y (md y s)) : rv_Ct G i_Model_isSource 0 0 [.ref y, .int x] σ (fun q σ' => q = some (.int (rv_b (rv_in x 0 (s.nsr - 1)))) ∧ σ' = σ) := by
  refine rv_ct (M := m_Model_isSource) rfl (by decide) rfl rfl ?_
  refine rv_V.run rv_gd_Model_isSource [] 400 ?_
  refine Exists.intro _ (And.intro h.ob ?_)
  refine ⟨_, _, _, rt_in x 0 (s.nsr - 1), Nat.zero_le _, Nat.zero_le _, rfl, ?_⟩
  rintro _ σ ⟨rfl, rfl⟩
  exact And.intro (rv_b01 _) ⟨rfl, rfl⟩
set_option maxRecDepth 100000 in
theorem rt_mark_in {G : rv_G} {σ0 σ : rv_S} {y no o : Nat} {s : Md} {x : Int32} (en : s.nop = nI no) (hn : no ≤ 5) (ho : o < no) (ex : x = nI o) (h : MI σ0 σ y (md y s)) : rv_Ct G i_Model_mark 0 0 [.ref y, .int x] σ (fun q σ' => q = some (.int (s.oMark o)) ∧ σ' = σ) := by
  refine rv_ct (M := m_Model_mark) rfl (by decide) rfl rfl ?_
  refine rv_V.run rv_gd_Model_mark [] 400 ?_
  refine And.intro (Exists.intro _ h.ob) ?_
  refine ⟨_, _, _, rt_isOp x h, Nat.zero_le _, Nat.zero_le _, rfl, ?_⟩
  rintro _ σ ⟨rfl, rfl⟩
  refine And.intro (fun c1 => ?_) (fun c1 => ?_)
  · have := rv_b0.mp c1
    rw [en, (in_nI (by omega)).mpr ⟨o, ho, ex⟩] at this
    cases this
  · refine Exists.intro _ (And.intro h.ob ?_)
    refine h.l6 ex (by omega) ?_
    exact And.intro trivial ⟨rfl, rfl⟩
set_option maxRecDepth 100000 in
theorem rt_mark_out {G : rv_G} {σ0 σ : rv_S} {y no : Nat} {s : Md} {x : Int32} (en : s.nop = nI no) (hn : no ≤ 5) (ho : ¬ ∃ j, j < no ∧ x = nI j) (h : MI σ0 σ y (md y s)) : rv_Ct G i_Model_mark 0 0 [.ref y, .int x] σ (fun q σ' => q = some (.int (-1)) ∧ σ' = σ) := by
  refine rv_ct (M := m_Model_mark) rfl (by decide) rfl rfl ?_
  refine rv_V.run rv_gd_Model_mark [] 400 ?_
  refine And.intro (Exists.intro _ h.ob) ?_
  refine ⟨_, _, _, rt_isOp x h, Nat.zero_le _, Nat.zero_le _, rfl, ?_⟩
  rintro _ σ ⟨rfl, rfl⟩
  refine And.intro (fun c1 => ?_) (fun c1 => ?_)
  · exact And.intro trivial ⟨rfl, rfl⟩
  · have := rv_bn c1
    rw [en] at this
    exact absurd ((in_nI (by omega)).mp this) ho
def md_bnd (s : Md) (n rule : Int32) : Md :=
  let s := s.u_bnd n
  s.u_rul rule
set_option maxRecDepth 100000 in
theorem rt_bound {G : rv_G} {σ0 σ : rv_S} {y : Nat} {s : Md} (n rule : Int32) (h : MI σ0 σ y (md y s)) :
    rv_Ct G i_Model_bound 0 0 [.ref y, .int n, .int rule] σ (fun q σ' => q = some (.int (if rv_in n 0 100 = true ∧ rv_in rule 0 1 = true then (if s.nas ≤ n then s.nas else -2) else -1)) ∧ MI σ0 σ' y (md y (if (rv_in n 0 100 = true ∧ rv_in rule 0 1 = true) ∧ s.nas ≤ n then md_bnd s n rule else s))) := by
  refine rv_ct (M := m_Model_bound) rfl (by decide) rfl rfl ?_
  refine rv_V.run rv_gd_Model_bound [] 400 ?_
  refine ⟨_, _, _, rt_in n 0 100, Nat.zero_le _, Nat.zero_le _, rfl, ?_⟩
  rintro _ σ ⟨rfl, rfl⟩
  refine And.intro (fun c1 => ?_) (fun c1 => ?_)
  · have hno : ¬ (rv_in n 0 100 = true ∧ rv_in rule 0 1 = true) := fun z => by rw [rv_b0.mp c1] at z; exact absurd z.1 (by decide)
    rw [if_neg hno, if_neg (fun z => hno z.1)]
    exact And.intro trivial ⟨rfl, h⟩
  refine ⟨_, _, _, rt_in rule 0 1, Nat.zero_le _, Nat.zero_le _, rfl, ?_⟩
  rintro _ σ ⟨rfl, rfl⟩
  refine And.intro (fun c2 => ?_) (fun c2 => ?_)
  · have hno : ¬ (rv_in n 0 100 = true ∧ rv_in rule 0 1 = true) := fun z => by rw [rv_b0.mp c2] at z; exact absurd z.2 (by decide)
    rw [if_neg hno, if_neg (fun z => hno z.1)]
    exact And.intro trivial ⟨rfl, h⟩
  have hyes : rv_in n 0 100 = true ∧ rv_in rule 0 1 = true := ⟨rv_bn c1, rv_bn c2⟩
  rw [if_pos hyes]
  refine Exists.intro _ (And.intro h.ob ?_)
  refine And.intro (fun c3 => ?_) (fun c3 => ?_)
  · rw [if_pos c3, if_pos ⟨hyes, c3⟩]
    refine h.p42 (fun σ h => ?_)
    refine h.p43 (fun σ h => ?_)
    refine Exists.intro _ (And.intro h.ob ?_)
    exact And.intro trivial ⟨rfl, h⟩
  · rw [if_neg c3, if_neg (fun z => c3 z.2)]
    exact And.intro trivial ⟨rfl, h⟩
set_option maxRecDepth 100000 in
theorem rt_result_get {G : rv_G} {σ0 σ : rv_S} {y r : Nat} {s : Md} (i j : Int32) (er : s.nres = nI r) (hr : r ≤ 400) (h : MI σ0 σ y (md y s)) :
    rv_Ct G i_Model_result_IIJ 0 0 [.ref y, .int i, .int j] σ (fun q σ' => q = some (.long (if rv_in i 0 (nI r - 1) = true ∧ rv_in j 0 8 = true then s.eRow (9 * i.toNatClampNeg + j.toNatClampNeg) else -99999999)) ∧ σ' = σ) := by
  refine rv_ct (M := m_Model_result_IIJ) rfl (by decide) rfl rfl ?_
  refine rv_V.run rv_gd_Model_result_IIJ [] 400 ?_
  refine Exists.intro _ (And.intro h.ob ?_)
  refine ⟨_, _, _, rt_in i 0 (s.nres - 1), Nat.zero_le _, Nat.zero_le _, rfl, ?_⟩
  rintro _ σ ⟨rfl, rfl⟩
  rw [er]
  refine And.intro (fun c1 => ?_) (fun c1 => ?_)
  · refine ⟨?_, rfl⟩
    rw [if_neg (fun z => by rw [rv_b0.mp c1] at z; exact absurd z.1 (by decide))]
  refine ⟨_, _, _, rt_in j 0 8, Nat.zero_le _, Nat.zero_le _, rfl, ?_⟩
  rintro _ σ ⟨rfl, rfl⟩
  refine And.intro (fun c2 => ?_) (fun c2 => ?_)
  · refine ⟨?_, rfl⟩
    rw [if_neg (fun z => by rw [rv_b0.mp c2] at z; exact absurd z.2 (by decide))]
  obtain ⟨a, ha, ea⟩ := (in_nI (by omega)).mp (rv_bn c1)
  obtain ⟨b, hb, eb⟩ := (in_nI (n := 9) (by omega)).mp (rv_bn c2)
  refine Exists.intro _ (And.intro h.ob ?_)
  refine h.l34 (w := 9 * a + b) (by rw [ea, eb, show (9 : Int32) = nI 9 from rfl, nI_mul, nI_add]) (by omega) ?_
  refine ⟨?_, rfl⟩
  rw [if_pos ⟨rv_bn c1, rv_bn c2⟩, ea, eb, nI_clamp (by omega), nI_clamp (by omega)]
set_option maxRecDepth 100000 in
theorem rt_aside_get {G : rv_G} {σ0 σ : rv_S} {y r : Nat} {s : Md} (i j : Int32) (er : s.nas = nI r) (hr : r ≤ 100) (h : MI σ0 σ y (md y s)) :
    rv_Ct G i_Model_aside 0 0 [.ref y, .int i, .int j] σ (fun q σ' => q = some (.int (if rv_in i 0 (nI r - 1) = true ∧ rv_in j 0 4 = true then s.aRow (5 * i.toNatClampNeg + j.toNatClampNeg) else -99999999)) ∧ σ' = σ) := by
  refine rv_ct (M := m_Model_aside) rfl (by decide) rfl rfl ?_
  refine rv_V.run rv_gd_Model_aside [] 400 ?_
  refine Exists.intro _ (And.intro h.ob ?_)
  refine ⟨_, _, _, rt_in i 0 (s.nas - 1), Nat.zero_le _, Nat.zero_le _, rfl, ?_⟩
  rintro _ σ ⟨rfl, rfl⟩
  rw [er]
  refine And.intro (fun c1 => ?_) (fun c1 => ?_)
  · refine And.intro trivial ⟨?_, rfl⟩
    rw [if_neg (fun z => by rw [rv_b0.mp c1] at z; exact absurd z.1 (by decide))]
  refine ⟨_, _, _, rt_in j 0 4, Nat.zero_le _, Nat.zero_le _, rfl, ?_⟩
  rintro _ σ ⟨rfl, rfl⟩
  refine And.intro (fun c2 => ?_) (fun c2 => ?_)
  · refine And.intro trivial ⟨?_, rfl⟩
    rw [if_neg (fun z => by rw [rv_b0.mp c2] at z; exact absurd z.2 (by decide))]
  obtain ⟨a, ha, ea⟩ := (in_nI (by omega)).mp (rv_bn c1)
  obtain ⟨b, hb, eb⟩ := (in_nI (n := 5) (by omega)).mp (rv_bn c2)
  refine Exists.intro _ (And.intro h.ob ?_)
  refine h.l35 (w := 5 * a + b) (by rw [ea, eb, show (5 : Int32) = nI 5 from rfl, nI_mul, nI_add]) (by omega) ?_
  refine And.intro trivial ⟨?_, rfl⟩
  rw [if_pos ⟨rv_bn c1, rv_bn c2⟩, ea, eb, nI_clamp (by omega), nI_clamp (by omega)]
/-- none is stopped -/
def tk_run : Nat → Nat → (Nat → Bool) → Nat → Bool
  | 0, _, e => e
  | t + 1, j, e => tk_run t (j + 1) (va_up e j false)
set_option maxRecDepth 100000 in
theorem lp_take {G : rv_G} {σ0 : rv_S} {y : Nat} {vh : Int32} (s : Md) : ∀ (t j : Nat) (vj : Int32) (e : Nat → Bool) (σ : rv_S), vj = nI j → j + t = 10 → MI σ0 σ y (md y (s.u_sStop e)) →
    rv_V G m_Model_take 0 0 (fun q σ' => q = some (.int vh) ∧ MI σ0 σ' y (md y (s.u_sStop (tk_run t j e)))) 12 [some (.ref y), some (.int vh), some (.int vj)] [] σ 0 0 := by
  intro t
  induction t with
  | zero =>
    intro j vj e σ ej h1 h
    refine rv_V.run rv_gd_Model_take [12] 400 ?_
    refine And.intro (fun c1 => ?_) (fun c1 => ?_)
    · exact And.intro trivial ⟨rfl, h⟩
    · exact absurd ((rv_leN (a := 10) rfl ej (by omega) (by omega)).mpr (by omega)) c1
  | succ t ih =>
    intro j vj e σ ej h1 h
    refine rv_V.run rv_gd_Model_take [12] 400 ?_
    refine And.intro (fun c1 => ?_) (fun c1 => ?_)
    · exact absurd ((rv_leN (a := 10) rfl ej (by omega) (by omega)).mp c1) (by omega)
    refine Exists.intro _ (And.intro h.ob ?_)
    refine h.s10 ej (by omega) false rfl (fun σ h => ?_)
    exact ih (j + 1) (vj + 1) (va_up e j false) σ (by rw [ej]; exact nI_1 j) (by omega) h
set_option maxRecDepth 100000 in
theorem rt_take {G : rv_G} {σ0 σ : rv_S} {y : Nat} {s : Md} (h : MI σ0 σ y (md y s)) :
    rv_Ct G i_Model_take 0 0 [.ref y] σ (fun q σ' => q = some (.int s.nas) ∧ MI σ0 σ' y (md y ((s.u_nas 0).u_sStop (tk_run 10 0 s.sStop)))) := by
  refine rv_ct (M := m_Model_take) rfl (by decide) rfl rfl ?_
  refine rv_V.run rv_gd_Model_take [12] 400 ?_
  refine Exists.intro _ (And.intro h.ob ?_)
  refine h.p40 (fun σ h => ?_)
  exact lp_take (s.u_nas 0) 10 0 _ s.sStop σ rfl rfl h
end
section
/-! THE REFERENCE: operators and sources -/
def md_op (s : Md) (n : Nat) (k sz st l r : Int32) : Md :=
  let s := s.u_oKind (upd s.oKind n (k))
  let s := s.u_oSize (upd s.oSize n (sz))
  let s := s.u_oStep (upd s.oStep n (st))
  let s := s.u_oLt (upd s.oLt n (l))
  let s := s.u_oRule (upd s.oRule n (r))
  let s := s.u_nop ((s.nop + 1))
  s
def op_ok (k sz st l r : Int32) : Bool := rv_in k 0 2 && (rv_in r 0 2 && (rv_in sz 1 1000000 && (rv_in st 1 1000000 && (rv_in l 0 1000000 && !(decide (k = 1) && (decide (sz < st) || decide (8 * st < sz)))))))
set_option maxRecDepth 100000 in
theorem rt_operator {G : rv_G} {σ0 σ : rv_S} {y n : Nat} {s : Md} (k sz st l r : Int32) (en : s.nop = nI n) (hn5 : n ≤ 5) (h : MI σ0 σ y (md y s)) :
    rv_Ct G i_Model_operator 0 0 [.ref y, .int k, .int sz, .int st, .int l, .int r] σ (fun q σ' => q = some (.int (if op_ok k sz st l r = true then (if n = 5 then -3 else nI n) else -1)) ∧ MI σ0 σ' y (md y (if op_ok k sz st l r = true ∧ ¬ n = 5 then md_op s n k sz st l r else s))) := by
  have bad : ∀ σ : rv_S, MI σ0 σ y (md y s) → op_ok k sz st l r = false → (some (Value.int (-1)) = some (Value.int (if op_ok k sz st l r = true then (if n = 5 then -3 else nI n) else -1)) ∧ MI σ0 σ y (md y (if op_ok k sz st l r = true ∧ ¬ n = 5 then md_op s n k sz st l r else s))) := by
    intro σ h hb
    have hno : ¬ op_ok k sz st l r = true := by rw [hb]; decide
    rw [if_neg hno, if_neg (fun z => hno z.1)]
    exact ⟨rfl, h⟩
  refine rv_ct (M := m_Model_operator) rfl (by decide) rfl rfl ?_
  refine rv_V.run rv_gd_Model_operator [72] 400 ?_
  refine ⟨_, _, _, rt_in k 0 2, Nat.zero_le _, Nat.zero_le _, rfl, ?_⟩
  rintro _ σ ⟨rfl, rfl⟩
  refine And.intro (fun c0 => And.intro trivial (bad σ h (by unfold op_ok; rw [rv_b0.mp c0]; rfl))) (fun c0 => ?_)
  refine ⟨_, _, _, rt_in r 0 2, Nat.zero_le _, Nat.zero_le _, rfl, ?_⟩
  rintro _ σ ⟨rfl, rfl⟩
  refine And.intro (fun c1 => And.intro trivial (bad σ h (by unfold op_ok; rw [rv_bn c0, rv_b0.mp c1]; rfl))) (fun c1 => ?_)
  refine ⟨_, _, _, rt_in sz 1 1000000, Nat.zero_le _, Nat.zero_le _, rfl, ?_⟩
  rintro _ σ ⟨rfl, rfl⟩
  refine And.intro (fun c2 => And.intro trivial (bad σ h (by unfold op_ok; rw [rv_bn c0, rv_bn c1, rv_b0.mp c2]; rfl))) (fun c2 => ?_)
  refine ⟨_, _, _, rt_in st 1 1000000, Nat.zero_le _, Nat.zero_le _, rfl, ?_⟩
  rintro _ σ ⟨rfl, rfl⟩
  refine And.intro (fun c3 => And.intro trivial (bad σ h (by unfold op_ok; rw [rv_bn c0, rv_bn c1, rv_bn c2, rv_b0.mp c3]; rfl))) (fun c3 => ?_)
  refine ⟨_, _, _, rt_in l 0 1000000, Nat.zero_le _, Nat.zero_le _, rfl, ?_⟩
  rintro _ σ ⟨rfl, rfl⟩
  refine And.intro (fun c4 => And.intro trivial (bad σ h (by unfold op_ok; rw [rv_bn c0, rv_bn c1, rv_bn c2, rv_bn c3, rv_b0.mp c4]; rfl))) (fun c4 => ?_)
  have rest : (decide (k = 1) && (decide (sz < st) || decide (8 * st < sz))) = false → rv_V G m_Model_operator 0 0 (fun q σ' => q = some (.int (if op_ok k sz st l r = true then (if n = 5 then -3 else nI n) else -1)) ∧ MI σ0 σ' y (md y (if op_ok k sz st l r = true ∧ ¬ n = 5 then md_op s n k sz st l r else s))) 72 [some (.ref y), some (.int k), some (.int sz), some (.int st), some (.int l), some (.int r)] [] σ 0 0 := by
    intro hz
    have hyes : op_ok k sz st l r = true := by unfold op_ok; rw [rv_bn c0, rv_bn c1, rv_bn c2, rv_bn c3, rv_bn c4, hz]; rfl
    rw [if_pos hyes]
    refine rv_V.run rv_gd_Model_operator [] 400 ?_
    refine Exists.intro _ (And.intro h.ob ?_)
    refine And.intro (fun c7 => ?_) (fun c7 => ?_)
    · have h5 : n = 5 := (nI_eq (b := 5) (by omega) (by decide)).mp (en.symm.trans c7)
      rw [if_pos h5, if_neg (fun z => z.2 h5)]
      exact And.intro trivial ⟨rfl, h⟩
    · have h5 : ¬ n = 5 := fun z => c7 (by show s.nop = 5; rw [en, z]; rfl)
      have hn : n < 5 := by omega
      rw [if_neg h5, if_pos ⟨hyes, h5⟩]
      refine Exists.intro _ (And.intro h.ob ?_)
      refine Exists.intro _ (And.intro h.ob ?_)
      refine h.s1 en hn (fun σ h => ?_)
      refine Exists.intro _ (And.intro h.ob ?_)
      refine Exists.intro _ (And.intro h.ob ?_)
      refine h.s2 en hn (fun σ h => ?_)
      refine Exists.intro _ (And.intro h.ob ?_)
      refine Exists.intro _ (And.intro h.ob ?_)
      refine h.s3 en hn (fun σ h => ?_)
      refine Exists.intro _ (And.intro h.ob ?_)
      refine Exists.intro _ (And.intro h.ob ?_)
      refine h.s4 en hn (fun σ h => ?_)
      refine Exists.intro _ (And.intro h.ob ?_)
      refine Exists.intro _ (And.intro h.ob ?_)
      refine h.s5 en hn (fun σ h => ?_)
      refine Exists.intro _ (And.intro h.ob ?_)
      refine h.p0  (fun σ h => ?_)
      refine Exists.intro _ (And.intro h.ob ?_)
      refine And.intro trivial ⟨?_, h⟩
      show some (Value.int (s.nop + 1 - 1)) = _
      rw [en, nI_1, nI_pred]
  refine And.intro (fun c5 => ?_) (fun c5 => ?_)
  · refine And.intro (fun c6 => ?_) (fun c6 => ?_)
    · exact And.intro trivial (bad σ h (by unfold op_ok; rw [rv_bn c0, rv_bn c1, rv_bn c2, rv_bn c3, rv_bn c4, decide_eq_true c5, decide_eq_true c6]; rfl))
    · refine And.intro (fun c7 => ?_) (fun c7 => ?_)
      · exact rest (by rw [decide_eq_false c6, decide_eq_false (Int32.not_lt.mpr c7)]; simp)
      · exact And.intro trivial (bad σ h (by unfold op_ok; rw [rv_bn c0, rv_bn c1, rv_bn c2, rv_bn c3, rv_bn c4, decide_eq_true c5, decide_eq_true (Int32.not_le.mp c7)]; simp))
  · exact rest (by rw [decide_eq_false c5]; rfl)
def md_src (s : Md) (n : Nat) (x : Int32) : Md :=
  let s := s.u_sOp (upd s.sOp n (x))
  let s := s.u_nsr ((s.nsr + 1))
  s
set_option maxRecDepth 100000 in
theorem rt_source_out {G : rv_G} {σ0 σ : rv_S} {y no : Nat} {s : Md} {x : Int32} (en : s.nop = nI no) (hn : no ≤ 5) (ho : ¬ ∃ j, j < no ∧ x = nI j) (h : MI σ0 σ y (md y s)) : rv_Ct G i_Model_source 0 0 [.ref y, .int x] σ (fun q σ' => q = some (.int (-1)) ∧ σ' = σ) := by
  refine rv_ct (M := m_Model_source) rfl (by decide) rfl rfl ?_
  refine rv_V.run rv_gd_Model_source [] 400 ?_
  refine And.intro (Exists.intro _ h.ob) ?_
  refine ⟨_, _, _, rt_isOp x h, Nat.zero_le _, Nat.zero_le _, rfl, ?_⟩
  rintro _ σ ⟨rfl, rfl⟩
  refine And.intro (fun c1 => ?_) (fun c1 => ?_)
  · exact And.intro trivial ⟨rfl, rfl⟩
  · have := rv_bn c1
    rw [en] at this
    exact absurd ((in_nI (by omega)).mp this) ho
set_option maxRecDepth 100000 in
theorem rt_source_in {G : rv_G} {σ0 σ : rv_S} {y no o n : Nat} {s : Md} {x : Int32} (en : s.nop = nI no) (hn : no ≤ 5) (ho : o < no) (ex : x = nI o) (es : s.nsr = nI n) (hs10 : n ≤ 10) (h : MI σ0 σ y (md y s)) :
    rv_Ct G i_Model_source 0 0 [.ref y, .int x] σ (fun q σ' => q = some (.int (if s.oMark o = 1000000000 then -2 else if n = 10 then -3 else nI n)) ∧ MI σ0 σ' y (md y (if s.oMark o = 1000000000 ∨ n = 10 then s else md_src s n x))) := by
  refine rv_ct (M := m_Model_source) rfl (by decide) rfl rfl ?_
  refine rv_V.run rv_gd_Model_source [] 400 ?_
  refine And.intro (Exists.intro _ h.ob) ?_
  refine ⟨_, _, _, rt_isOp x h, Nat.zero_le _, Nat.zero_le _, rfl, ?_⟩
  rintro _ σ ⟨rfl, rfl⟩
  refine And.intro (fun c1 => ?_) (fun c1 => ?_)
  · have := rv_b0.mp c1
    rw [en, (in_nI (by omega)).mpr ⟨o, ho, ex⟩] at this
    cases this
  refine Exists.intro _ (And.intro h.ob ?_)
  refine h.l6 ex (by omega) ?_
  refine And.intro (fun c2 => ?_) (fun c2 => ?_)
  · rw [if_pos c2, if_pos (Or.inl c2)]
    exact And.intro trivial ⟨rfl, h⟩
  rw [if_neg c2]
  refine Exists.intro _ (And.intro h.ob ?_)
  refine And.intro (fun c3 => ?_) (fun c3 => ?_)
  · have h5 : n = 10 := (nI_eq (b := 10) (by omega) (by decide)).mp (es.symm.trans c3)
    rw [if_pos h5, if_pos (Or.inr h5)]
    exact And.intro trivial ⟨rfl, h⟩
  · have h5 : ¬ n = 10 := fun z => c3 (by show s.nsr = 10; rw [es, z]; rfl)
    have hs : n < 10 := by omega
    rw [if_neg h5, if_neg (fun z => z.elim c2 h5)]
    refine Exists.intro _ (And.intro h.ob ?_)
    refine Exists.intro _ (And.intro h.ob ?_)
    refine h.s7 es hs (fun σ h => ?_)
    refine Exists.intro _ (And.intro h.ob ?_)
    refine h.p7  (fun σ h => ?_)
    refine Exists.intro _ (And.intro h.ob ?_)
    refine And.intro trivial ⟨?_, h⟩
    show some (Value.int (s.nsr + 1 - 1)) = _
    rw [es, nI_1, nI_pred]
set_option maxRecDepth 100000 in
theorem rt_count {G : rv_G} {σ0 σ : rv_S} {y : Nat} {s : Md} (x : Int32) (h : MI σ0 σ y (md y s)) :
    rv_Ct G i_Model_count 0 0 [.ref y, .int x] σ (fun q σ' => q = some (.int (if x = 0 then s.nop else if x = 1 then s.nsr else if x = 2 then s.nrow else if x = 3 then s.nwin else if x = 4 then s.nres else if x = 5 then s.ever else if x = 6 then s.nas else if x = 7 then s.drp else if x = 8 then s.nps else -1)) ∧ σ' = σ) := by
  refine rv_ct (M := m_Model_count) rfl (by decide) rfl rfl ?_
  refine rv_V.run rv_gd_Model_count [] 400 ?_
  refine And.intro (fun c => ?_) (fun c => ?_)
  · rw [if_pos c]
    refine Exists.intro _ (And.intro h.ob ?_)
    exact And.intro trivial ⟨rfl, rfl⟩
  rw [if_neg c]
  refine And.intro (fun c => ?_) (fun c => ?_)
  · rw [if_pos c]
    refine Exists.intro _ (And.intro h.ob ?_)
    exact And.intro trivial ⟨rfl, rfl⟩
  rw [if_neg c]
  refine And.intro (fun c => ?_) (fun c => ?_)
  · rw [if_pos c]
    refine Exists.intro _ (And.intro h.ob ?_)
    exact And.intro trivial ⟨rfl, rfl⟩
  rw [if_neg c]
  refine And.intro (fun c => ?_) (fun c => ?_)
  · rw [if_pos c]
    refine Exists.intro _ (And.intro h.ob ?_)
    exact And.intro trivial ⟨rfl, rfl⟩
  rw [if_neg c]
  refine And.intro (fun c => ?_) (fun c => ?_)
  · rw [if_pos c]
    refine Exists.intro _ (And.intro h.ob ?_)
    exact And.intro trivial ⟨rfl, rfl⟩
  rw [if_neg c]
  refine And.intro (fun c => ?_) (fun c => ?_)
  · rw [if_pos c]
    refine Exists.intro _ (And.intro h.ob ?_)
    exact And.intro trivial ⟨rfl, rfl⟩
  rw [if_neg c]
  refine And.intro (fun c => ?_) (fun c => ?_)
  · rw [if_pos c]
    refine Exists.intro _ (And.intro h.ob ?_)
    exact And.intro trivial ⟨rfl, rfl⟩
  rw [if_neg c]
  refine And.intro (fun c => ?_) (fun c => ?_)
  · rw [if_pos c]
    refine Exists.intro _ (And.intro h.ob ?_)
    exact And.intro trivial ⟨rfl, rfl⟩
  rw [if_neg c]
  refine And.intro (fun c => ?_) (fun c => ?_)
  · rw [if_pos c]
    refine Exists.intro _ (And.intro h.ob ?_)
    exact And.intro trivial ⟨rfl, rfl⟩
  rw [if_neg c]
  exact And.intro trivial ⟨rfl, rfl⟩
set_option maxRecDepth 100000 in
theorem rt_of_out {G : rv_G} {σ0 σ : rv_S} {y n : Nat} {s : Md} {x : Int32} (j : Int32) (es : s.nsr = nI n) (hs : n ≤ 10) (ho : ¬ ∃ j, j < n ∧ x = nI j) (h : MI σ0 σ y (md y s)) : rv_Ct G i_Model_of 0 0 [.ref y, .int x, .int j] σ (fun q σ' => q = some (.int (-99999999)) ∧ σ' = σ) := by
  refine rv_ct (M := m_Model_of) rfl (by decide) rfl rfl ?_
  refine rv_V.run rv_gd_Model_of [] 400 ?_
  refine And.intro (Exists.intro _ h.ob) ?_
  refine ⟨_, _, _, rt_isSource x h, Nat.zero_le _, Nat.zero_le _, rfl, ?_⟩
  rintro _ σ ⟨rfl, rfl⟩
  refine And.intro (fun c1 => ?_) (fun c1 => ?_)
  · exact And.intro trivial ⟨rfl, rfl⟩
  · have := rv_bn c1
    rw [es] at this
    exact absurd ((in_nI (by omega)).mp this) ho
def of_val (d : Sd) (j : Int32) : Int32 := if j = 0 then nI d.1 else if j = 1 then d.2.1 else if j = 2 then rv_b d.2.2.1.1 else if j = 3 then rv_b d.2.2.1.2 else if j = 4 then d.2.2.2.1 else if j = 5 then d.2.2.2.2.1 else if j = 6 then d.2.2.2.2.2.1 else if j = 7 then d.2.2.2.2.2.2 else -99999999
/-- the reference's source j, of operator o -/
def ms (s : Md) (o j : Nat) : Sd := (o, s.sProm j, (s.sEnd j, s.sStop j), s.sUsed j, s.sAside j, s.sBrok j, s.sFirst j)
set_option maxRecDepth 100000 in
theorem rt_of_in {G : rv_G} {σ0 σ : rv_S} {y n i o : Nat} {s : Md} {x : Int32} (j : Int32) (es : s.nsr = nI n) (hs : n ≤ 10) (hi : i < n) (ex : x = nI i) (eo : s.sOp i = nI o) (h : MI σ0 σ y (md y s)) : rv_Ct G i_Model_of 0 0 [.ref y, .int x, .int j] σ (fun q σ' => q = some (.int (of_val (ms s o i) j)) ∧ σ' = σ) := by
  refine rv_ct (M := m_Model_of) rfl (by decide) rfl rfl ?_
  refine rv_V.run rv_gd_Model_of [] 400 ?_
  refine And.intro (Exists.intro _ h.ob) ?_
  refine ⟨_, _, _, rt_isSource x h, Nat.zero_le _, Nat.zero_le _, rfl, ?_⟩
  rintro _ σ ⟨rfl, rfl⟩
  refine And.intro (fun c1 => ?_) (fun c1 => ?_)
  · have := rv_b0.mp c1
    rw [es, (in_nI (by omega)).mpr ⟨i, hi, ex⟩] at this
    cases this
  unfold of_val
  refine And.intro (fun c => ?_) (fun c => ?_)
  · rw [if_pos c]
    refine Exists.intro _ (And.intro h.ob ?_)
    refine h.l7 ex (by omega) ?_
    exact And.intro trivial ⟨by rw [eo]; rfl, rfl⟩
  rw [if_neg c]
  refine And.intro (fun c => ?_) (fun c => ?_)
  · rw [if_pos c]
    refine Exists.intro _ (And.intro h.ob ?_)
    refine h.l8 ex (by omega) ?_
    exact And.intro trivial ⟨rfl, rfl⟩
  rw [if_neg c]
  refine And.intro (fun c => ?_) (fun c => ?_)
  · rw [if_pos c]
    refine Exists.intro _ (And.intro h.ob ?_)
    refine h.l9 ex (by omega) ?_
    refine And.intro (fun c2 => ?_) (fun c2 => ?_)
    · exact And.intro trivial ⟨congrArg (fun q => some (Value.int q)) (Eq.symm c2), rfl⟩
    · refine And.intro trivial ⟨?_, rfl⟩
      rcases rv_b01 (s.sEnd i) with z | z
      · exact absurd z c2
      · exact congrArg (fun q => some (Value.int q)) (Eq.symm z)
  rw [if_neg c]
  refine And.intro (fun c => ?_) (fun c => ?_)
  · rw [if_pos c]
    refine Exists.intro _ (And.intro h.ob ?_)
    refine h.l10 ex (by omega) ?_
    refine And.intro (fun c2 => ?_) (fun c2 => ?_)
    · exact And.intro trivial ⟨congrArg (fun q => some (Value.int q)) (Eq.symm c2), rfl⟩
    · refine And.intro trivial ⟨?_, rfl⟩
      rcases rv_b01 (s.sStop i) with z | z
      · exact absurd z c2
      · exact congrArg (fun q => some (Value.int q)) (Eq.symm z)
  rw [if_neg c]
  refine And.intro (fun c => ?_) (fun c => ?_)
  · rw [if_pos c]
    refine Exists.intro _ (And.intro h.ob ?_)
    refine h.l11 ex (by omega) ?_
    exact And.intro trivial ⟨rfl, rfl⟩
  rw [if_neg c]
  refine And.intro (fun c => ?_) (fun c => ?_)
  · rw [if_pos c]
    refine Exists.intro _ (And.intro h.ob ?_)
    refine h.l12 ex (by omega) ?_
    exact And.intro trivial ⟨rfl, rfl⟩
  rw [if_neg c]
  refine And.intro (fun c => ?_) (fun c => ?_)
  · rw [if_pos c]
    refine Exists.intro _ (And.intro h.ob ?_)
    refine h.l13 ex (by omega) ?_
    exact And.intro trivial ⟨rfl, rfl⟩
  rw [if_neg c]
  refine And.intro (fun c => ?_) (fun c => ?_)
  · rw [if_pos c]
    refine Exists.intro _ (And.intro h.ob ?_)
    refine h.l14 ex (by omega) ?_
    exact And.intro trivial ⟨rfl, rfl⟩
  rw [if_neg c]
  exact And.intro trivial ⟨rfl, rfl⟩
end
section
/-! THE REFERENCE: windows are joined -/
def md_gset (s : Md) (w : Nat) (t : Tl) : Md :=
  let s := s.u_wMany (upd s.wMany w (t.1))
  let s := s.u_wSum (vp_updL s.wSum w (t.2.1))
  let s := s.u_wLeast (upd s.wLeast w (t.2.2.1))
  let s := s.u_wMost (upd s.wMost w (t.2.2.2))
  s
def gm_bt (s : Md) (w : Nat) : Option Nat → Bool
  | none => true
  | some j => decide (s.wBeg w < s.wBeg j)
def gm_pick (s : Md) (vo k b e : Int32) : Nat → Nat → Option Nat → Option Nat
  | 0, _, q => q
  | t + 1, w, q => gm_pick s vo k b e t (w + 1) (if mt_is s w vo k b e = true ∧ gm_bt s w q = true then some w else q)
theorem gm_lt (s : Md) (vo k b e : Int32) : ∀ (t w : Nat) (q : Option Nat) (j : Nat), gm_pick s vo k b e t w q = some j → (∀ i, q = some i → i < w) → j < w + t
  | 0, w, q, j, h, hb => hb j h
  | t + 1, w, q, j, h, hb => by
    have := gm_lt s vo k b e t (w + 1) _ j h (fun i hi => by
      split at hi
      · cases hi; omega
      · have := hb i hi; omega)
    omega
def gp_s (s : Md) (r w : Nat) : Md := if s.wTold w = true then md_back s r w else s
def gp_r (s : Md) (r w : Nat) : Nat := if s.wTold w = true then rq r else r
def gp_t (s : Md) (w : Nat) (t : Tl) : Tl := (t.1 + s.wMany w, t.2.1 + s.wSum w, (if s.wLeast w < t.2.2.1 then s.wLeast w else t.2.2.1), (if t.2.2.2 < s.wMost w then s.wMost w else t.2.2.2))
def gp_run (vo k b e : Int32) : Nat → Md → Nat → Tl → Md × Nat × Nat × Tl
  | 0, s, r, t => (s, r, 0, t)
  | n + 1, s, r, t => match gm_pick s vo k b e (n + 1) 0 none with
    | none => (s, r, n + 1, t)
    | some w => gp_run vo k b e n (md_rem (gp_s s r w) (n + 1) w) (gp_r s r w) (gp_t (gp_s s r w) w t)
set_option maxRecDepth 100000 in
theorem lp_gm {G : rv_G} {σ0 σ : rv_S} {y n : Nat} {s : Md} {vo k time v v5 b e : Int32} {t : Tl} {Rt : Option Value → rv_S → Prop} (en : s.nwin = nI n) (hn : n ≤ 120) (h : MI σ0 σ y (md y s)) : ∀ (f w : Nat) (vw nv : Int32) (q : Option Nat), vw = nI w → w + f = n → nv = oi q → (∀ j, q = some j → j < 120) → (∀ (x14 : Option Value) (nv : Int32), nv = oi (gm_pick s vo k b e f w q) → rv_V G m_Model_gap 0 0 Rt 159 [some (.ref y), some (.int vo), some (.int k), some (.int time), some (.int v), some (.int v5), some (.int t.1), some (.long t.2.1), none, some (.int t.2.2.1), some (.int t.2.2.2), some (.int e), some (.int b), some (.int nv), x14] [] σ 0 0) →
    rv_V G m_Model_gap 0 0 Rt 101 [some (.ref y), some (.int vo), some (.int k), some (.int time), some (.int v), some (.int v5), some (.int t.1), some (.long t.2.1), none, some (.int t.2.2.1), some (.int t.2.2.2), some (.int e), some (.int b), some (.int nv), some (.int vw)] [] σ 0 0 := by
  intro f
  induction f with
  | zero =>
    intro w vw nv q ew h1 eq hq fin
    refine rv_V.run rv_gd_Model_gap [101, 159] 400 ?_
    refine Exists.intro _ (And.intro h.ob ?_)
    refine And.intro (fun c1 => ?_) (fun c1 => ?_)
    · exact fin _ nv eq
    · exact absurd ((rv_leN en ew (by omega) (by omega)).mpr (by omega)) c1
  | succ f ih =>
    intro w vw nv q ew h1 eq hq fin
    have at153 : ∀ (nv : Int32) (q' : Option Nat), nv = oi q' → (∀ j, q' = some j → j < 120) → gm_pick s vo k b e (f + 1) w q = gm_pick s vo k b e f (w + 1) q' → rv_V G m_Model_gap 0 0 Rt 153 [some (.ref y), some (.int vo), some (.int k), some (.int time), some (.int v), some (.int v5), some (.int t.1), some (.long t.2.1), none, some (.int t.2.2.1), some (.int t.2.2.2), some (.int e), some (.int b), some (.int nv), some (.int vw)] [] σ 0 0 := by
      intro nv q' e1 e2 e3
      refine rv_V.run rv_gd_Model_gap [101] 400 ?_
      refine ih (w + 1) (vw + 1) nv q' (by rw [ew]; exact nI_1 w) (by omega) e1 e2 ?_
      rw [← e3]
      exact fin
    have yes : mt_is s w vo k b e = true → gm_bt s w q = true → gm_pick s vo k b e (f + 1) w q = gm_pick s vo k b e f (w + 1) (some w) := fun z1 z2 => by
      conv => lhs; unfold gm_pick
      rw [if_pos ⟨z1, z2⟩]
    have no : ¬ (mt_is s w vo k b e = true ∧ gm_bt s w q = true) → gm_pick s vo k b e (f + 1) w q = gm_pick s vo k b e f (w + 1) q := fun z => by
      conv => lhs; unfold gm_pick
      rw [if_neg z]
    refine rv_V.run rv_gd_Model_gap [101, 153, 159] 400 ?_
    refine Exists.intro _ (And.intro h.ob ?_)
    refine And.intro (fun c1 => ?_) (fun c1 => ?_)
    · exact absurd ((rv_leN en ew (by omega) (by omega)).mp c1) (by omega)
    refine And.intro (Exists.intro _ h.ob) ?_
    refine ⟨_, _, _, rt_meets vo k b e ew (by omega) h, Nat.zero_le _, Nat.zero_le _, rfl, ?_⟩
    rintro _ σ ⟨rfl, rfl⟩
    refine And.intro (fun c2 => ?_) (fun c2 => ?_)
    · exact at153 nv q eq hq (no (fun z => by rw [rv_b0.mp c2] at z; exact absurd z.1 (by decide)))
    refine And.intro (fun c3 => ?_) (fun c3 => ?_)
    · have hqn := (oi_eq eq hq).mp c3
      subst hqn
      exact at153 vw (some w) ew (fun j hj => by cases hj; omega) (yes (rv_bn c2) rfl)
    · cases q with
      | none => exact absurd eq c3
      | some j =>
        refine Exists.intro _ (And.intro h.ob ?_)
        refine h.l22 ew (by omega) ?_
        refine Exists.intro _ (And.intro h.ob ?_)
        refine h.l22 eq (hq j rfl) ?_
        refine And.intro (fun c4 => ?_) (fun c4 => ?_)
        · exact at153 nv (some j) eq hq (no (fun z => absurd (of_decide_eq_true z.2) (Int32.not_lt.mpr c4)))
        · exact at153 vw (some w) ew (fun j hj => by cases hj; omega) (yes (rv_bn c2) (decide_eq_true (Int32.not_le.mp c4)))
theorem gp_facts (vo k b e : Int32) : ∀ (n : Nat) (s : Md) (r : Nat) (t : Tl), n ≤ 120 → s.nwin = nI n → s.nres = nI r → r ≤ 400 → (gp_run vo k b e n s r t).1.nwin = nI (gp_run vo k b e n s r t).2.2.1 ∧ (gp_run vo k b e n s r t).1.nres = nI (gp_run vo k b e n s r t).2.1 ∧ (gp_run vo k b e n s r t).2.1 ≤ 400 ∧ (gp_run vo k b e n s r t).2.2.1 ≤ n
  | 0, s, r, t, hn, en, er, hr => ⟨en, er, hr, Nat.le_refl _⟩
  | n + 1, s, r, t, hn, en, er, hr => by
    cases hd : gm_pick s vo k b e (n + 1) 0 none with
    | none =>
      have hR : gp_run vo k b e (n + 1) s r t = (s, r, n + 1, t) := by
        unfold gp_run
        rw [hd]
      rw [hR]
      exact ⟨en, er, hr, Nat.le_refl _⟩
    | some w =>
      have hR : gp_run vo k b e (n + 1) s r t = gp_run vo k b e n (md_rem (gp_s s r w) (n + 1) w) (gp_r s r w) (gp_t (gp_s s r w) w t) := by
        conv => lhs; unfold gp_run
        rw [hd]
      rw [hR]
      have h1 : (gp_s s r w).nwin = nI (n + 1) := by
        unfold gp_s
        split
        · exact (back_nwin _ _ _).trans en
        · exact en
      have h2 : (gp_s s r w).nres = nI (gp_r s r w) ∧ gp_r s r w ≤ 400 := by
        unfold gp_s gp_r
        split
        · exact ⟨back_nres w er, rq_le hr⟩
        · exact ⟨er, hr⟩
      have := gp_facts vo k b e n (md_rem (gp_s s r w) (n + 1) w) (gp_r s r w) (gp_t (gp_s s r w) w t) (by omega) (rem_nwin w (Nat.succ_pos n) h1) ((rem_nres _ _ _).trans h2.1) h2.2
      exact ⟨this.1, this.2.1, this.2.2.1, by omega⟩
set_option maxRecDepth 100000 in
theorem lp_gap {G : rv_G} {σ0 : rv_S} {y : Nat} {vo k time v v5 b e : Int32} {Rt : Option Value → rv_S → Prop} : ∀ (n r : Nat) (s : Md) (t : Tl) (nv : Int32) (x14 : Option Value) (σ : rv_S), n ≤ 120 → s.nwin = nI n → s.nres = nI r → r ≤ 400 → ¬ nv = -99999999 → MI σ0 σ y (md y s) → (∀ (nv : Int32) (x14 : Option Value) (σ : rv_S), MI σ0 σ y (md y (gp_run vo k b e n s r t).1) → rv_V G m_Model_gap 0 0 Rt 257 [some (.ref y), some (.int vo), some (.int k), some (.int time), some (.int v), some (.int v5), some (.int (gp_run vo k b e n s r t).2.2.2.1), some (.long (gp_run vo k b e n s r t).2.2.2.2.1), none, some (.int (gp_run vo k b e n s r t).2.2.2.2.2.1), some (.int (gp_run vo k b e n s r t).2.2.2.2.2.2), some (.int e), some (.int b), some (.int nv), x14] [] σ 0 0) →
    rv_V G m_Model_gap 0 0 Rt 87 [some (.ref y), some (.int vo), some (.int k), some (.int time), some (.int v), some (.int v5), some (.int t.1), some (.long t.2.1), none, some (.int t.2.2.1), some (.int t.2.2.2), some (.int e), some (.int b), some (.int nv), x14] [] σ 0 0 := by
  intro n
  induction n with
  | zero =>
    intro r s t nv x14 σ hn en er hr hv h fin
    refine rv_V.run rv_gd_Model_gap [101] 400 ?_
    refine And.intro (fun c1 => absurd c1 hv) (fun c1 => ?_)
    refine lp_gm en hn h 0 0 _ _ none rfl rfl rfl (fun j hj => by cases hj) (fun x14 nv env => ?_)
    have env' : nv = -99999999 := env
    refine rv_V.run rv_gd_Model_gap [87] 400 ?_
    refine And.intro (fun c2 => ?_) (fun c2 => absurd env' c2)
    refine rv_V.run rv_gd_Model_gap [257] 400 ?_
    refine And.intro (fun c3 => ?_) (fun c3 => absurd env' c3)
    exact fin nv x14 σ h
  | succ n ih =>
    intro r s t nv x14 σ hn en er hr hv h fin
    refine rv_V.run rv_gd_Model_gap [101] 400 ?_
    refine And.intro (fun c1 => absurd c1 hv) (fun c1 => ?_)
    refine lp_gm en hn h (n + 1) 0 _ _ none rfl (by omega) rfl (fun j hj => by cases hj) (fun x14 nv env => ?_)
    cases hd : gm_pick s vo k b e (n + 1) 0 none with
    | none =>
      rw [hd] at env
      have env' : nv = -99999999 := env
      have hR : gp_run vo k b e (n + 1) s r t = (s, r, n + 1, t) := by
        unfold gp_run
        rw [hd]
      rw [hR] at fin
      refine rv_V.run rv_gd_Model_gap [87] 400 ?_
      refine And.intro (fun c2 => ?_) (fun c2 => absurd env' c2)
      refine rv_V.run rv_gd_Model_gap [257] 400 ?_
      refine And.intro (fun c3 => ?_) (fun c3 => absurd env' c3)
      exact fin nv x14 σ h
    | some w =>
      rw [hd] at env
      have ew : nv = nI w := env
      have hw1 := gm_lt s vo k b e (n + 1) 0 none w hd (fun i hi => by cases hi)
      have hw : w < 120 := by omega
      have hnv : ¬ nv = -99999999 := fun z => by
        have := (oi_eq env (fun j hj => by cases hj; omega)).mp z
        cases this
      have hR : gp_run vo k b e (n + 1) s r t = gp_run vo k b e n (md_rem (gp_s s r w) (n + 1) w) (gp_r s r w) (gp_t (gp_s s r w) w t) := by
        conv => lhs; unfold gp_run
        rw [hd]
      rw [hR] at fin
      have at248 : ∀ (s1 : Md) (r1 : Nat) (t : Tl) (x14 : Option Value) (σ : rv_S), s1.nwin = nI (n + 1) → s1.nres = nI r1 → r1 ≤ 400 → MI σ0 σ y (md y s1) → (∀ (nv : Int32) (x14 : Option Value) (σ : rv_S), MI σ0 σ y (md y (gp_run vo k b e n (md_rem s1 (n + 1) w) r1 t).1) → rv_V G m_Model_gap 0 0 Rt 257 [some (.ref y), some (.int vo), some (.int k), some (.int time), some (.int v), some (.int v5), some (.int (gp_run vo k b e n (md_rem s1 (n + 1) w) r1 t).2.2.2.1), some (.long (gp_run vo k b e n (md_rem s1 (n + 1) w) r1 t).2.2.2.2.1), none, some (.int (gp_run vo k b e n (md_rem s1 (n + 1) w) r1 t).2.2.2.2.2.1), some (.int (gp_run vo k b e n (md_rem s1 (n + 1) w) r1 t).2.2.2.2.2.2), some (.int e), some (.int b), some (.int nv), x14] [] σ 0 0) → rv_V G m_Model_gap 0 0 Rt 248 [some (.ref y), some (.int vo), some (.int k), some (.int time), some (.int v), some (.int v5), some (.int t.1), some (.long t.2.1), none, some (.int t.2.2.1), some (.int t.2.2.2), some (.int e), some (.int b), some (.int nv), x14] [] σ 0 0 := by
        intro s1 r1 t x14 σ e1 e2 e3 h fin
        refine rv_V.run rv_gd_Model_gap [87] 400 ?_
        refine And.intro (Exists.intro _ h.ob) ?_
        refine ⟨_, _, _, rt_remove ew (by omega) e1 hn h, Nat.zero_le _, Nat.zero_le _, rfl, ?_⟩
        rintro _ σ ⟨rfl, h⟩
        exact ih r1 (md_rem s1 (n + 1) w) t nv x14 σ (by omega) (rem_nwin w (Nat.succ_pos n) e1) ((rem_nres _ _ _).trans e2) e3 hnv h fin
      have at182 : ∀ (s1 : Md) (r1 : Nat) (x14 : Option Value) (σ : rv_S), s1.nwin = nI (n + 1) → s1.nres = nI r1 → r1 ≤ 400 → MI σ0 σ y (md y s1) → gp_s s r w = s1 → gp_r s r w = r1 → rv_V G m_Model_gap 0 0 Rt 182 [some (.ref y), some (.int vo), some (.int k), some (.int time), some (.int v), some (.int v5), some (.int t.1), some (.long t.2.1), none, some (.int t.2.2.1), some (.int t.2.2.2), some (.int e), some (.int b), some (.int nv), x14] [] σ 0 0 := by
        intro s1 r1 x14 σ e1 e2 e3 h g1 g2
        rw [g1, g2] at fin
        have at227 : ∀ (a : Int32) (x14 : Option Value), a = (gp_t s1 w t).2.2.1 → rv_V G m_Model_gap 0 0 Rt 227 [some (.ref y), some (.int vo), some (.int k), some (.int time), some (.int v), some (.int v5), some (.int (t.1 + s1.wMany w)), some (.long (t.2.1 + s1.wSum w)), none, some (.int a), some (.int t.2.2.2), some (.int e), some (.int b), some (.int nv), x14] [] σ 0 0 := by
          intro a x14 ea
          subst ea
          refine rv_V.run rv_gd_Model_gap [248] 400 ?_
          refine Exists.intro _ (And.intro h.ob ?_)
          refine h.l27 ew hw ?_
          refine And.intro (fun c4 => ?_) (fun c4 => ?_)
          · have q := at248 s1 r1 (gp_t s1 w t) x14 σ e1 e2 e3 h fin
            rw [show (gp_t s1 w t).2.2.2 = t.2.2.2 from if_neg (Int32.not_lt.mpr c4)] at q
            exact q
          · refine Exists.intro _ (And.intro h.ob ?_)
            refine h.l27 ew hw ?_
            have q := at248 s1 r1 (gp_t s1 w t) x14 σ e1 e2 e3 h fin
            rw [show (gp_t s1 w t).2.2.2 = s1.wMost w from if_pos (Int32.not_le.mp c4)] at q
            exact q
        refine rv_V.run rv_gd_Model_gap [227] 400 ?_
        refine Exists.intro _ (And.intro h.ob ?_)
        refine h.l24 ew hw ?_
        refine Exists.intro _ (And.intro h.ob ?_)
        refine h.l25 ew hw ?_
        refine Exists.intro _ (And.intro h.ob ?_)
        refine h.l26 ew hw ?_
        refine And.intro (fun c3 => ?_) (fun c3 => ?_)
        · exact at227 _ x14 (if_neg (Int32.not_lt.mpr c3)).symm
        · refine Exists.intro _ (And.intro h.ob ?_)
          refine h.l26 ew hw ?_
          exact at227 _ x14 (if_pos (Int32.not_le.mp c3)).symm
      refine rv_V.run rv_gd_Model_gap [87, 182] 400 ?_
      refine And.intro (fun c2 => absurd c2 hnv) (fun c2 => ?_)
      refine Exists.intro _ (And.intro h.ob ?_)
      refine h.l28 ew hw ?_
      refine And.intro (fun c3 => ?_) (fun c3 => ?_)
      · have hf : ¬ s.wTold w = true := by rw [rv_b0.mp c3]; decide
        exact at182 s r x14 σ en er hr h (if_neg hf) (if_neg hf)
      · have hf := rv_bn c3
        refine And.intro (Exists.intro _ h.ob) ?_
        refine ⟨_, _, _, rt_takeBack ew hw er hr h, Nat.zero_le _, Nat.zero_le _, rfl, ?_⟩
        rintro _ σ ⟨rfl, h⟩
        exact at182 (md_back s r w) (rq r) x14 σ ((back_nwin _ _ _).trans en) (back_nres w er) (rq_le hr) h (if_pos hf) (if_pos hf)
end
section
/-! THE REFERENCE: gap, promise, end -/
theorem gset_facts (s : Md) (n : Nat) (vo k b e : Int32) (t : Tl) : (md_gset (md_made s n vo k b e) n t).wOp n = vo ∧ (md_gset (md_made s n vo k b e) n t).nres = s.nres := by
  obtain ⟨a, b1, c, d, e1, f⟩ := s
  refine ⟨?_, rfl⟩
  show upd _ n vo n = vo
  exact if_pos rfl
set_option maxRecDepth 100000 in
theorem lp_gap2 {G : rv_G} {σ0 σ : rv_S} {y n r o : Nat} {s : Md} {vo k time v v5 b e nv : Int32} {t : Tl} {x14 : Option Value} (eo : vo = nI o) (ho : o < 5) (en : s.nwin = nI n) (hn : n < 120) (er : s.nres = nI r) (hr : r ≤ 400) (h : MI σ0 σ y (md y s)) :
    rv_V G m_Model_gap 0 0 (fun q σ' => q = none ∧ MI σ0 σ' y (md y (md_foll (md_gset (md_made s n vo k b e) n t) r n o))) 257 [some (.ref y), some (.int vo), some (.int k), some (.int time), some (.int v), some (.int v5), some (.int t.1), some (.long t.2.1), none, some (.int t.2.2.1), some (.int t.2.2.2), some (.int e), some (.int b), some (.int nv), x14] [] σ 0 0 := by
  refine rv_V.run rv_gd_Model_gap [269] 400 ?_
  refine And.intro (Exists.intro _ h.ob) ?_
  refine ⟨_, _, _, rt_made vo k b e en hn h, Nat.zero_le _, Nat.zero_le _, rfl, ?_⟩
  rintro _ σ ⟨rfl, h⟩
  have hf := gset_facts s n vo k b e t
  have key : ∀ (s1 : Md) (σ : rv_S), MI σ0 σ y (md y s1) → (md_gset s1 n t).wOp n = vo → (md_gset s1 n t).nres = nI r → rv_V G m_Model_gap 0 0 (fun q σ' => q = none ∧ MI σ0 σ' y (md y (md_foll (md_gset s1 n t) r n o))) 269 [some (.ref y), some (.int vo), some (.int k), some (.int time), some (.int v), some (.int v5), some (.int t.1), some (.long t.2.1), none, some (.int t.2.2.1), some (.int t.2.2.2), some (.int e), some (.int b), some (.int nv), some (.int (nI n))] [] σ 0 0 := by
    intro s1 σ h h1 h2
    have hw : n < 120 := hn
    refine rv_V.run rv_gd_Model_gap [] 400 ?_
    refine Exists.intro _ (And.intro h.ob ?_)
    refine h.s24 rfl hw (fun σ h => ?_)
    refine Exists.intro _ (And.intro h.ob ?_)
    refine h.s25 rfl hw (fun σ h => ?_)
    refine Exists.intro _ (And.intro h.ob ?_)
    refine h.s26 rfl hw (fun σ h => ?_)
    refine Exists.intro _ (And.intro h.ob ?_)
    refine h.s27 rfl hw (fun σ h => ?_)
    refine And.intro (Exists.intro _ h.ob) ?_
    refine ⟨_, _, _, rt_follows (s := md_gset s1 n t) rfl hn h2 hr (h1.trans eo) ho h, Nat.zero_le _, Nat.zero_le _, rfl, ?_⟩
    rintro _ σ ⟨rfl, h⟩
    exact ⟨rfl, h⟩
  exact key _ σ h hf.1 (hf.2.trans er)
def gap_run (s : Md) (n r o : Nat) (vo k v : Int32) : Md := md_foll (md_gset (md_made (gp_run vo k s.fB s.fE n s r (1, v.toInt64, v, v)).1 (gp_run vo k s.fB s.fE n s r (1, v.toInt64, v, v)).2.2.1 vo k s.fB s.fE) (gp_run vo k s.fB s.fE n s r (1, v.toInt64, v, v)).2.2.1 (gp_run vo k s.fB s.fE n s r (1, v.toInt64, v, v)).2.2.2) (gp_run vo k s.fB s.fE n s r (1, v.toInt64, v, v)).2.1 (gp_run vo k s.fB s.fE n s r (1, v.toInt64, v, v)).2.2.1 o
set_option maxRecDepth 100000 in
theorem lp_gap1 {G : rv_G} {σ0 σ : rv_S} {y n r o : Nat} {s : Md} {vo k time v v5 : Int32} (eo : vo = nI o) (ho : o < 5) (en : s.nwin = nI n) (hn : n ≤ 120) (hroom : (gp_run vo k s.fB s.fE n s r (1, v.toInt64, v, v)).2.2.1 < 120) (er : s.nres = nI r) (hr : r ≤ 400) (h : MI σ0 σ y (md y s)) :
    rv_V G m_Model_gap 0 0 (fun q σ' => q = none ∧ MI σ0 σ' y (md y (gap_run s n r o vo k v))) 56 [some (.ref y), some (.int vo), some (.int k), some (.int time), some (.int v), some (.int v5), none, none, none, none, none, none, none, none, none] [] σ 0 0 := by
  refine rv_V.run rv_gd_Model_gap [87] 400 ?_
  refine Exists.intro _ (And.intro h.ob ?_)
  refine Exists.intro _ (And.intro h.ob ?_)
  refine lp_gap n r s (1, v.toInt64, v, v) 0 _ σ hn en er hr (by decide) h (fun nv x14 σ h => ?_)
  have hf := gp_facts vo k s.fB s.fE n s r (1, v.toInt64, v, v) hn en er hr
  exact lp_gap2 eo ho hf.1 hroom hf.2.1 hf.2.2.1 h
theorem into_facts (s : Md) (w : Nat) (v : Int32) : (md_into s w v).wOp = s.wOp ∧ (md_into s w v).nres = s.nres ∧ (md_into s w v).nwin = s.nwin := by
  obtain ⟨a, b1, c, d, e1, f⟩ := s
  exact ⟨rfl, rfl, rfl⟩
def gap_own (s : Md) (n : Nat) (vo k : Int32) : Option Nat := fd_run s vo k s.fB n 0
def gap_all (s : Md) (n r o : Nat) (vo k v : Int32) : Md := match gap_own s n vo k with
  | none => gap_run s n r o vo k v
  | some w => if s.jn = 1 ∧ s.wEnd w = s.fE then md_foll (md_into s w v) r w o else gap_run s n r o vo k v
theorem fd_lt (s : Md) (o k b : Int32) : ∀ (t w j : Nat), fd_run s o k b t w = some j → j < w + t ∧ s.wOp j = o
  | 0, w, j, h => by cases h
  | t + 1, w, j, h => by
    unfold fd_run at h
    split at h
    · rename_i hc
      cases h
      exact ⟨by omega, hc.1⟩
    · have := fd_lt s o k b t (w + 1) j h
      exact ⟨by omega, this.2⟩
set_option maxRecDepth 100000 in
theorem rt_gap {G : rv_G} {σ0 σ : rv_S} {y n r o : Nat} {s : Md} {vo : Int32} (k time v : Int32) (eo : vo = nI o) (ho : o < 5) (en : s.nwin = nI n) (hn : n ≤ 120) (hroom : (gp_run vo k s.fB s.fE n s r (1, v.toInt64, v, v)).2.2.1 < 120) (er : s.nres = nI r) (hr : r ≤ 400) (h : MI σ0 σ y (md y s)) :
    rv_Ct G i_Model_gap 0 0 [.ref y, .int vo, .int k, .int time, .int v] σ (fun q σ' => q = none ∧ MI σ0 σ' y (md y (gap_all s n r o vo k v))) := by
  refine rv_ct (M := m_Model_gap) rfl (by decide) rfl rfl ?_
  refine rv_V.run rv_gd_Model_gap [56] 400 ?_
  refine Exists.intro _ (And.intro h.ob ?_)
  refine And.intro (Exists.intro _ h.ob) ?_
  refine ⟨_, _, _, rt_found vo k s.fB en hn h, Nat.zero_le _, Nat.zero_le _, rfl, ?_⟩
  rintro _ σ ⟨rfl, rfl⟩
  cases hd : gap_own s n vo k with
  | none =>
    have hd' : fd_run s vo k s.fB n 0 = none := hd
    rw [show gap_all s n r o vo k v = gap_run s n r o vo k v by unfold gap_all; rw [hd], hd']
    refine Exists.intro _ (And.intro h.ob ?_)
    refine And.intro (fun c1 => ?_) (fun c1 => ?_)
    · refine And.intro (fun c2 => ?_) (fun c2 => absurd rfl c2)
      exact lp_gap1 eo ho en hn hroom er hr h
    · exact lp_gap1 eo ho en hn hroom er hr h
  | some w =>
    have hd' : fd_run s vo k s.fB n 0 = some w := hd
    have hw1 := fd_lt s vo k s.fB n 0 w hd'
    have hw : w < 120 := by omega
    have ew : oi (some w) = nI w := rfl
    have hG : gap_all s n r o vo k v = if s.jn = 1 ∧ s.wEnd w = s.fE then md_foll (md_into s w v) r w o else gap_run s n r o vo k v := by unfold gap_all; rw [hd]
    rw [hG, hd']
    refine Exists.intro _ (And.intro h.ob ?_)
    refine And.intro (fun c1 => ?_) (fun c1 => ?_)
    · refine And.intro (fun c2 => ?_) (fun c2 => ?_)
      · have := (oi_none (b := some w) (fun j hj => by cases hj; omega)).mp c2
        cases this
      refine Exists.intro _ (And.intro h.ob ?_)
      refine h.l23 ew hw ?_
      refine Exists.intro _ (And.intro h.ob ?_)
      refine And.intro (fun c3 => ?_) (fun c3 => ?_)
      · rw [if_pos ⟨c1, c3⟩]
        refine And.intro (Exists.intro _ h.ob) ?_
        refine ⟨_, _, _, rt_into v ew hw h, Nat.zero_le _, Nat.zero_le _, rfl, ?_⟩
        rintro _ σ ⟨rfl, h⟩
        have hf := into_facts s w v
        refine And.intro (Exists.intro _ h.ob) ?_
        refine ⟨_, _, _, rt_follows (s := md_into s w v) ew hw (hf.2.1.trans er) hr (by rw [hf.1, hw1.2, eo]) ho h, Nat.zero_le _, Nat.zero_le _, rfl, ?_⟩
        rintro _ σ ⟨rfl, h⟩
        exact ⟨rfl, h⟩
      · rw [if_neg (fun z => c3 z.2)]
        exact lp_gap1 eo ho en hn hroom er hr h
    · rw [if_neg (fun z => c1 z.1)]
      exact lp_gap1 eo ho en hn hroom er hr h
end
section
/-! THE REFERENCE: promise, end -/
set_option maxRecDepth 100000 in
theorem rt_promise_bad {G : rv_G} {σ0 σ : rv_S} {y n : Nat} {s : Md} {x t : Int32} (es : s.nsr = nI n) (hs : n ≤ 10) (ho : ¬ ((∃ j, j < n ∧ x = nI j) ∧ rv_in t 0 999999999 = true)) (h : MI σ0 σ y (md y s)) : rv_Ct G i_Model_promise 0 0 [.ref y, .int x, .int t] σ (fun q σ' => q = some (.int (-1)) ∧ σ' = σ) := by
  refine rv_ct (M := m_Model_promise) rfl (by decide) rfl rfl ?_
  refine rv_V.run rv_gd_Model_promise [] 400 ?_
  refine And.intro (Exists.intro _ h.ob) ?_
  refine ⟨_, _, _, rt_isSource x h, Nat.zero_le _, Nat.zero_le _, rfl, ?_⟩
  rintro _ σ ⟨rfl, rfl⟩
  refine And.intro (fun c1 => ?_) (fun c1 => ?_)
  · exact And.intro trivial ⟨rfl, rfl⟩
  have h1 := rv_bn c1
  rw [es] at h1
  refine ⟨_, _, _, rt_in t 0 999999999, Nat.zero_le _, Nat.zero_le _, rfl, ?_⟩
  rintro _ σ ⟨rfl, rfl⟩
  refine And.intro (fun c2 => ?_) (fun c2 => ?_)
  · exact And.intro trivial ⟨rfl, rfl⟩
  · exact absurd ⟨(in_nI (by omega)).mp h1, rv_bn c2⟩ ho
def pm_ans (s : Md) (o n ns r : Nat) : Int32 := if ml_run s o ns 0 1000000000 ≤ s.oMark o then 0 else (mo_run s o n ns r).ever - s.ever
def pm_st (s : Md) (o n ns r : Nat) : Md := if ml_run s o ns 0 1000000000 ≤ s.oMark o then s else mo_run s o n ns r
set_option maxRecDepth 100000 in
theorem rt_promise {G : rv_G} {σ0 σ : rv_S} {y ns n r i o : Nat} {s : Md} {x t : Int32} (es : s.nsr = nI ns) (hs : ns ≤ 10) (hi : i < ns) (ex : x = nI i) (ht : rv_in t 0 999999999 = true) (eo : s.sOp i = nI o) (ho : o < 5) (en : s.nwin = nI n) (hn : n ≤ 120) (er : s.nres = nI r) (hr : r ≤ 400) (h : MI σ0 σ y (md y s)) (hok : td_ok o n 120 ((s.u_sProm (upd s.sProm i t)).u_oMark (upd s.oMark o (ml_run (s.u_sProm (upd s.sProm i t)) o ns 0 1000000000)), r)) :
    rv_Ct G i_Model_promise 0 0 [.ref y, .int x, .int t] σ (fun q σ' => q = some (.int (if t < s.sProm i ∨ s.sEnd i = true then -2 else pm_ans (s.u_sProm (upd s.sProm i t)) o n ns r)) ∧ MI σ0 σ' y (md y (if t < s.sProm i ∨ s.sEnd i = true then s else pm_st (s.u_sProm (upd s.sProm i t)) o n ns r))) := by
  have hi10 : i < 10 := by omega
  refine rv_ct (M := m_Model_promise) rfl (by decide) rfl rfl ?_
  refine rv_V.run rv_gd_Model_promise [] 400 ?_
  refine And.intro (Exists.intro _ h.ob) ?_
  refine ⟨_, _, _, rt_isSource x h, Nat.zero_le _, Nat.zero_le _, rfl, ?_⟩
  rintro _ σ ⟨rfl, rfl⟩
  refine And.intro (fun c1 => ?_) (fun c1 => ?_)
  · have := rv_b0.mp c1
    rw [es, (in_nI (by omega)).mpr ⟨i, hi, ex⟩] at this
    cases this
  refine ⟨_, _, _, rt_in t 0 999999999, Nat.zero_le _, Nat.zero_le _, rfl, ?_⟩
  rintro _ σ ⟨rfl, rfl⟩
  refine And.intro (fun c2 => ?_) (fun c2 => ?_)
  · have := rv_b0.mp c2
    rw [ht] at this
    cases this
  refine Exists.intro _ (And.intro h.ob ?_)
  refine h.l8 ex hi10 ?_
  refine And.intro (fun c3 => ?_) (fun c3 => ?_)
  · rw [if_pos (Or.inl c3), if_pos (Or.inl c3)]
    exact And.intro trivial ⟨rfl, h⟩
  refine Exists.intro _ (And.intro h.ob ?_)
  refine h.l9 ex hi10 ?_
  refine And.intro (fun c4 => ?_) (fun c4 => ?_)
  · have hno : ¬ (t < s.sProm i ∨ s.sEnd i = true) := fun z => z.elim c3 (fun z => by rw [rv_b0.mp c4] at z; cases z)
    rw [if_neg hno, if_neg hno]
    refine Exists.intro _ (And.intro h.ob ?_)
    refine h.s8 ex hi10 (fun σ h => ?_)
    refine Exists.intro _ (And.intro h.ob ?_)
    refine h.l7 ex hi10 ?_
    refine And.intro (Exists.intro _ h.ob) ?_
    refine ⟨_, _, _, rt_moves (s := s.u_sProm (upd s.sProm i t)) (vo := s.sOp i) eo ho es hs en hn er hr hok h, Nat.zero_le _, Nat.zero_le _, rfl, ?_⟩
    rintro _ σ ⟨rfl, h⟩
    exact And.intro trivial ⟨rfl, h⟩
  · have hyes : t < s.sProm i ∨ s.sEnd i = true := Or.inr (rv_bn c4)
    rw [if_pos hyes, if_pos hyes]
    exact And.intro trivial ⟨rfl, h⟩
set_option maxRecDepth 100000 in
theorem rt_end_bad {G : rv_G} {σ0 σ : rv_S} {y n : Nat} {s : Md} {x : Int32} (es : s.nsr = nI n) (hs : n ≤ 10) (ho : ¬ ∃ j, j < n ∧ x = nI j) (h : MI σ0 σ y (md y s)) : rv_Ct G i_Model_end 0 0 [.ref y, .int x] σ (fun q σ' => q = some (.int (-1)) ∧ σ' = σ) := by
  refine rv_ct (M := m_Model_end) rfl (by decide) rfl rfl ?_
  refine rv_V.run rv_gd_Model_end [] 400 ?_
  refine And.intro (Exists.intro _ h.ob) ?_
  refine ⟨_, _, _, rt_isSource x h, Nat.zero_le _, Nat.zero_le _, rfl, ?_⟩
  rintro _ σ ⟨rfl, rfl⟩
  refine And.intro (fun c1 => ?_) (fun c1 => ?_)
  · exact And.intro trivial ⟨rfl, rfl⟩
  have h1 := rv_bn c1
  rw [es] at h1
  exact absurd ((in_nI (by omega)).mp h1) ho
set_option maxRecDepth 100000 in
theorem rt_end {G : rv_G} {σ0 σ : rv_S} {y ns n r i o : Nat} {s : Md} {x : Int32} (es : s.nsr = nI ns) (hs : ns ≤ 10) (hi : i < ns) (ex : x = nI i) (eo : s.sOp i = nI o) (ho : o < 5) (en : s.nwin = nI n) (hn : n ≤ 120) (er : s.nres = nI r) (hr : r ≤ 400) (h : MI σ0 σ y (md y s)) (hok : td_ok o n 120 ((s.u_sEnd (va_up s.sEnd i true)).u_oMark (upd s.oMark o (ml_run (s.u_sEnd (va_up s.sEnd i true)) o ns 0 1000000000)), r)) :
    rv_Ct G i_Model_end 0 0 [.ref y, .int x] σ (fun q σ' => q = some (.int (if s.sEnd i = true then -2 else pm_ans (s.u_sEnd (va_up s.sEnd i true)) o n ns r)) ∧ MI σ0 σ' y (md y (if s.sEnd i = true then s else pm_st (s.u_sEnd (va_up s.sEnd i true)) o n ns r))) := by
  have hi10 : i < 10 := by omega
  refine rv_ct (M := m_Model_end) rfl (by decide) rfl rfl ?_
  refine rv_V.run rv_gd_Model_end [] 400 ?_
  refine And.intro (Exists.intro _ h.ob) ?_
  refine ⟨_, _, _, rt_isSource x h, Nat.zero_le _, Nat.zero_le _, rfl, ?_⟩
  rintro _ σ ⟨rfl, rfl⟩
  refine And.intro (fun c1 => ?_) (fun c1 => ?_)
  · have := rv_b0.mp c1
    rw [es, (in_nI (by omega)).mpr ⟨i, hi, ex⟩] at this
    cases this
  refine Exists.intro _ (And.intro h.ob ?_)
  refine h.l9 ex hi10 ?_
  refine And.intro (fun c4 => ?_) (fun c4 => ?_)
  · have hno : ¬ s.sEnd i = true := fun z => by rw [rv_b0.mp c4] at z; cases z
    rw [if_neg hno, if_neg hno]
    refine Exists.intro _ (And.intro h.ob ?_)
    refine h.s9 ex hi10 true rfl (fun σ h => ?_)
    refine Exists.intro _ (And.intro h.ob ?_)
    refine h.l7 ex hi10 ?_
    refine And.intro (Exists.intro _ h.ob) ?_
    refine ⟨_, _, _, rt_moves (s := s.u_sEnd (va_up s.sEnd i true)) (vo := s.sOp i) eo ho es hs en hn er hr hok h, Nat.zero_le _, Nat.zero_le _, rfl, ?_⟩
    rintro _ σ ⟨rfl, h⟩
    exact And.intro trivial ⟨rfl, h⟩
  · have hyes : s.sEnd i = true := rv_bn c4
    rw [if_pos hyes, if_pos hyes]
    exact And.intro trivial ⟨rfl, h⟩
end
section
/-! THE REFERENCE: a row, judged and counted over the begins of its time -/
def gc_st (s : Md) (o n : Nat) (vo k b : Int32) (a : Bool × Bool × Int32) : Bool × Bool × Int32 := if b + s.oSize o + s.oLt o ≤ s.oMark o then a else (false, (a.2.1 || decide (b + s.oSize o ≤ s.oMark o)), a.2.2 + (if fd_run s vo k b n 0 = none then 1 else 0))
def gc_run (s : Md) (o n : Nat) (vo k : Int32) (B : Nat → Int32) : Nat → Nat → Bool × Bool × Int32 → Bool × Bool × Int32
  | 0, _, a => a
  | f + 1, i, a => gc_run s o n vo k B f (i + 1) (gc_st s o n vo k (B i) a)
set_option maxRecDepth 100000 in
theorem lp_gc {G : rv_G} {σ0 σ : rv_S} {y o n K t : Nat} {s : Md} {vo xs k time v : Int32} {Rt : Option Value → rv_S → Prop} (eo : vo = nI o) (ho : o < 5) (en : s.nwin = nI n) (hn : n ≤ 120) (h0 : ¬ bg_st s o = 0) (hok : bg_ok (bg_st s o) (s.oSize o) time t (dn time (bg_st s o) * bg_st s o)) (hK : bg_of (bg_st s o) (s.oSize o) time t (nI K) = -99999999) (hK2 : ∀ i, i < K → ¬ bg_of (bg_st s o) (s.oSize o) time t (nI i) = -99999999) (h : MI σ0 σ y (md y s)) : ∀ (f i : Nat) (vk : Int32) (a : Bool × Bool × Int32) (x10 x11 : Option Value), vk = nI i → i + f = K → (∀ (a' : Bool × Bool × Int32) (vk : Int32) (x10 x11 : Option Value), a' = gc_run s o n vo k (fun i => bg_of (bg_st s o) (s.oSize o) time t (nI i)) f i a → rv_V G m_Model_row 0 0 Rt 272 [some (.ref y), some (.int xs), some (.int k), some (.int time), some (.int v), some (.int vo), some (.int (rv_b a'.1)), some (.int (rv_b a'.2.1)), some (.int a'.2.2), some (.int vk), x10, x11] [] σ 0 0) →
    rv_V G m_Model_row 0 0 Rt 160 [some (.ref y), some (.int xs), some (.int k), some (.int time), some (.int v), some (.int vo), some (.int (rv_b a.1)), some (.int (rv_b a.2.1)), some (.int a.2.2), some (.int vk), x10, x11] [] σ 0 0 := by
  intro f
  induction f with
  | zero =>
    intro i vk a x10 x11 ei h1 fin
    refine rv_V.run rv_gd_Model_row [160, 272] 400 ?_
    refine And.intro (Exists.intro _ h.ob) ?_
    refine ⟨_, _, _, rt_beginOf time vk t eo ho h h0 hok, Nat.zero_le _, Nat.zero_le _, rfl, ?_⟩
    rintro _ σ ⟨rfl, rfl⟩
    refine And.intro (fun c1 => ?_) (fun c1 => ?_)
    · exact fin a vk x10 x11 rfl
    · exact absurd (by rw [ei, show i = K by omega]; exact hK) c1
  | succ f ih =>
    intro i vk a x10 x11 ei h1 fin
    have at266 : ∀ (a' : Bool × Bool × Int32) (x10 x11 : Option Value), a' = gc_st s o n vo k (bg_of (bg_st s o) (s.oSize o) time t (nI i)) a → rv_V G m_Model_row 0 0 Rt 266 [some (.ref y), some (.int xs), some (.int k), some (.int time), some (.int v), some (.int vo), some (.int (rv_b a'.1)), some (.int (rv_b a'.2.1)), some (.int a'.2.2), some (.int vk), x10, x11] [] σ 0 0 := by
      intro a' x10 x11 ea
      refine rv_V.run rv_gd_Model_row [160] 400 ?_
      refine ih (i + 1) (vk + 1) a' x10 x11 (by rw [ei]; exact nI_1 i) (by omega) ?_
      intro a2 vk2 x10 x11 e2
      exact fin a2 vk2 x10 x11 (by rw [e2, ea]; rfl)
    refine rv_V.run rv_gd_Model_row [160, 242, 266, 272] 400 ?_
    refine And.intro (Exists.intro _ h.ob) ?_
    refine ⟨_, _, _, rt_beginOf time vk t eo ho h h0 hok, Nat.zero_le _, Nat.zero_le _, rfl, ?_⟩
    rintro _ σ ⟨rfl, rfl⟩
    refine And.intro (fun c1 => ?_) (fun c1 => ?_)
    · exact absurd (show bg_of (bg_st s o) (s.oSize o) time t (nI i) = -99999999 by rw [← ei]; exact c1) (hK2 i (by omega))
    refine And.intro (Exists.intro _ h.ob) ?_
    refine ⟨_, _, _, rt_beginOf time vk t eo ho h h0 hok, Nat.zero_le _, Nat.zero_le _, rfl, ?_⟩
    rintro _ σ ⟨rfl, rfl⟩
    rw [ei]
    refine Exists.intro _ (And.intro h.ob ?_)
    refine h.l2 eo ho ?_
    refine And.intro (Exists.intro _ h.ob) ?_
    refine ⟨_, _, _, rt_isClosed h eo ho _, Nat.zero_le _, Nat.zero_le _, rfl, ?_⟩
    rintro _ σ ⟨rfl, rfl⟩
    rw [ei] at at266
    refine And.intro (fun c2 => ?_) (fun c2 => ?_)
    · have hcl := of_decide_eq_false (rv_b0.mp c2)
      have key : ∀ (ba : Bool) (mo : Int32) (x11 : Option Value), ba = (a.2.1 || decide (bg_of (bg_st s o) (s.oSize o) time t (nI i) + s.oSize o ≤ s.oMark o)) → mo = a.2.2 + (if fd_run s vo k (bg_of (bg_st s o) (s.oSize o) time t (nI i)) n 0 = none then 1 else 0) → rv_V G m_Model_row 0 0 Rt 266 [some (.ref y), some (.int xs), some (.int k), some (.int time), some (.int v), some (.int vo), some (.int (rv_b false)), some (.int (rv_b ba)), some (.int mo), some (.int (nI i)), some (.int (bg_of (bg_st s o) (s.oSize o) time t (nI i))), x11] [] σ 0 0 := by
        intro ba mo x11 e1 e2
        subst e1
        subst e2
        exact at266 (false, (a.2.1 || decide (bg_of (bg_st s o) (s.oSize o) time t (nI i) + s.oSize o ≤ s.oMark o)), a.2.2 + (if fd_run s vo k (bg_of (bg_st s o) (s.oSize o) time t (nI i)) n 0 = none then 1 else 0)) _ _ (by unfold gc_st; rw [if_neg hcl])
      have at242 : ∀ (ba : Bool), ba = (a.2.1 || decide (bg_of (bg_st s o) (s.oSize o) time t (nI i) + s.oSize o ≤ s.oMark o)) → rv_V G m_Model_row 0 0 Rt 242 [some (.ref y), some (.int xs), some (.int k), some (.int time), some (.int v), some (.int vo), some (.int (rv_b false)), some (.int (rv_b ba)), some (.int a.2.2), some (.int (nI i)), some (.int (bg_of (bg_st s o) (s.oSize o) time t (nI i))), x11] [] σ 0 0 := by
        intro ba e1
        refine rv_V.run rv_gd_Model_row [266] 400 ?_
        refine And.intro (Exists.intro _ h.ob) ?_
        refine ⟨_, _, _, rt_found vo k _ en hn h, Nat.zero_le _, Nat.zero_le _, rfl, ?_⟩
        rintro _ σ ⟨rfl, rfl⟩
        have hfl : ∀ j, fd_run s vo k (bg_of (bg_st s o) (s.oSize o) time t (nI i)) n 0 = some j → j < 120 := fun j hj => by
          have := (fd_lt s vo k _ n 0 j hj).1
          omega
        refine And.intro (fun c3 => ?_) (fun c3 => ?_)
        · exact key ba _ _ e1 (by rw [if_pos ((oi_none hfl).mp c3)])
        · exact key ba _ _ e1 (by rw [if_neg (fun z => c3 ((oi_none hfl).mpr z))])
      refine And.intro (fun c3 => ?_) (fun c3 => ?_)
      · refine Exists.intro _ (And.intro h.ob ?_)
        refine h.l2 eo ho ?_
        refine Exists.intro _ (And.intro h.ob ?_)
        refine h.l6 eo ho ?_
        refine And.intro (fun c4 => ?_) (fun c4 => ?_)
        · exact at242 false (by rw [rv_b0.mp c3, decide_eq_false (Int32.not_le.mpr c4)]; rfl)
        · exact at242 true (by rw [decide_eq_true (Int32.not_lt.mp c4)]; simp)
      · exact at242 true (by rw [rv_bn c3]; rfl)
    · exact at266 a _ _ (by unfold gc_st; rw [if_pos (of_decide_eq_true (rv_bn c2))])
end
section
/-! THE REFERENCE: a row comes into the windows of its time -/
theorem put_O (s : Md) (r w : Nat) (sg : Int32) (t : Tl) : (md_put s r w sg t).2.1 = s.2.1 := by
  obtain ⟨a, b, c, d, e, f⟩ := s
  rfl
theorem un_O (s : Md) (e : Nat → Int64) (v : Int32) : ((s.u_eRow e).u_nres v).2.1 = s.2.1 := by
  obtain ⟨a, b, c, d, e, f⟩ := s
  rfl
theorem res_O (s : Md) (r w : Nat) (sg : Int32) (t : Tl) : (md_res s r w sg t).2.1 = s.2.1 := by
  unfold md_res
  split
  · exact (put_O _ _ _ _ _).trans (un_O _ _ _)
  · exact put_O _ _ _ _ _
theorem told_O (s : Md) (w : Nat) : (md_told s w).2.1 = s.2.1 := by
  obtain ⟨a, b, c, d, e, f⟩ := s
  rfl
theorem back_O (s : Md) (r w : Nat) : (md_back s r w).2.1 = s.2.1 := res_O _ _ _ _ _
theorem tell_O (s : Md) (r w : Nat) : (md_tell s r w).2.1 = s.2.1 := (told_O _ _).trans (res_O _ _ _ _ _)
theorem made_O (s : Md) (n : Nat) (vo k b e : Int32) : (md_made s n vo k b e).2.1 = s.2.1 := by
  obtain ⟨a, b, c, d, e, f⟩ := s
  rfl
theorem into_O (s : Md) (w : Nat) (v : Int32) : (md_into s w v).2.1 = s.2.1 := by
  obtain ⟨a, b, c, d, e, f⟩ := s
  rfl
theorem foll_O (s : Md) (r w o : Nat) : (md_foll s r w o).2.1 = s.2.1 := by
  unfold md_foll
  split
  · split
    · rfl
    · exact (tell_O _ _ _).trans (back_O _ _ _)
  · split
    · exact tell_O _ _ _
    · rfl
theorem foll_nwin (s : Md) (r w o : Nat) : (md_foll s r w o).nwin = s.nwin := by
  unfold md_foll
  split
  · split
    · rfl
    · exact (tell_nwin _ _ _).trans (back_nwin _ _ _)
  · split
    · exact tell_nwin _ _ _
    · rfl
def fl_r (s : Md) (r w o : Nat) : Nat := if s.wTold w = true then (if s.oRule o = 1 then r else rq (rq r)) else (if s.wEnd w ≤ s.oMark o then rq r else r)
theorem foll_nres {s : Md} {r : Nat} (w o : Nat) (er : s.nres = nI r) (hr : r ≤ 400) : (md_foll s r w o).nres = nI (fl_r s r w o) ∧ fl_r s r w o ≤ 400 := by
  unfold md_foll fl_r
  split
  · split
    · exact ⟨er, hr⟩
    · exact ⟨tell_nres w (back_nres w er), rq_le (rq_le hr)⟩
  · split
    · exact ⟨tell_nres w er, rq_le hr⟩
    · exact ⟨er, hr⟩
theorem made_facts (s : Md) (n : Nat) (vo k b e : Int32) : (md_made s n vo k b e).wOp n = vo ∧ (md_made s n vo k b e).nres = s.nres ∧ (md_made s n vo k b e).nwin = s.nwin + 1 := by
  obtain ⟨a, b1, c, d, e1, f⟩ := s
  refine ⟨?_, rfl, rfl⟩
  show upd _ n vo n = vo
  exact if_pos rfl
/-- found or made: the state, how many windows, which it is -/
def gu_fo (s : Md) (o n : Nat) (vo k b : Int32) : Md × Nat × Nat := match fd_run s vo k b n 0 with
  | none => (md_made s n vo k b (b + s.oSize o), n + 1, n)
  | some w => (s, n, w)
def gu_st (o : Nat) (vo k v b : Int32) (p : Md × Nat × Nat) : Md × Nat × Nat := if b + p.1.oSize o + p.1.oLt o ≤ p.1.oMark o then p else (md_foll (md_into (gu_fo p.1 o p.2.2 vo k b).1 (gu_fo p.1 o p.2.2 vo k b).2.2 v) p.2.1 (gu_fo p.1 o p.2.2 vo k b).2.2 o, fl_r (md_into (gu_fo p.1 o p.2.2 vo k b).1 (gu_fo p.1 o p.2.2 vo k b).2.2 v) p.2.1 (gu_fo p.1 o p.2.2 vo k b).2.2 o, (gu_fo p.1 o p.2.2 vo k b).2.1)
def gu_run (o : Nat) (vo k v : Int32) (B : Nat → Int32) : Nat → Nat → Md × Nat × Nat → Md × Nat × Nat
  | 0, _, p => p
  | f + 1, i, p => gu_run o vo k v B f (i + 1) (gu_st o vo k v (B i) p)
/-- there is room for what is made -/
def gu_ok (o : Nat) (vo k v : Int32) (B : Nat → Int32) : Nat → Nat → Md × Nat × Nat → Prop
  | 0, _, _ => True
  | f + 1, i, p => (¬ B i + p.1.oSize o + p.1.oLt o ≤ p.1.oMark o → fd_run p.1 vo k (B i) p.2.2 0 = none → p.2.2 < 120) ∧ gu_ok o vo k v B f (i + 1) (gu_st o vo k v (B i) p)
theorem ops_eq {s s' : Md} (h : s'.2.1 = s.2.1) (o : Nat) : bg_st s' o = bg_st s o ∧ s'.oSize o = s.oSize o := by
  unfold bg_st Md.oKind Md.oSize Md.oStep
  rw [h]
  exact ⟨rfl, rfl⟩
set_option maxRecDepth 100000 in
theorem lp_gu {G : rv_G} {σ0 : rv_S} {y o K t : Nat} {s0 : Md} {vo xs k time v v6 v7 v8 : Int32} (eo : vo = nI o) (ho : o < 5) (h0 : ¬ bg_st s0 o = 0) (hok : bg_ok (bg_st s0 o) (s0.oSize o) time t (dn time (bg_st s0 o) * bg_st s0 o)) (hK : bg_of (bg_st s0 o) (s0.oSize o) time t (nI K) = -99999999) (hK2 : ∀ i, i < K → ¬ bg_of (bg_st s0 o) (s0.oSize o) time t (nI i) = -99999999) : ∀ (f i : Nat) (vk : Int32) (v10 v11 : Option Value) (s : Md) (r n : Nat) (σ : rv_S), vk = nI i → i + f = K → s.2.1 = s0.2.1 → s.nwin = nI n → n ≤ 120 → s.nres = nI r → r ≤ 400 → gu_ok o vo k v (fun i => bg_of (bg_st s0 o) (s0.oSize o) time t (nI i)) f i (s, r, n) → MI σ0 σ y (md y s) →
    rv_V G m_Model_row 0 0 (fun q σ' => q = some (.int 1) ∧ MI σ0 σ' y (md y (gu_run o vo k v (fun i => bg_of (bg_st s0 o) (s0.oSize o) time t (nI i)) f i (s, r, n)).1)) 381 [some (.ref y), some (.int xs), some (.int k), some (.int time), some (.int v), some (.int vo), some (.int v6), some (.int v7), some (.int v8), some (.int vk), v10, v11] [] σ 0 0 := by
  intro f
  induction f with
  | zero =>
    intro i vk v10 v11 s r n σ ei h1 hO en hn er hr hg h
    have hq := ops_eq hO o
    refine rv_V.run rv_gd_Model_row [381] 400 ?_
    refine And.intro (Exists.intro _ h.ob) ?_
    refine ⟨_, _, _, rt_beginOf time vk t eo ho h (by rw [hq.1]; exact h0) (by rw [hq.1, hq.2]; exact hok), Nat.zero_le _, Nat.zero_le _, rfl, ?_⟩
    rintro _ σ ⟨rfl, rfl⟩
    rw [hq.1, hq.2]
    refine And.intro (fun c1 => ?_) (fun c1 => ?_)
    · exact And.intro trivial ⟨rfl, h⟩
    · exact absurd (by rw [ei, show i = K by omega]; exact hK) c1
  | succ f ih =>
    intro i vk v10 v11 s r n σ ei h1 hO en hn er hr hg h
    have hq := ops_eq hO o
    obtain ⟨hg1, hg2⟩ := hg
    have at481 : ∀ (v10 v11 : Option Value) (s1 : Md) (r1 n1 : Nat) (σ : rv_S), gu_st o vo k v (bg_of (bg_st s0 o) (s0.oSize o) time t (nI i)) (s, r, n) = (s1, r1, n1) → s1.2.1 = s0.2.1 → s1.nwin = nI n1 → n1 ≤ 120 → s1.nres = nI r1 → r1 ≤ 400 → MI σ0 σ y (md y s1) → rv_V G m_Model_row 0 0 (fun q σ' => q = some (.int 1) ∧ MI σ0 σ' y (md y (gu_run o vo k v (fun i => bg_of (bg_st s0 o) (s0.oSize o) time t (nI i)) (f + 1) i (s, r, n)).1)) 481 [some (.ref y), some (.int xs), some (.int k), some (.int time), some (.int v), some (.int vo), some (.int v6), some (.int v7), some (.int v8), some (.int vk), v10, v11] [] σ 0 0 := by
      intro v10 v11 s1 r1 n1 σ e1 e2 e3 e4 e5 e6 h
      refine rv_V.run rv_gd_Model_row [381] 400 ?_
      have q := ih (i + 1) (vk + 1) v10 v11 s1 r1 n1 σ (by rw [ei]; exact nI_1 i) (by omega) e2 e3 e4 e5 e6 (by rw [← e1]; exact hg2) h
      rw [← e1] at q
      exact q
    refine rv_V.run rv_gd_Model_row [381, 467, 481] 400 ?_
    refine And.intro (Exists.intro _ h.ob) ?_
    refine ⟨_, _, _, rt_beginOf time vk t eo ho h (by rw [hq.1]; exact h0) (by rw [hq.1, hq.2]; exact hok), Nat.zero_le _, Nat.zero_le _, rfl, ?_⟩
    rintro _ σ ⟨rfl, rfl⟩
    rw [hq.1, hq.2]
    refine And.intro (fun c1 => ?_) (fun c1 => ?_)
    · exact absurd (show bg_of (bg_st s0 o) (s0.oSize o) time t (nI i) = -99999999 by rw [← ei]; exact c1) (hK2 i (by omega))
    refine And.intro (Exists.intro _ h.ob) ?_
    refine ⟨_, _, _, rt_beginOf time vk t eo ho h (by rw [hq.1]; exact h0) (by rw [hq.1, hq.2]; exact hok), Nat.zero_le _, Nat.zero_le _, rfl, ?_⟩
    rintro _ σ ⟨rfl, rfl⟩
    rw [hq.1, hq.2, ei]
    rw [ei] at at481
    dsimp only at hg1
    generalize hB : bg_of (bg_st s0 o) (s0.oSize o) time t (nI i) = b at hg1 at481 ⊢
    refine Exists.intro _ (And.intro h.ob ?_)
    refine h.l2 eo ho ?_
    refine And.intro (Exists.intro _ h.ob) ?_
    refine ⟨_, _, _, rt_isClosed h eo ho _, Nat.zero_le _, Nat.zero_le _, rfl, ?_⟩
    rintro _ σ ⟨rfl, rfl⟩
    refine And.intro (fun c2 => ?_) (fun c2 => ?_)
    · have hcl := of_decide_eq_false (rv_b0.mp c2)
      have at467 : ∀ (s1 : Md) (n1 w : Nat) (vw : Int32) (σ : rv_S), vw = nI w → w < 120 → gu_fo s o n vo k b = (s1, n1, w) → s1.2.1 = s0.2.1 → s1.wOp w = vo → s1.nwin = nI n1 → n1 ≤ 120 → s1.nres = nI r → MI σ0 σ y (md y s1) → rv_V G m_Model_row 0 0 (fun q σ' => q = some (.int 1) ∧ MI σ0 σ' y (md y (gu_run o vo k v (fun i => bg_of (bg_st s0 o) (s0.oSize o) time t (nI i)) (f + 1) i (s, r, n)).1)) 467 [some (.ref y), some (.int xs), some (.int k), some (.int time), some (.int v), some (.int vo), some (.int v6), some (.int v7), some (.int v8), some (.int (nI i)), some (.int b), some (.int vw)] [] σ 0 0 := by
        intro s1 n1 w vw σ ew hw e1 e2 e3 e4 e5 e6 h
        have hf := into_facts s1 w v
        have hn2 := foll_nres (s := md_into s1 w v) w o (hf.2.1.trans e6) hr
        refine rv_V.run rv_gd_Model_row [481] 400 ?_
        refine And.intro (Exists.intro _ h.ob) ?_
        refine ⟨_, _, _, rt_into v ew hw h, Nat.zero_le _, Nat.zero_le _, rfl, ?_⟩
        rintro _ σ ⟨rfl, h⟩
        refine And.intro (Exists.intro _ h.ob) ?_
        refine ⟨_, _, _, rt_follows (s := md_into s1 w v) ew hw (hf.2.1.trans e6) hr (by rw [hf.1, e3, eo]) ho h, Nat.zero_le _, Nat.zero_le _, rfl, ?_⟩
        rintro _ σ ⟨rfl, h⟩
        refine at481 _ _ (md_foll (md_into s1 w v) r w o) (fl_r (md_into s1 w v) r w o) n1 σ ?_ ((foll_O _ _ _ _).trans ((into_O _ _ _).trans e2)) ((foll_nwin _ _ _ _).trans (hf.2.2.trans e4)) e5 hn2.1 hn2.2 h
        unfold gu_st
        rw [if_neg hcl]
        dsimp only
        rw [e1]
      refine And.intro (Exists.intro _ h.ob) ?_
      refine ⟨_, _, _, rt_found vo k b en hn h, Nat.zero_le _, Nat.zero_le _, rfl, ?_⟩
      rintro _ σ ⟨rfl, rfl⟩
      cases hd : fd_run s vo k b n 0 with
      | none =>
        have hn1 : n < 120 := hg1 hcl hd
        refine And.intro (fun c3 => ?_) (fun c3 => absurd rfl c3)
        refine Exists.intro _ (And.intro h.ob ?_)
        refine h.l2 eo ho ?_
        refine And.intro (Exists.intro _ h.ob) ?_
        refine ⟨_, _, _, rt_made vo k b (b + s.oSize o) en hn1 h, Nat.zero_le _, Nat.zero_le _, rfl, ?_⟩
        rintro _ σ ⟨rfl, h⟩
        have hf := made_facts s n vo k b (b + s.oSize o)
        exact at467 (md_made s n vo k b (b + s.oSize o)) (n + 1) n _ σ rfl hn1 (by unfold gu_fo; rw [hd]) ((made_O _ _ _ _ _ _).trans hO) hf.1 (by rw [hf.2.2, en, nI_1]) (by omega) (hf.2.1.trans er) h
      | some w =>
        have hw := fd_lt s vo k b n 0 w hd
        refine And.intro (fun c3 => ?_) (fun c3 => ?_)
        · have := (oi_none (b := some w) (fun j hj => by cases hj; omega)).mp c3
          cases this
        · exact at467 s n w _ σ rfl (by omega) (by unfold gu_fo; rw [hd]) hO hw.2 en hn er h
    · refine at481 _ _ s r n σ ?_ hO en hn er hr h
      unfold gu_st
      rw [if_pos (of_decide_eq_true (rv_bn c2))]
end
section
/-! THE REFERENCE: a row, from its judgement on -/
theorem ap_nrow (s : Md) (a : Nat) (vs k time v why : Int32) : (md_ap s a vs k time v why).nrow = s.nrow := by
  obtain ⟨a1, b, c, d, e, f⟩ := s
  rfl
theorem ud_nrow (s : Md) (e : Nat → Int32) (x v : Int32) : (((s.u_drp x).u_aRow e).u_nas v).nrow = s.nrow := by
  obtain ⟨a, b, c, d, e, f⟩ := s
  rfl
theorem pa_nrow (s : Md) (a b j : Nat) (vs k time v why : Int32) : (pa_run s a b j vs k time v why).2.nrow = s.nrow := by
  unfold pa_run
  split
  · split
    · rfl
    · split
      · rfl
      · exact (ap_nrow _ _ _ _ _ _ _).trans (ud_nrow _ _ _ _)
  · exact ap_nrow _ _ _ _ _ _ _
def ro_why (cl : Bool) : Int32 := if cl = true then 1 else 2
def ra_st (s : Md) (a b j m : Nat) (vs k time v why : Int32) : Md := if (pa_run s a b j vs k time v why).1 = true then md_came (pa_run s a b j vs k time v why).2 m j vs k time v false else (pa_run s a b j vs k time v why).2
set_option maxRecDepth 100000 in
theorem lp_rA {G : rv_G} {σ0 σ : rv_S} {y o a b j m : Nat} {s : Md} {vs k time v vo mo v9 : Int32} {cl ba : Bool} {x10 x11 : Option Value} (eo : vo = nI o) (ho : o < 5) (hc : cl = true ∨ (ba = true ∧ s.oRule o = 2)) (ej : vs = nI j) (hj : j < 10) (em : s.nrow = nI m) (hm : m < 300) (e : s.nas = nI a) (ha : a ≤ 100) (eb : s.bnd = nI b) (hb : b ≤ 100) (h : MI σ0 σ y (md y s)) :
    rv_V G m_Model_row 0 0 (fun q σ' => q = some (.int (if (pa_run s a b j vs k time v (ro_why cl)).1 = true then 0 else -2)) ∧ MI σ0 σ' y (md y (ra_st s a b j m vs k time v (ro_why cl)))) 272 [some (.ref y), some (.int vs), some (.int k), some (.int time), some (.int v), some (.int vo), some (.int (rv_b cl)), some (.int (rv_b ba)), some (.int mo), some (.int v9), x10, x11] [] σ 0 0 := by
  have at309 : ∀ why : Int32, why = ro_why cl → rv_V G m_Model_row 0 0 (fun q σ' => q = some (.int (if (pa_run s a b j vs k time v (ro_why cl)).1 = true then 0 else -2)) ∧ MI σ0 σ' y (md y (ra_st s a b j m vs k time v (ro_why cl)))) 309 [some (.ref y), some (.int vs), some (.int k), some (.int time), some (.int v), some (.int vo), some (.int (rv_b cl)), some (.int (rv_b ba)), some (.int mo), some (.int v9), x10, x11] [.int why, .int v, .int time, .int k, .int vs, .ref y] σ 0 0 := by
    intro why ew
    subst ew
    refine rv_V.run rv_gd_Model_row [] 400 ?_
    refine And.intro (Exists.intro _ h.ob) ?_
    refine ⟨_, _, _, rt_putAside k time v (ro_why cl) ej hj e ha eb hb h, Nat.zero_le _, Nat.zero_le _, rfl, ?_⟩
    rintro _ σ ⟨rfl, h⟩
    have hnr := pa_nrow s a b j vs k time v (ro_why cl)
    unfold ra_st
    generalize pa_run s a b j vs k time v (ro_why cl) = pr at h hnr ⊢
    refine And.intro (fun c1 => ?_) (fun c1 => ?_)
    · have hf : ¬ pr.1 = true := by rw [rv_b0.mp c1]; decide
      rw [if_neg hf, if_neg hf]
      exact And.intro trivial ⟨rfl, h⟩
    · have hf := rv_bn c1
      rw [if_pos hf, if_pos hf]
      refine And.intro (Exists.intro _ h.ob) ?_
      refine ⟨_, _, _, rt_came k time v false ej hj (hnr.trans em) hm h, Nat.zero_le _, Nat.zero_le _, rfl, ?_⟩
      rintro _ σ ⟨rfl, h⟩
      exact And.intro trivial ⟨rfl, h⟩
  have at293 : rv_V G m_Model_row 0 0 (fun q σ' => q = some (.int (if (pa_run s a b j vs k time v (ro_why cl)).1 = true then 0 else -2)) ∧ MI σ0 σ' y (md y (ra_st s a b j m vs k time v (ro_why cl)))) 293 [some (.ref y), some (.int vs), some (.int k), some (.int time), some (.int v), some (.int vo), some (.int (rv_b cl)), some (.int (rv_b ba)), some (.int mo), some (.int v9), x10, x11] [] σ 0 0 := by
    refine rv_V.run rv_gd_Model_row [309] 400 ?_
    refine And.intro (fun c1 => ?_) (fun c1 => ?_)
    · exact at309 2 (by unfold ro_why; rw [rv_b0.mp c1]; rfl)
    · exact at309 1 (by unfold ro_why; rw [rv_bn c1]; rfl)
  refine rv_V.run rv_gd_Model_row [293] 400 ?_
  refine And.intro (fun c1 => ?_) (fun c1 => ?_)
  · have hcl : ¬ cl = true := by rw [rv_b0.mp c1]; decide
    obtain ⟨hba, hru⟩ := hc.resolve_left hcl
    refine And.intro (fun c2 => ?_) (fun c2 => ?_)
    · rw [hba] at c2
      exact absurd c2 (by decide)
    refine Exists.intro _ (And.intro h.ob ?_)
    refine h.l5 eo ho ?_
    refine And.intro (fun c3 => ?_) (fun c3 => absurd hru c3)
    exact at293
  · exact at293
/-- judged in time: on to the counting of windows -/
theorem lp_r330 {G : rv_G} {σ0 σ : rv_S} {y o : Nat} {s : Md} {vs k time v vo mo v9 : Int32} {cl ba : Bool} {x10 x11 : Option Value} {Rt : Option Value → rv_S → Prop} (eo : vo = nI o) (ho : o < 5) (hc : ¬ (cl = true ∨ (ba = true ∧ s.oRule o = 2))) (h : MI σ0 σ y (md y s)) (next : rv_V G m_Model_row 0 0 Rt 330 [some (.ref y), some (.int vs), some (.int k), some (.int time), some (.int v), some (.int vo), some (.int (rv_b cl)), some (.int (rv_b ba)), some (.int mo), some (.int v9), x10, x11] [] σ 0 0) :
    rv_V G m_Model_row 0 0 Rt 272 [some (.ref y), some (.int vs), some (.int k), some (.int time), some (.int v), some (.int vo), some (.int (rv_b cl)), some (.int (rv_b ba)), some (.int mo), some (.int v9), x10, x11] [] σ 0 0 := by
  refine rv_V.run rv_gd_Model_row [293, 330] 400 ?_
  refine And.intro (fun c1 => ?_) (fun c1 => absurd (Or.inl (rv_bn c1)) hc)
  refine And.intro (fun c2 => next) (fun c2 => ?_)
  refine Exists.intro _ (And.intro h.ob ?_)
  refine h.l5 eo ho ?_
  exact And.intro (fun c3 => absurd (Or.inr ⟨rv_bn c2, c3⟩) hc) (fun c3 => next)
set_option maxRecDepth 100000 in
theorem lp_rB {G : rv_G} {σ0 σ : rv_S} {y : Nat} {s : Md} {vs k time v vo mo v6 v7 v9 : Int32} {x10 x11 : Option Value} (hfull : 120 < s.nwin + mo) (h : MI σ0 σ y (md y s)) :
    rv_V G m_Model_row 0 0 (fun q σ' => q = some (.int (-3)) ∧ MI σ0 σ' y (md y s)) 330 [some (.ref y), some (.int vs), some (.int k), some (.int time), some (.int v), some (.int vo), some (.int v6), some (.int v7), some (.int mo), some (.int v9), x10, x11] [] σ 0 0 := by
  refine rv_V.run rv_gd_Model_row [] 400 ?_
  refine Exists.intro _ (And.intro h.ob ?_)
  refine And.intro (fun c1 => absurd hfull (Int32.not_lt.mpr c1)) (fun c1 => ?_)
  exact And.intro trivial ⟨rfl, h⟩
end
section
/-! THE REFERENCE: a row is used -/
theorem cm1_same (s : Md) (m : Nat) (vs k time v : Int32) (u : Bool) : (md_cm1 s m vs k time v u).2.1 = s.2.1 ∧ (md_cm1 s m vs k time v u).nwin = s.nwin ∧ (md_cm1 s m vs k time v u).nres = s.nres := by
  obtain ⟨a, b, c, d, e, f⟩ := s
  exact ⟨rfl, rfl, rfl⟩
theorem cm2_same (s : Md) (j : Nat) (u : Bool) : (md_cm2 s j u).2.1 = s.2.1 ∧ (md_cm2 s j u).nwin = s.nwin ∧ (md_cm2 s j u).nres = s.nres := by
  unfold md_cm2
  obtain ⟨a, b, c, d, e, f⟩ := s
  split <;> exact ⟨rfl, rfl, rfl⟩
theorem cm3_same (s : Md) (j : Nat) (time : Int32) : (md_cm3 s j time).2.1 = s.2.1 ∧ (md_cm3 s j time).nwin = s.nwin ∧ (md_cm3 s j time).nres = s.nres := by
  unfold md_cm3 md_cm4
  obtain ⟨a, b, c, d, e, f⟩ := s
  split
  · split <;> exact ⟨rfl, rfl, rfl⟩
  · exact ⟨rfl, rfl, rfl⟩
theorem came_same (s : Md) (m j : Nat) (vs k time v : Int32) (u : Bool) : (md_came s m j vs k time v u).2.1 = s.2.1 ∧ (md_came s m j vs k time v u).nwin = s.nwin ∧ (md_came s m j vs k time v u).nres = s.nres := by
  unfold md_came
  have h1 := cm1_same s m vs k time v u
  have h2 := cm2_same (md_cm1 s m vs k time v u) j u
  have h3 := cm3_same (md_cm2 (md_cm1 s m vs k time v u) j u) j time
  exact ⟨h3.1.trans (h2.1.trans h1.1), h3.2.1.trans (h2.2.1.trans h1.2.1), h3.2.2.trans (h2.2.2.trans h1.2.2)⟩
set_option maxRecDepth 100000 in
theorem lp_rC2 {G : rv_G} {σ0 σ : rv_S} {y o n r j m : Nat} {s : Md} {vs k time v vo mo v6 v7 v9 : Int32} {x10 x11 : Option Value} (hroom : ¬ 120 < s.nwin + mo) (eo : vo = nI o) (ho : o < 5) (hk : s.oKind o = 2) (ej : vs = nI j) (hj : j < 10) (em : s.nrow = nI m) (hm : m < 300) (en : s.nwin = nI n) (hn : n ≤ 120) (er : s.nres = nI r) (hr : r ≤ 400) (hg : (gp_run vo k (md_came s m j vs k time v true).fB (md_came s m j vs k time v true).fE n (md_came s m j vs k time v true) r (1, v.toInt64, v, v)).2.2.1 < 120) (h : MI σ0 σ y (md y s)) :
    rv_V G m_Model_row 0 0 (fun q σ' => q = some (.int 1) ∧ MI σ0 σ' y (md y (gap_all (md_came s m j vs k time v true) n r o vo k v))) 330 [some (.ref y), some (.int vs), some (.int k), some (.int time), some (.int v), some (.int vo), some (.int v6), some (.int v7), some (.int mo), some (.int v9), x10, x11] [] σ 0 0 := by
  have hs := came_same s m j vs k time v true
  have hk' : (md_came s m j vs k time v true).oKind o = 2 := by unfold Md.oKind at hk ⊢; rw [hs.1]; exact hk
  refine rv_V.run rv_gd_Model_row [] 400 ?_
  refine Exists.intro _ (And.intro h.ob ?_)
  refine And.intro (fun c1 => ?_) (fun c1 => absurd (Int32.not_le.mp c1) hroom)
  refine And.intro (Exists.intro _ h.ob) ?_
  refine ⟨_, _, _, rt_came k time v true ej hj em hm h, Nat.zero_le _, Nat.zero_le _, rfl, ?_⟩
  rintro _ σ ⟨rfl, h⟩
  generalize md_came s m j vs k time v true = s1 at h hs hk' hg ⊢
  refine Exists.intro _ (And.intro h.ob ?_)
  refine h.l1 eo ho ?_
  refine And.intro (fun c2 => ?_) (fun c2 => absurd hk' c2)
  refine And.intro (Exists.intro _ h.ob) ?_
  refine ⟨_, _, _, rt_gap k time v eo ho (hs.2.1.trans en) hn hg (hs.2.2.trans er) hr h, Nat.zero_le _, Nat.zero_le _, rfl, ?_⟩
  rintro _ σ ⟨rfl, h⟩
  exact And.intro trivial ⟨rfl, h⟩
set_option maxRecDepth 100000 in
theorem lp_rC1 {G : rv_G} {σ0 σ : rv_S} {y o n r j m K t : Nat} {s : Md} {vs k time v vo mo v6 v7 v9 : Int32} {x10 x11 : Option Value} (hroom : ¬ 120 < s.nwin + mo) (eo : vo = nI o) (ho : o < 5) (hk : ¬ s.oKind o = 2) (ej : vs = nI j) (hj : j < 10) (em : s.nrow = nI m) (hm : m < 300) (en : s.nwin = nI n) (hn : n ≤ 120) (er : s.nres = nI r) (hr : r ≤ 400) (h0 : ¬ bg_st s o = 0) (hok : bg_ok (bg_st s o) (s.oSize o) time t (dn time (bg_st s o) * bg_st s o)) (hK : bg_of (bg_st s o) (s.oSize o) time t (nI K) = -99999999) (hK2 : ∀ i, i < K → ¬ bg_of (bg_st s o) (s.oSize o) time t (nI i) = -99999999) (hg : gu_ok o vo k v (fun i => bg_of (bg_st s o) (s.oSize o) time t (nI i)) K 0 (md_came s m j vs k time v true, r, n)) (h : MI σ0 σ y (md y s)) :
    rv_V G m_Model_row 0 0 (fun q σ' => q = some (.int 1) ∧ MI σ0 σ' y (md y (gu_run o vo k v (fun i => bg_of (bg_st s o) (s.oSize o) time t (nI i)) K 0 (md_came s m j vs k time v true, r, n)).1)) 330 [some (.ref y), some (.int vs), some (.int k), some (.int time), some (.int v), some (.int vo), some (.int v6), some (.int v7), some (.int mo), some (.int v9), x10, x11] [] σ 0 0 := by
  have hs := came_same s m j vs k time v true
  have hk' : ¬ (md_came s m j vs k time v true).oKind o = 2 := by unfold Md.oKind at hk ⊢; rw [hs.1]; exact hk
  refine rv_V.run rv_gd_Model_row [381] 400 ?_
  refine Exists.intro _ (And.intro h.ob ?_)
  refine And.intro (fun c1 => ?_) (fun c1 => absurd (Int32.not_le.mp c1) hroom)
  refine And.intro (Exists.intro _ h.ob) ?_
  refine ⟨_, _, _, rt_came k time v true ej hj em hm h, Nat.zero_le _, Nat.zero_le _, rfl, ?_⟩
  rintro _ σ ⟨rfl, h⟩
  generalize md_came s m j vs k time v true = s1 at h hs hk' hg ⊢
  refine Exists.intro _ (And.intro h.ob ?_)
  refine h.l1 eo ho ?_
  refine And.intro (fun c2 => absurd c2 hk') (fun c2 => ?_)
  exact lp_gu eo ho h0 hok hK hK2 K 0 _ _ _ s1 r n σ rfl (by omega) hs.1 (hs.2.1.trans en) hn (hs.2.2.trans er) hr hg h
end
section
/-! THE REFERENCE: a row's entry -/
set_option maxRecDepth 100000 in
theorem rt_row_bad {G : rv_G} {σ0 σ : rv_S} {y n : Nat} {s : Md} {x k time v : Int32} (es : s.nsr = nI n) (hs : n ≤ 10) (ho : ¬ ((∃ j, j < n ∧ x = nI j) ∧ rv_in k 0 9 = true ∧ rv_in time 0 100000000 = true)) (h : MI σ0 σ y (md y s)) : rv_Ct G i_Model_row 0 0 [.ref y, .int x, .int k, .int time, .int v] σ (fun q σ' => q = some (.int (-1)) ∧ σ' = σ) := by
  refine rv_ct (M := m_Model_row) rfl (by decide) rfl rfl ?_
  refine rv_V.run rv_gd_Model_row [30] 400 ?_
  refine And.intro (Exists.intro _ h.ob) ?_
  refine ⟨_, _, _, rt_isSource x h, Nat.zero_le _, Nat.zero_le _, rfl, ?_⟩
  rintro _ σ ⟨rfl, rfl⟩
  refine And.intro (fun c1 => And.intro trivial ⟨rfl, rfl⟩) (fun c1 => ?_)
  have h1 := rv_bn c1
  rw [es] at h1
  refine ⟨_, _, _, rt_in k 0 9, Nat.zero_le _, Nat.zero_le _, rfl, ?_⟩
  rintro _ σ ⟨rfl, rfl⟩
  refine And.intro (fun c2 => And.intro trivial ⟨rfl, rfl⟩) (fun c2 => ?_)
  refine ⟨_, _, _, rt_in time 0 100000000, Nat.zero_le _, Nat.zero_le _, rfl, ?_⟩
  rintro _ σ ⟨rfl, rfl⟩
  refine And.intro (fun c3 => And.intro trivial ⟨rfl, rfl⟩) (fun c3 => ?_)
  exact absurd ⟨(in_nI (by omega)).mp h1, rv_bn c2, rv_bn c3⟩ ho
set_option maxRecDepth 100000 in
theorem rt_row_go {G : rv_G} {σ0 σ : rv_S} {y n j m o : Nat} {s : Md} {x k time v : Int32} {Rt : Option Value → rv_S → Prop} (es : s.nsr = nI n) (hs : n ≤ 10) (hj : j < n) (ex : x = nI j) (hk : rv_in k 0 9 = true) (ht : rv_in time 0 100000000 = true) (em : s.nrow = nI m) (hm : m ≤ 300) (eo : s.sOp j = nI o) (ho : o < 5) (h : MI σ0 σ y (md y s))
    (no : s.sEnd j = true ∨ s.sStop j = true → Rt (some (.int (-2))) σ) (full : ¬ (s.sEnd j = true ∨ s.sStop j = true) → m = 300 → Rt (some (.int (-3))) σ)
    (gaps : ¬ (s.sEnd j = true ∨ s.sStop j = true) → m < 300 → s.oKind o = 2 → rv_V G m_Model_row 0 0 Rt 92 [some (.ref y), some (.int x), some (.int k), some (.int time), some (.int v), some (.int (s.sOp j)), some (.int (rv_b true)), some (.int (rv_b false)), some (.int 0), none, none, none] [] σ 0 0)
    (grid : ¬ (s.sEnd j = true ∨ s.sStop j = true) → m < 300 → ¬ s.oKind o = 2 → rv_V G m_Model_row 0 0 Rt 160 [some (.ref y), some (.int x), some (.int k), some (.int time), some (.int v), some (.int (s.sOp j)), some (.int (rv_b true)), some (.int (rv_b false)), some (.int 0), some (.int 0), none, none] [] σ 0 0) :
    rv_Ct G i_Model_row 0 0 [.ref y, .int x, .int k, .int time, .int v] σ Rt := by
  have hj10 : j < 10 := by omega
  refine rv_ct (M := m_Model_row) rfl (by decide) rfl rfl ?_
  refine rv_V.run rv_gd_Model_row [92, 160] 400 ?_
  refine And.intro (Exists.intro _ h.ob) ?_
  refine ⟨_, _, _, rt_isSource x h, Nat.zero_le _, Nat.zero_le _, rfl, ?_⟩
  rintro _ σ ⟨rfl, rfl⟩
  refine And.intro (fun c1 => ?_) (fun c1 => ?_)
  · have := rv_b0.mp c1
    rw [es, (in_nI (by omega)).mpr ⟨j, hj, ex⟩] at this
    cases this
  refine ⟨_, _, _, rt_in k 0 9, Nat.zero_le _, Nat.zero_le _, rfl, ?_⟩
  rintro _ σ ⟨rfl, rfl⟩
  refine And.intro (fun c2 => ?_) (fun c2 => ?_)
  · have := rv_b0.mp c2
    rw [hk] at this
    cases this
  refine ⟨_, _, _, rt_in time 0 100000000, Nat.zero_le _, Nat.zero_le _, rfl, ?_⟩
  rintro _ σ ⟨rfl, rfl⟩
  refine And.intro (fun c3 => ?_) (fun c3 => ?_)
  · have := rv_b0.mp c3
    rw [ht] at this
    cases this
  refine Exists.intro _ (And.intro h.ob ?_)
  refine h.l9 ex hj10 ?_
  refine And.intro (fun c4 => ?_) (fun c4 => And.intro trivial (no (Or.inl (rv_bn c4))))
  refine Exists.intro _ (And.intro h.ob ?_)
  refine h.l10 ex hj10 ?_
  refine And.intro (fun c5 => ?_) (fun c5 => And.intro trivial (no (Or.inr (rv_bn c5))))
  have hno : ¬ (s.sEnd j = true ∨ s.sStop j = true) := by rw [rv_b0.mp c4, rv_b0.mp c5]; decide
  refine Exists.intro _ (And.intro h.ob ?_)
  refine And.intro (fun c6 => ?_) (fun c6 => ?_)
  · exact And.intro trivial (full hno ((nI_eq (b := 300) (by omega) (by decide)).mp (em.symm.trans c6)))
  have hm3 : m < 300 := by
    rcases Nat.lt_or_ge m 300 with z | z
    · exact z
    · exact absurd (show s.nrow = 300 by rw [em, show m = 300 by omega]; rfl) c6
  refine Exists.intro _ (And.intro h.ob ?_)
  refine h.l7 ex hj10 ?_
  refine Exists.intro _ (And.intro h.ob ?_)
  refine h.l1 eo ho ?_
  exact And.intro (fun c7 => gaps hno hm3 c7) (fun c7 => grid hno hm3 c7)
end
section
/-! THE REFERENCE: a row of GAPS is judged -/
theorem jo_st_same (s : Md) (w : Nat) : (jo_st s w).2.1 = s.2.1 ∧ (jo_st s w).nres = s.nres := by
  unfold jo_st
  obtain ⟨a, b, c, d, e, f⟩ := s
  dsimp only
  split <;> split <;> exact ⟨rfl, rfl⟩
theorem jo_run_same (vo k b e : Int32) : ∀ (t w : Nat) (s : Md), (jo_run vo k b e t w s).2.1 = s.2.1 ∧ (jo_run vo k b e t w s).nres = s.nres ∧ (jo_run vo k b e t w s).nwin = s.nwin
  | 0, _, _ => ⟨rfl, rfl, rfl⟩
  | t + 1, w, s => by
    have h1 := jo_run_same vo k b e t (w + 1) (if mt_is s w vo k b e = true then jo_st s w else s)
    have h2 : (if mt_is s w vo k b e = true then jo_st s w else s).2.1 = s.2.1 ∧ (if mt_is s w vo k b e = true then jo_st s w else s).nres = s.nres ∧ (if mt_is s w vo k b e = true then jo_st s w else s).nwin = s.nwin := by
      split
      · exact ⟨(jo_st_same s w).1, (jo_st_same s w).2, jo_st_nwin s w⟩
      · exact ⟨rfl, rfl, rfl⟩
    exact ⟨h1.1.trans h2.1, h1.2.1.trans h2.2.1, h1.2.2.trans h2.2.2⟩
set_option maxRecDepth 100000 in
theorem lp_row_gaps {G : rv_G} {σ0 σ : rv_S} {y o n : Nat} {s : Md} {vo x k time v : Int32} {Rt : Option Value → rv_S → Prop} (eo : vo = nI o) (ho : o < 5) (en : s.nwin = nI n) (hn : n ≤ 120) (h : MI σ0 σ y (md y s))
    (next : ∀ (s1 : Md) (σ : rv_S), s1 = jo_run vo k time (time + s.oSize o) n 0 (jo_0 s o time) → MI σ0 σ y (md y s1) → rv_V G m_Model_row 0 0 Rt 272 [some (.ref y), some (.int x), some (.int k), some (.int time), some (.int v), some (.int vo), some (.int (rv_b (decide (s1.fE + s1.oLt o ≤ s1.oMark o)))), some (.int (rv_b (decide (s1.fE ≤ s1.oMark o) || s1.jT))), some (.int (if s1.jn = 0 then 1 else 0)), none, none, none] [] σ 0 0) :
    rv_V G m_Model_row 0 0 Rt 92 [some (.ref y), some (.int x), some (.int k), some (.int time), some (.int v), some (.int vo), some (.int (rv_b true)), some (.int (rv_b false)), some (.int 0), none, none, none] [] σ 0 0 := by
  refine rv_V.run rv_gd_Model_row [100] 400 ?_
  refine And.intro (Exists.intro _ h.ob) ?_
  refine ⟨_, _, _, rt_joined k time eo ho en hn h, Nat.zero_le _, Nat.zero_le _, rfl, ?_⟩
  rintro _ σ ⟨rfl, h⟩
  have nx := next _ σ rfl h
  generalize jo_run vo k time (time + s.oSize o) n 0 (jo_0 s o time) = s1 at h nx ⊢
  have at140 : ∀ ba : Bool, ba = (decide (s1.fE ≤ s1.oMark o) || s1.jT) → rv_V G m_Model_row 0 0 Rt 140 [some (.ref y), some (.int x), some (.int k), some (.int time), some (.int v), some (.int vo), some (.int (rv_b (decide (s1.fE + s1.oLt o ≤ s1.oMark o)))), some (.int (rv_b ba)), some (.int 0), none, none, none] [] σ 0 0 := by
    intro ba e1
    rw [← e1] at nx
    refine rv_V.run rv_gd_Model_row [272] 400 ?_
    refine Exists.intro _ (And.intro h.ob ?_)
    refine And.intro (fun c1 => ?_) (fun c1 => ?_)
    · rw [if_pos c1] at nx
      exact nx
    · rw [if_neg c1] at nx
      exact nx
  refine rv_V.run rv_gd_Model_row [140] 400 ?_
  refine Exists.intro _ (And.intro h.ob ?_)
  refine And.intro (Exists.intro _ h.ob) ?_
  refine ⟨_, _, _, rt_isClosed h eo ho _, Nat.zero_le _, Nat.zero_le _, rfl, ?_⟩
  rintro _ σ ⟨rfl, rfl⟩
  refine Exists.intro _ (And.intro h.ob ?_)
  refine Exists.intro _ (And.intro h.ob ?_)
  refine h.l6 eo ho ?_
  refine And.intro (fun c1 => ?_) (fun c1 => ?_)
  · exact at140 true (by rw [decide_eq_true c1]; rfl)
  · refine Exists.intro _ (And.intro h.ob ?_)
    refine And.intro (fun c2 => ?_) (fun c2 => ?_)
    · exact at140 false (by rw [decide_eq_false c1, rv_b0.mp c2]; rfl)
    · exact at140 true (by rw [rv_bn c2]; simp)
end
section
/-! THE REFERENCE: what a pass takes, and shows -/
def tk_is (s : Md) (i j : Nat) (vo : Int32) (all : Bool) : Bool := decide (s.sOp j = vo) && (all || s.rUsed i)
set_option maxRecDepth 100000 in
theorem rt_isTaken {G : rv_G} {σ0 σ : rv_S} {y i j : Nat} {s : Md} {vi : Int32} (vo : Int32) (all : Bool) (ei : vi = nI i) (hi : i < 300) (ej : s.rSrc i = nI j) (hj : j < 10) (h : MI σ0 σ y (md y s)) :
    rv_Ct G i_Model_isTaken 0 0 [.ref y, .int vi, .int vo, .int (rv_b all)] σ (fun q σ' => q = some (.int (rv_b (tk_is s i j vo all))) ∧ σ' = σ) := by
  refine rv_ct (M := m_Model_isTaken) rfl (by decide) rfl rfl ?_
  refine rv_V.run rv_gd_Model_isTaken [] 400 ?_
  refine Exists.intro _ (And.intro h.ob ?_)
  refine Exists.intro _ (And.intro h.ob ?_)
  refine h.l15 ei hi ?_
  refine h.l7 ej hj ?_
  refine And.intro (fun c1 => ?_) (fun c1 => ?_)
  · refine And.intro (fun c2 => ?_) (fun c2 => ?_)
    · refine Exists.intro _ (And.intro h.ob ?_)
      refine h.l19 ei hi ?_
      refine And.intro (fun c3 => ?_) (fun c3 => ?_)
      · refine And.intro (Or.inl rfl) ⟨?_, rfl⟩
        unfold tk_is
        rw [decide_eq_true c1, rv_b0.mp c2, rv_b0.mp c3]; rfl
      · refine And.intro (Or.inr rfl) ⟨?_, rfl⟩
        unfold tk_is
        rw [decide_eq_true c1, rv_b0.mp c2, rv_bn c3]; rfl
    · refine And.intro (Or.inr rfl) ⟨?_, rfl⟩
      unfold tk_is
      rw [decide_eq_true c1, rv_bn c2]; rfl
  · refine And.intro (Or.inl rfl) ⟨?_, rfl⟩
    unfold tk_is
    rw [decide_eq_false c1]; rfl
set_option maxRecDepth 100000 in
theorem rt_passed {G : rv_G} {σ0 σ : rv_S} {y r : Nat} {s : Md} (i j : Int32) (er : s.nps = nI r) (hr : r ≤ 2400) (h : MI σ0 σ y (md y s)) :
    rv_Ct G i_Model_passed 0 0 [.ref y, .int i, .int j] σ (fun q σ' => q = some (.long (if rv_in i 0 (nI r - 1) = true ∧ rv_in j 0 6 = true then s.pRow (7 * i.toNatClampNeg + j.toNatClampNeg) else -99999999)) ∧ σ' = σ) := by
  refine rv_ct (M := m_Model_passed) rfl (by decide) rfl rfl ?_
  refine rv_V.run rv_gd_Model_passed [] 400 ?_
  refine Exists.intro _ (And.intro h.ob ?_)
  refine ⟨_, _, _, rt_in i 0 (s.nps - 1), Nat.zero_le _, Nat.zero_le _, rfl, ?_⟩
  rintro _ σ ⟨rfl, rfl⟩
  rw [er]
  refine And.intro (fun c1 => ?_) (fun c1 => ?_)
  · refine ⟨?_, rfl⟩
    rw [if_neg (fun z => by rw [rv_b0.mp c1] at z; exact absurd z.1 (by decide))]
  refine ⟨_, _, _, rt_in j 0 6, Nat.zero_le _, Nat.zero_le _, rfl, ?_⟩
  rintro _ σ ⟨rfl, rfl⟩
  refine And.intro (fun c2 => ?_) (fun c2 => ?_)
  · refine ⟨?_, rfl⟩
    rw [if_neg (fun z => by rw [rv_b0.mp c2] at z; exact absurd z.2 (by decide))]
  obtain ⟨a, ha, ea⟩ := (in_nI (by omega)).mp (rv_bn c1)
  obtain ⟨b, hb, eb⟩ := (in_nI (n := 7) (by omega)).mp (rv_bn c2)
  refine Exists.intro _ (And.intro h.ob ?_)
  refine h.l36 (w := 7 * a + b) (by rw [ea, eb, show (7 : Int32) = nI 7 from rfl, nI_mul, nI_add]) (by omega) ?_
  refine ⟨?_, rfl⟩
  rw [if_pos ⟨rv_bn c1, rv_bn c2⟩, ea, eb, nI_clamp (by omega), nI_clamp (by omega)]
end
section
/-! THE REFERENCE: a window is shown -/
def wi_cnt (s : Md) (vo k : Int32) (w : Nat) : Nat → Nat → Int32 → Int32
  | 0, _, a => a
  | t + 1, v, a => wi_cnt s vo k w t (v + 1) (a + (if s.wOp v = vo ∧ s.wKey v = k ∧ s.wBeg v < s.wBeg w then 1 else 0))
def wi_run (s : Md) (n : Nat) (vo k i : Int32) : Nat → Nat → Option Nat
  | 0, _ => none
  | t + 1, w => if (s.wOp w = vo ∧ s.wKey w = k) ∧ wi_cnt s vo k w n 0 0 = i then some w else wi_run s n vo k i t (w + 1)
def wi_val (d : Wd) (q : Int32) : Int64 := if q = 0 then d.1.2.2.1.toInt64 else if q = 1 then d.1.2.2.2.toInt64 else if q = 2 then (if d.2.1.1 = true then 1 else 0) else if q = 3 then d.2.2.1.1.toInt64 else if q = 4 then d.2.2.1.2.1 else if q = 5 then d.2.2.1.2.2.1.toInt64 else d.2.2.1.2.2.2.toInt64
def wi_ans (s : Md) (r : Option Nat) (q : Int32) : Int64 := match r with
  | none => -99999999
  | some w => wi_val (mw s w) q
set_option maxRecDepth 100000 in
theorem lp_wcnt {G : rv_G} {σ0 σ : rv_S} {y n w : Nat} {s : Md} {vo k i q vw : Int32} {Rt : Option Value → rv_S → Prop} (en : s.nwin = nI n) (hn : n ≤ 120) (ew : vw = nI w) (hw : w < 120) (h : MI σ0 σ y (md y s)) : ∀ (t v : Nat) (vv a : Int32), vv = nI v → v + t = n → (∀ x7 : Option Value, rv_V G m_Model_window 0 0 Rt 134 [some (.ref y), some (.int vo), some (.int k), some (.int i), some (.int q), some (.int vw), some (.int (wi_cnt s vo k w t v a)), x7] [] σ 0 0) →
    rv_V G m_Model_window 0 0 Rt 70 [some (.ref y), some (.int vo), some (.int k), some (.int i), some (.int q), some (.int vw), some (.int a), some (.int vv)] [] σ 0 0 := by
  intro t
  induction t with
  | zero =>
    intro v vv a ev h1 fin
    refine rv_V.run rv_gd_Model_window [70, 134] 400 ?_
    refine Exists.intro _ (And.intro h.ob ?_)
    refine And.intro (fun c1 => fin _) (fun c1 => ?_)
    exact absurd ((rv_leN en ev (by omega) (by omega)).mpr (by omega)) c1
  | succ t ih =>
    intro v vv a ev h1 fin
    have next : ∀ z : Int32, z = (if s.wOp v = vo ∧ s.wKey v = k ∧ s.wBeg v < s.wBeg w then 1 else 0) → rv_V G m_Model_window 0 0 Rt 125 [some (.ref y), some (.int vo), some (.int k), some (.int i), some (.int q), some (.int vw), some (.int a), some (.int vv)] [.int z, .int a] σ 0 0 := by
      intro z ez
      subst ez
      refine rv_V.run rv_gd_Model_window [70] 400 ?_
      exact ih (v + 1) (vv + 1) _ (by rw [ev]; exact nI_1 v) (by omega) fin
    refine rv_V.run rv_gd_Model_window [70, 125, 134] 400 ?_
    refine Exists.intro _ (And.intro h.ob ?_)
    refine And.intro (fun c1 => ?_) (fun c1 => ?_)
    · exact absurd ((rv_leN en ev (by omega) (by omega)).mp c1) (by omega)
    refine Exists.intro _ (And.intro h.ob ?_)
    refine h.l20 ev (by omega) ?_
    refine And.intro (fun c2 => ?_) (fun c2 => next 0 (by rw [if_neg (fun z => c2 z.1)]))
    refine Exists.intro _ (And.intro h.ob ?_)
    refine h.l21 ev (by omega) ?_
    refine And.intro (fun c3 => ?_) (fun c3 => next 0 (by rw [if_neg (fun z => c3 z.2.1)]))
    refine Exists.intro _ (And.intro h.ob ?_)
    refine h.l22 ev (by omega) ?_
    refine Exists.intro _ (And.intro h.ob ?_)
    refine h.l22 ew hw ?_
    exact And.intro (fun c4 => next 0 (by rw [if_neg (fun z => Int32.not_lt.mpr c4 z.2.2)])) (fun c4 => next 1 (by rw [if_pos ⟨c2, c3, Int32.not_le.mp c4⟩]))
set_option maxRecDepth 100000 in
theorem lp_window {G : rv_G} {σ0 σ : rv_S} {y n : Nat} {s : Md} {vo k i q : Int32} (en : s.nwin = nI n) (hn : n ≤ 120) (h : MI σ0 σ y (md y s)) : ∀ (t w : Nat) (vw : Int32) (x6 x7 : Option Value), vw = nI w → w + t = n →
    rv_V G m_Model_window 0 0 (fun a σ' => a = some (.long (wi_ans s (wi_run s n vo k i t w) q)) ∧ σ' = σ) 30 [some (.ref y), some (.int vo), some (.int k), some (.int i), some (.int q), some (.int vw), x6, x7] [] σ 0 0 := by
  intro t
  induction t with
  | zero =>
    intro w vw x6 x7 ew h1
    refine rv_V.run rv_gd_Model_window [30] 400 ?_
    refine Exists.intro _ (And.intro h.ob ?_)
    refine And.intro (fun c1 => ⟨rfl, rfl⟩) (fun c1 => ?_)
    exact absurd ((rv_leN en ew (by omega) (by omega)).mpr (by omega)) c1
  | succ t ih =>
    intro w vw x6 x7 ew h1
    have hw : w < 120 := by omega
    have next : ∀ x6 x7 : Option Value, ¬ ((s.wOp w = vo ∧ s.wKey w = k) ∧ wi_cnt s vo k w n 0 0 = i) → rv_V G m_Model_window 0 0 (fun a σ' => a = some (.long (wi_ans s (wi_run s n vo k i (t + 1) w) q)) ∧ σ' = σ) 251 [some (.ref y), some (.int vo), some (.int k), some (.int i), some (.int q), some (.int vw), x6, x7] [] σ 0 0 := by
      intro x6 x7 hno
      refine rv_V.run rv_gd_Model_window [30] 400 ?_
      rw [show wi_run s n vo k i (t + 1) w = wi_run s n vo k i t (w + 1) from if_neg hno]
      exact ih (w + 1) (vw + 1) x6 x7 (by rw [ew]; exact nI_1 w) (by omega)
    refine rv_V.run rv_gd_Model_window [30, 70, 251] 400 ?_
    refine Exists.intro _ (And.intro h.ob ?_)
    refine And.intro (fun c1 => ?_) (fun c1 => ?_)
    · exact absurd ((rv_leN en ew (by omega) (by omega)).mp c1) (by omega)
    refine Exists.intro _ (And.intro h.ob ?_)
    refine h.l20 ew hw ?_
    refine And.intro (fun c2 => ?_) (fun c2 => next _ _ (fun z => c2 z.1.1))
    refine Exists.intro _ (And.intro h.ob ?_)
    refine h.l21 ew hw ?_
    refine And.intro (fun c3 => ?_) (fun c3 => next _ _ (fun z => c3 z.1.2))
    refine lp_wcnt en hn ew hw h n 0 _ _ rfl (by omega) (fun x7 => ?_)
    refine rv_V.run rv_gd_Model_window [251] 400 ?_
    refine And.intro (fun c4 => ?_) (fun c4 => next _ _ (fun z => c4 z.2))
    rw [show wi_run s n vo k i (t + 1) w = some w from if_pos ⟨⟨c2, c3⟩, c4⟩]
    show rv_bx _ _ _ _ (fun a σ' => a = some (.long (wi_val (mw s w) q)) ∧ σ' = σ) _ _ _ _ _ _ _ _ _
    unfold wi_val
    refine And.intro (fun c => ?_) (fun c => ?_)
    · rw [if_pos c]
      refine Exists.intro _ (And.intro h.ob ?_)
      refine h.l22 ew hw ?_
      exact ⟨rfl, rfl⟩
    rw [if_neg c]
    refine And.intro (fun c => ?_) (fun c => ?_)
    · rw [if_pos c]
      refine Exists.intro _ (And.intro h.ob ?_)
      refine h.l23 ew hw ?_
      exact ⟨rfl, rfl⟩
    rw [if_neg c]
    refine And.intro (fun c => ?_) (fun c => ?_)
    · rw [if_pos c]
      refine Exists.intro _ (And.intro h.ob ?_)
      refine h.l28 ew hw ?_
      refine And.intro (fun c2 => ?_) (fun c2 => ?_)
      · exact ⟨by rw [if_neg (show ¬ (mw s w).2.1.1 = true from fun z => absurd (show s.wTold w = true from z) (by rw [rv_b0.mp c2]; decide))], rfl⟩
      · exact ⟨by rw [if_pos (show (mw s w).2.1.1 = true from rv_bn c2)], rfl⟩
    rw [if_neg c]
    refine And.intro (fun c => ?_) (fun c => ?_)
    · rw [if_pos c]
      refine Exists.intro _ (And.intro h.ob ?_)
      refine h.l24 ew hw ?_
      exact ⟨rfl, rfl⟩
    rw [if_neg c]
    refine And.intro (fun c => ?_) (fun c => ?_)
    · rw [if_pos c]
      refine Exists.intro _ (And.intro h.ob ?_)
      refine h.l25 ew hw ?_
      exact ⟨rfl, rfl⟩
    rw [if_neg c]
    refine And.intro (fun c => ?_) (fun c => ?_)
    · rw [if_pos c]
      refine Exists.intro _ (And.intro h.ob ?_)
      refine h.l26 ew hw ?_
      exact ⟨rfl, rfl⟩
    rw [if_neg c]
    refine Exists.intro _ (And.intro h.ob ?_)
    refine h.l27 ew hw ?_
    exact ⟨rfl, rfl⟩
set_option maxRecDepth 100000 in
theorem rt_window {G : rv_G} {σ0 σ : rv_S} {y n : Nat} {s : Md} (vo k i q : Int32) (en : s.nwin = nI n) (hn : n ≤ 120) (h : MI σ0 σ y (md y s)) :
    rv_Ct G i_Model_window 0 0 [.ref y, .int vo, .int k, .int i, .int q] σ (fun a σ' => a = some (.long (if rv_in vo 0 (s.nop - 1) = true ∧ ¬ i < 0 ∧ rv_in q 0 6 = true then wi_ans s (wi_run s n vo k i n 0) q else -99999999)) ∧ σ' = σ) := by
  refine rv_ct (M := m_Model_window) rfl (by decide) rfl rfl ?_
  refine rv_V.run rv_gd_Model_window [30] 400 ?_
  refine And.intro (Exists.intro _ h.ob) ?_
  refine ⟨_, _, _, rt_isOp vo h, Nat.zero_le _, Nat.zero_le _, rfl, ?_⟩
  rintro _ σ ⟨rfl, rfl⟩
  refine And.intro (fun c1 => ⟨by rw [if_neg (fun z => by rw [rv_b0.mp c1] at z; exact absurd z.1 (by decide))], rfl⟩) (fun c1 => ?_)
  refine And.intro (fun c2 => ⟨by rw [if_neg (fun z => z.2.1 c2)], rfl⟩) (fun c2 => ?_)
  refine ⟨_, _, _, rt_in q 0 6, Nat.zero_le _, Nat.zero_le _, rfl, ?_⟩
  rintro _ σ ⟨rfl, rfl⟩
  refine And.intro (fun c3 => ⟨by rw [if_neg (fun z => by rw [rv_b0.mp c3] at z; exact absurd z.2.2 (by decide))], rfl⟩) (fun c3 => ?_)
  rw [if_pos ⟨rv_bn c1, c2, rv_bn c3⟩]
  exact lp_window en hn h n 0 _ _ _ rfl (by omega)
end
section
/-! THE CLASS: its smaller calls -/
set_option maxRecDepth 100000 in
theorem ct_result {G : rv_G} {σ : rv_S} {x s : Nat} {q : Nat → Nat → Int64} {nop nsr ev bd rl dr : Int32} (hx : σ.2 x = some (oLate x nop nsr ev bd rl dr)) (h : PR σ.2 (x + 368) (x + 369) 400 9 s q) (i j : Int32) :
    rv_Ct G i_Late_result 0 0 [.ref x, .int i, .int j] σ (fun a σ' => a = some (.long (if i < 0 ∨ nI s ≤ i ∨ j < 0 ∨ nI 9 ≤ j then -99999999 else q i.toNatClampNeg j.toNatClampNeg)) ∧ σ' = σ) := by
  refine rv_ct (M := m_Late_result) rfl (by decide) rfl rfl ?_
  refine rv_V.run rv_gd_Late_result [] 400 ?_
  refine Exists.intro _ (And.intro hx ?_)
  refine And.intro (by obtain ⟨e, la, f, he, hs, hr, hc, hf⟩ := h; exact ⟨_, hr⟩) ?_
  refine ⟨_, _, _, ct_get_n h (by decide) (by decide) i j, Nat.zero_le _, Nat.zero_le _, rfl, ?_⟩
  rintro _ σ ⟨rfl, rfl⟩
  exact ⟨rfl, rfl⟩
set_option maxRecDepth 100000 in
theorem ct_aside {G : rv_G} {σ : rv_S} {x s : Nat} {q : Nat → Nat → Int64} {nop nsr ev bd rl dr : Int32} (hx : σ.2 x = some (oLate x nop nsr ev bd rl dr)) (h : PR σ.2 (x + 370) (x + 371) 100 5 s q) (i j : Int32) :
    rv_Ct G i_Late_aside 0 0 [.ref x, .int i, .int j] σ (fun a σ' => a = some (.int (if i < 0 ∨ nI s ≤ i ∨ j < 0 ∨ nI 5 ≤ j then (-99999999 : Int64) else q i.toNatClampNeg j.toNatClampNeg).toInt32) ∧ σ' = σ) := by
  refine rv_ct (M := m_Late_aside) rfl (by decide) rfl rfl ?_
  refine rv_V.run rv_gd_Late_aside [] 400 ?_
  refine Exists.intro _ (And.intro hx ?_)
  refine And.intro (by obtain ⟨e, la, f, he, hs, hr, hc, hf⟩ := h; exact ⟨_, hr⟩) ?_
  refine ⟨_, _, _, ct_get_n h (by decide) (by decide) i j, Nat.zero_le _, Nat.zero_le _, rfl, ?_⟩
  rintro _ σ ⟨rfl, rfl⟩
  exact And.intro trivial ⟨rfl, rfl⟩
set_option maxRecDepth 100000 in
theorem ct_mark_in {G : rv_G} {σ : rv_S} {x no : Nat} {oa : Nat → Nat} {od : Nat → Od} {nsr ev bd rl dr : Int32} (hx : σ.2 x = some (oLate x (nI no) nsr ev bd rl dr)) (h : POP σ.2 x no oa od) (j : Nat) (hj : j < no) : rv_Ct G i_Late_mark 0 0 [.ref x, .int (nI j)] σ (fun r σ' => r = some (.int (od j).2.2.2.2.2) ∧ σ' = σ) := by
  refine rv_ct (M := m_Late_mark) rfl (by decide) rfl rfl ?_
  refine rv_V.run rv_gd_Late_mark [] 400 ?_
  refine And.intro (Exists.intro _ hx) ?_
  refine ⟨_, _, _, ct_operatorAt_in hx h j hj, Nat.zero_le _, Nat.zero_le _, rfl, ?_⟩
  rintro _ σ ⟨rfl, rfl⟩
  refine Exists.intro _ (And.intro (h.2.1 j hj).1 ?_)
  exact And.intro trivial ⟨rfl, rfl⟩
set_option maxRecDepth 100000 in
theorem ct_mark_out {G : rv_G} {σ : rv_S} {x no : Nat} {nsr ev bd rl dr : Int32} (hx : σ.2 x = some (oLate x (nI no) nsr ev bd rl dr)) (i : Int32) (hi : i < 0 ∨ nI no ≤ i) : rv_Ct G i_Late_mark 0 0 [.ref x, .int i] σ (fun r σ' => r = some (.int (-1)) ∧ σ' = σ) := by
  refine rv_ct (M := m_Late_mark) rfl (by decide) rfl rfl ?_
  refine rv_V.run rv_gd_Late_mark [] 400 ?_
  refine And.intro (Exists.intro _ hx) ?_
  refine ⟨_, _, _, ct_operatorAt_out hx i hi, Nat.zero_le _, Nat.zero_le _, rfl, ?_⟩
  rintro _ σ ⟨rfl, rfl⟩
  exact And.intro trivial ⟨rfl, rfl⟩
set_option maxRecDepth 100000 in
theorem ct_bound {G : rv_G} {σ : rv_S} {x s : Nat} {q : Nat → Nat → Int64} {nop nsr ev bd rl dr : Int32} (hx : σ.2 x = some (oLate x nop nsr ev bd rl dr)) (hq : PR σ.2 (x + 370) (x + 371) 100 5 s q) (n rule : Int32) :
    rv_Ct G i_Late_bound 0 0 [.ref x, .int n, .int rule] σ (fun a σ' => a = some (.int (if rv_in n 0 100 = true ∧ rv_in rule 0 1 = true then (if nI s ≤ n then nI s else -2) else -1)) ∧ σ' = (if (rv_in n 0 100 = true ∧ rv_in rule 0 1 = true) ∧ nI s ≤ n then (σ.1, rv_up σ.2 x (oLate x nop nsr ev n rule dr)) else σ)) := by
  obtain ⟨e, la, f, he, hsR, hr, hc, hf⟩ := hq
  refine rv_ct (M := m_Late_bound) rfl (by decide) rfl rfl ?_
  refine rv_V.run rv_gd_Late_bound [] 400 ?_
  refine ⟨_, _, _, ct_isWithin n 0 100, Nat.zero_le _, Nat.zero_le _, rfl, ?_⟩
  rintro _ σ ⟨rfl, rfl⟩
  refine And.intro (fun c1 => ?_) (fun c1 => ?_)
  · have hno : ¬ (rv_in n 0 100 = true ∧ rv_in rule 0 1 = true) := fun z => by rw [rv_b0.mp c1] at z; exact absurd z.1 (by decide)
    rw [if_neg hno, if_neg (fun z => hno z.1)]
    exact And.intro trivial ⟨rfl, rfl⟩
  refine ⟨_, _, _, ct_isWithin rule 0 1, Nat.zero_le _, Nat.zero_le _, rfl, ?_⟩
  rintro _ σ ⟨rfl, rfl⟩
  refine And.intro (fun c2 => ?_) (fun c2 => ?_)
  · have hno : ¬ (rv_in n 0 100 = true ∧ rv_in rule 0 1 = true) := fun z => by rw [rv_b0.mp c2] at z; exact absurd z.2 (by decide)
    rw [if_neg hno, if_neg (fun z => hno z.1)]
    exact And.intro trivial ⟨rfl, rfl⟩
  have hyes : rv_in n 0 100 = true ∧ rv_in rule 0 1 = true := ⟨rv_bn c1, rv_bn c2⟩
  rw [if_pos hyes]
  refine Exists.intro _ (And.intro hx ?_)
  refine Exists.intro _ (And.intro hr ?_)
  refine And.intro (fun c3 => ?_) (fun c3 => ?_)
  · rw [if_pos c3, if_pos ⟨hyes, c3⟩]
    refine Exists.intro _ (And.intro hx (And.intro trivial ?_))
    refine Exists.intro _ (And.intro rv_up_s (And.intro trivial ?_))
    rw [rv_up_up]
    refine Exists.intro _ (And.intro rv_up_s ?_)
    refine Exists.intro _ (And.intro ((rv_up_n (by omega)).trans hr) ?_)
    exact And.intro trivial ⟨rfl, rfl⟩
  · rw [if_neg c3, if_neg (fun z => c3 z.2)]
    exact And.intro trivial ⟨rfl, rfl⟩
end
section
/-! THE CLASS: of, take, promise, end -/
set_option maxRecDepth 100000 in
theorem ct_of_out {G : rv_G} {σ : rv_S} {x ns : Nat} {nop ev bd rl dr : Int32} (hx : σ.2 x = some (oLate x nop (nI ns) ev bd rl dr)) (i j : Int32) (hi : i < 0 ∨ nI ns ≤ i) : rv_Ct G i_Late_of 0 0 [.ref x, .int i, .int j] σ (fun r σ' => r = some (.int (-99999999)) ∧ σ' = σ) := by
  refine rv_ct (M := m_Late_of) rfl (by decide) rfl rfl ?_
  refine rv_V.run rv_gd_Late_of [] 400 ?_
  refine And.intro (Exists.intro _ hx) ?_
  refine ⟨_, _, _, ct_sourceAt_out hx i hi, Nat.zero_le _, Nat.zero_le _, rfl, ?_⟩
  rintro _ σ ⟨rfl, rfl⟩
  exact And.intro trivial ⟨rfl, rfl⟩
set_option maxRecDepth 100000 in
theorem ct_of_in {G : rv_G} {σ : rv_S} {x no ns : Nat} {oa sa : Nat → Nat} {od : Nat → Od} {sd : Nat → Sd} {ev bd rl dr : Int32} (hx : σ.2 x = some (oLate x (nI no) (nI ns) ev bd rl dr)) (hO : POP σ.2 x no oa od) (h : PSR σ.2 x no ns oa sa sd) (i : Nat) (hi : i < ns) (j : Int32) : rv_Ct G i_Late_of 0 0 [.ref x, .int (nI i), .int j] σ (fun r σ' => r = some (.int (of_val (sd i) j)) ∧ σ' = σ) := by
  obtain ⟨h1, h2, h3⟩ := h.2.1 i hi
  refine rv_ct (M := m_Late_of) rfl (by decide) rfl rfl ?_
  refine rv_V.run rv_gd_Late_of [] 400 ?_
  refine And.intro (Exists.intro _ hx) ?_
  refine ⟨_, _, _, ct_sourceAt_in hx h i hi, Nat.zero_le _, Nat.zero_le _, rfl, ?_⟩
  rintro _ σ ⟨rfl, rfl⟩
  unfold of_val
  refine And.intro (fun c => ?_) (fun c => ?_)
  · rw [if_pos c]
    refine Exists.intro _ (And.intro h1 ?_)
    refine Exists.intro _ (And.intro (hO.2.1 _ h3).1 ?_)
    exact And.intro trivial ⟨rfl, rfl⟩
  rw [if_neg c]
  refine And.intro (fun c => ?_) (fun c => ?_)
  · rw [if_pos c]
    refine Exists.intro _ (And.intro h1 ?_)
    exact And.intro trivial ⟨rfl, rfl⟩
  rw [if_neg c]
  refine And.intro (fun c => ?_) (fun c => ?_)
  · rw [if_pos c]
    refine Exists.intro _ (And.intro h1 ?_)
    refine And.intro (fun c2 => ?_) (fun c2 => ?_)
    · exact And.intro trivial ⟨congrArg (fun q => some (Value.int q)) (Eq.symm c2), rfl⟩
    · refine And.intro trivial ⟨?_, rfl⟩
      rcases rv_b01 (sd i).2.2.1.1 with z | z
      · exact absurd z c2
      · exact congrArg (fun q => some (Value.int q)) (Eq.symm z)
  rw [if_neg c]
  refine And.intro (fun c => ?_) (fun c => ?_)
  · rw [if_pos c]
    refine Exists.intro _ (And.intro h1 ?_)
    refine And.intro (fun c2 => ?_) (fun c2 => ?_)
    · exact And.intro trivial ⟨congrArg (fun q => some (Value.int q)) (Eq.symm c2), rfl⟩
    · refine And.intro trivial ⟨?_, rfl⟩
      rcases rv_b01 (sd i).2.2.1.2 with z | z
      · exact absurd z c2
      · exact congrArg (fun q => some (Value.int q)) (Eq.symm z)
  rw [if_neg c]
  refine And.intro (fun c => ?_) (fun c => ?_)
  · rw [if_pos c]
    refine Exists.intro _ (And.intro h1 ?_)
    exact And.intro trivial ⟨rfl, rfl⟩
  rw [if_neg c]
  refine And.intro (fun c => ?_) (fun c => ?_)
  · rw [if_pos c]
    refine Exists.intro _ (And.intro h1 ?_)
    exact And.intro trivial ⟨rfl, rfl⟩
  rw [if_neg c]
  refine And.intro (fun c => ?_) (fun c => ?_)
  · rw [if_pos c]
    refine Exists.intro _ (And.intro h1 ?_)
    exact And.intro trivial ⟨rfl, rfl⟩
  rw [if_neg c]
  refine And.intro (fun c => ?_) (fun c => ?_)
  · rw [if_pos c]
    refine Exists.intro _ (And.intro h1 ?_)
    exact And.intro trivial ⟨rfl, rfl⟩
  rw [if_neg c]
  exact And.intro trivial ⟨rfl, rfl⟩
theorem PSR.set {g : Nat → Option rv_E} {x no ns : Nat} {oa sa : Nat → Nat} {sd : Nat → Sd} (h : PSR g x no ns oa sa sd) {i : Nat} (hi : i < ns) (d : Sd) (hd : d.1 < no) : PSR (rv_up g (sa i) (oS oa i d)) x no ns oa sa (va_up sd i d) := by
  obtain ⟨⟨f, hf, hfe⟩, hs, hn, hj⟩ := h
  have hx := (hs i hi).2.1
  refine ⟨⟨f, (rv_up_n (by omega)).trans hf, hfe⟩, fun j hjn => ?_, hn, hj⟩
  by_cases hji : j = i
  · subst hji
    rw [va_up_self]
    exact ⟨rv_up_s, hx, hd⟩
  · rw [va_up_ne _ _ hji]
    exact ⟨(rv_up_n (fun z => hji (hj j i hjn hi z))).trans (hs j hjn).1, (hs j hjn).2⟩
/-- no source is stopped, from i on -/
def ts_run : Nat → Nat → (Nat → Sd) → Nat → Sd
  | 0, _, sd => sd
  | t + 1, i, sd => ts_run t (i + 1) (va_up sd i (sd_stop (sd i) false))
set_option maxRecDepth 100000 in
theorem lp_ctake {G : rv_G} {x no ns : Nat} {oa sa : Nat → Nat} {nop ev bd rl dr v1 : Int32} : ∀ (t i : Nat) (vi : Int32) (sd : Nat → Sd) (σ : rv_S), vi = nI i → i + t = ns → σ.2 x = some (oLate x nop (nI ns) ev bd rl dr) → PSR σ.2 x no ns oa sa sd →
    rv_V G m_Late_take 0 0 (fun r σ' => r = some (.int v1) ∧ σ'.1 = σ.1 ∧ PSR σ'.2 x no ns oa sa (ts_run t i sd) ∧ rv_only (fun q => ∃ j, j < ns ∧ q = sa j) σ.2 σ'.2) 17 [some (.ref x), some (.int v1), some (.int vi)] [] σ 0 0 := by
  intro t
  induction t with
  | zero =>
    intro i vi sd σ ei h1 hx h
    have hn := h.2.2.1
    refine rv_V.run rv_gd_Late_take [17] 400 ?_
    refine Exists.intro _ (And.intro hx ?_)
    refine And.intro (fun c1 => And.intro trivial ⟨rfl, rfl, h, rv_only.rf⟩) (fun c1 => ?_)
    exact absurd ((rv_leN rfl ei (by omega) (by omega)).mpr (by omega)) c1
  | succ t ih =>
    intro i vi sd σ ei h1 hx h
    have hn := h.2.2.1
    obtain ⟨s1, s2, s3⟩ := h.2.1 i (by omega)
    have hset := h.set (i := i) (by omega) (sd_stop (sd i) false) s3
    obtain ⟨⟨f, hf, hfe⟩, hs, _, hj⟩ := h
    refine rv_V.run rv_gd_Late_take [17] 400 ?_
    refine Exists.intro _ (And.intro hx ?_)
    refine And.intro (fun c1 => ?_) (fun c1 => ?_)
    · exact absurd ((rv_leN rfl ei (by omega) (by omega)).mp c1) (by omega)
    refine Exists.intro _ (And.intro hx ?_)
    refine ⟨_, _, _, some (sa i), hf, by decide, (by rw [ei]; exact vp_in_nI (by omega) (by omega)), (by rw [ei, nI_clamp (by omega)]; exact hfe i (by omega)), ?_⟩
    refine Exists.intro _ (And.intro s1 (And.intro (Or.inl rfl) ?_))
    refine (ih (i + 1) (vi + 1) _ (σ.1, rv_up σ.2 (sa i) (oS oa i (sd_stop (sd i) false))) (by rw [ei]; exact nI_1 i) (by omega) ((rv_up_n (by omega)).trans hx) hset).mono ?_
    rintro r σ' ⟨k1, k2, k3, k4⟩
    exact ⟨k1, k2, k3, (rv_only.up ⟨i, by omega, rfl⟩).tr k4⟩
set_option maxRecDepth 100000 in
theorem ct_take {G : rv_G} {σ : rv_S} {x no ns s : Nat} {oa sa : Nat → Nat} {sd : Nat → Sd} {q : Nat → Nat → Int64} {nop ev bd rl dr : Int32} (hx : σ.2 x = some (oLate x nop (nI ns) ev bd rl dr)) (h : PSR σ.2 x no ns oa sa sd) (hq : PR σ.2 (x + 370) (x + 371) 100 5 s q) :
    rv_Ct G i_Late_take 0 0 [.ref x] σ (fun r σ' => r = some (.int (nI s)) ∧ σ'.1 = σ.1 ∧ PSR σ'.2 x no ns oa sa (ts_run ns 0 sd) ∧ PR σ'.2 (x + 370) (x + 371) 100 5 0 q ∧ rv_only (fun q => q = x + 370 ∨ ∃ j, j < ns ∧ q = sa j) σ.2 σ'.2) := by
  obtain ⟨e, la, f, he, hsR, hr, hc, hf⟩ := hq
  have h' : PSR (rv_up σ.2 (x + 370) (oRing (nI 100) (nI 5) (x + 371) (nI e) la 0)) x no ns oa sa sd := by
    obtain ⟨⟨f, hf, hfe⟩, hs, hn, hj⟩ := h
    exact ⟨⟨f, (rv_up_n (by omega)).trans hf, hfe⟩, fun j hj2 => ⟨(rv_up_n (by have := (hs j hj2).2.1; omega)).trans (hs j hj2).1, (hs j hj2).2⟩, hn, hj⟩
  refine rv_ct (M := m_Late_take) rfl (by decide) rfl rfl ?_
  refine rv_V.run rv_gd_Late_take [17] 400 ?_
  refine Exists.intro _ (And.intro hx ?_)
  refine Exists.intro _ (And.intro hr ?_)
  refine Exists.intro _ (And.intro hx ?_)
  refine And.intro (Exists.intro _ hr) ?_
  refine ⟨_, _, _, ct_Ring_clear (x + 370) _ _ _ _ _ _ hr, Nat.zero_le _, Nat.zero_le _, rfl, ?_⟩
  rintro _ _ ⟨rfl, rfl⟩
  refine (lp_ctake ns 0 _ sd (σ.1, rv_up σ.2 (x + 370) (oRing (nI 100) (nI 5) (x + 371) (nI e) la 0)) rfl (by omega) ((rv_up_n (by omega)).trans hx) h').mono ?_
  rintro r σ' ⟨k1, k2, k3, k4⟩
  have hne : ∀ a, a ≤ x + 372 → ¬ ∃ j, j < ns ∧ a = sa j := fun a ha z => by
    obtain ⟨j, hj, e1⟩ := z
    have := (h.2.1 j hj).2.1
    omega
  refine ⟨k1, k2, k3, ⟨e, la, f, he, Nat.zero_le _, ?_, ?_, fun j hj => absurd hj (Nat.not_lt_zero j)⟩, (rv_only.up (Or.inl rfl)).tr (fun a ha => k4 a (fun z => ha (Or.inr z)))⟩
  · exact (k4 _ (hne _ (by omega))).trans rv_up_s
  · exact (k4 _ (hne _ (by omega))).trans ((rv_up_n (by omega)).trans hc)
end
section
/-! THE CLASS: promise and end -/
theorem os_ne {g : Nat → Option rv_E} {x no ns : Nat} {oa sa : Nat → Nat} {od : Nat → Od} {sd : Nat → Sd} (hO : POP g x no oa od) (hS : PSR g x no ns oa sa sd) {i j : Nat} (hi : i < ns) (hj : j < no) : sa i ≠ oa j := by
  intro z
  have h1 := (hS.2.1 i hi).1
  rw [z, (hO.2.1 j hj).1] at h1
  have h2 := congrArg Prod.fst (Sum.inl.inj (Option.some.inj h1))
  exact absurd (show k_Operator = k_Source from h2) (by decide)
theorem POP.up {g : Nat → Option rv_E} {x no : Nat} {oa : Nat → Nat} {od : Nat → Od} (h : POP g x no oa od) {a : Nat} (y : rv_E) (h1 : a ≠ x + 1) (h2 : ∀ j, j < no → a ≠ oa j) : POP (rv_up g a y) x no oa od := by
  obtain ⟨⟨f, hf, hfe⟩, ho, hn, hi⟩ := h
  exact ⟨⟨f, (rv_up_n (Ne.symm h1)).trans hf, hfe⟩, fun j hj => ⟨(rv_up_n (Ne.symm (h2 j hj))).trans (ho j hj).1, (ho j hj).2⟩, hn, hi⟩
theorem PT.far {g : Nat → Option rv_E} {x : Nat} {nop nsr bd rl dr : Int32} {n : Nat} {p : Nat → Nat} {D : Nat → Wd} {R : Rs} (h : PT g x nop nsr bd rl dr n p D R) {a : Nat} (y : rv_E) (ha : x + 369 < a) : PT (rv_up g a y) x nop nsr bd rl dr n p D R :=
  ⟨(rv_up_n (by omega)).trans h.1, h.2.1.kept (fun q h2 h3 => rv_up_n (by omega)), h.2.2.kept (rv_up_n (by omega)) (rv_up_n (by omega))⟩
def sd_prom (d : Sd) (t : Int32) : Sd := (d.1, t, d.2.2)
def sd_end (d : Sd) : Sd := (d.1, d.2.1, (true, d.2.2.1.2), d.2.2.2)
/-- the answer, the operators, the windows and results when the mark has moved, or not -/
def mm_run (od : Nat → Od) (sd : Nat → Sd) (o ns n : Nat) (p : Nat → Nat) (D : Nat → Wd) (R : Rs) : Int32 × (Nat → Od) × (Nat × (Nat → Nat) × (Nat → Wd) × Rs) :=
  if lp_run sd o ns 0 1000000000 ≤ (od o).2.2.2.2.2 then (0, od, (n, p, D, R)) else
    ((lc_run (nI o) (od o).2.2.2.1 (lp_run sd o ns 0 1000000000) 120 (n, p, tl_run (nI o) (lp_run sd o ns 0 1000000000) n p 120 (D, R))).2.2.2.2.2 - R.2.2, va_up od o (om (od o) (lp_run sd o ns 0 1000000000)), lc_run (nI o) (od o).2.2.2.1 (lp_run sd o ns 0 1000000000) 120 (n, p, tl_run (nI o) (lp_run sd o ns 0 1000000000) n p 120 (D, R)))
theorem ct_moveMark {G : rv_G} {σ : rv_S} {x no ns o n : Nat} {oa sa : Nat → Nat} {od : Nat → Od} {sd : Nat → Sd} {p : Nat → Nat} {D : Nat → Wd} {R : Rs} {bd rl dr : Int32} (h : PT σ.2 x (nI no) (nI ns) bd rl dr n p D R) (hO : POP σ.2 x no oa od) (hS : PSR σ.2 x no ns oa sa sd) (ho : o < no) :
    rv_Ct G i_Late_moveMark 0 0 [.ref x, .ref (oa o)] σ (fun r σ' => ∃ m, m = mm_run od sd o ns n p D R ∧ r = some (.int m.1) ∧ σ'.1 = σ.1 ∧ PT σ'.2 x (nI no) (nI ns) bd rl dr m.2.2.1 m.2.2.2.1 m.2.2.2.2.1 m.2.2.2.2.2 ∧ POP σ'.2 x no oa m.2.1 ∧ PSR σ'.2 x no ns oa sa sd ∧ rv_only (fun q => SC x q ∨ q = oa o) σ.2 σ'.2) := by
  by_cases hle : lp_run sd o ns 0 1000000000 ≤ (od o).2.2.2.2.2
  · refine (ct_moveMark0 h.1 hO hS ho hle).mono ?_
    rintro r σ' ⟨k1, k2⟩
    subst k2
    refine ⟨_, rfl, ?_⟩
    rw [show mm_run od sd o ns n p D R = (0, od, (n, p, D, R)) from if_pos hle]
    exact ⟨k1, rfl, h, hO, hS, rv_only.rf⟩
  · refine (ct_moveMark1 h hO hS ho (Int32.not_le.mp hle)).mono ?_
    rintro r σ' ⟨s, k0, k1, k2, k3, k4, k5⟩
    refine ⟨_, rfl, ?_⟩
    rw [show mm_run od sd o ns n p D R = _ from if_neg hle]
    subst k0
    have hfar : ∀ a, x + 369 < a → a ≠ oa o → σ'.2 a = σ.2 a := fun a h1 h2 => k5 a (fun z => z.elim (SC_hi h1) h2)
    have hnear : ∀ a, (a = x + 1 ∨ a = x + 2) → σ'.2 a = σ.2 a := fun a h1 => k5 a (fun z => by
      have := (hO.2.1 o ho).2
      rcases z with z | z
      · unfold SC at z; omega
      · omega)
    refine ⟨k1, k2, k3, ?_, ?_, k5⟩
    · obtain ⟨⟨f, hf, hfe⟩, hoo, hn, hi⟩ := hO
      refine ⟨⟨f, (hnear _ (Or.inl rfl)).trans hf, hfe⟩, fun j hj => ?_, hn, hi⟩
      dsimp only
      by_cases hjo : j = o
      · subst hjo
        rw [va_up_self]
        exact ⟨k4, (hoo j hj).2⟩
      · rw [va_up_ne _ _ hjo]
        exact ⟨(hfar _ (by have := (hoo j hj).2; omega) (fun z => hjo (hi j o hj ho z))).trans (hoo j hj).1, (hoo j hj).2⟩
    · have hne : ∀ i, i < ns → sa i ≠ oa o := fun i hi => os_ne hO hS hi ho
      obtain ⟨⟨f, hf, hfe⟩, hss, hn, hi⟩ := hS
      exact ⟨⟨f, (hnear _ (Or.inr rfl)).trans hf, hfe⟩, fun j hj => ⟨(hfar _ (by have := (hss j hj).2.1; omega) (hne j hj)).trans (hss j hj).1, (hss j hj).2⟩, hn, hi⟩
end
section
/-! THE CLASS: promise and end, called -/
set_option maxRecDepth 100000 in
theorem ct_promise_bad {G : rv_G} {σ : rv_S} {x no ns : Nat} {oa sa : Nat → Nat} {sd : Nat → Sd} {nop ev bd rl dr : Int32} (hx : σ.2 x = some (oLate x nop (nI ns) ev bd rl dr)) (hS : PSR σ.2 x no ns oa sa sd) (i t : Int32) (hb : (i < 0 ∨ nI ns ≤ i) ∨ ((∃ j, j < ns ∧ i = nI j) ∧ rv_in t 0 999999999 = false)) : rv_Ct G i_Late_promise 0 0 [.ref x, .int i, .int t] σ (fun r σ' => r = some (.int (-1)) ∧ σ' = σ) := by
  refine rv_ct (M := m_Late_promise) rfl (by decide) rfl rfl ?_
  refine rv_V.run rv_gd_Late_promise [] 400 ?_
  refine And.intro (Exists.intro _ hx) ?_
  rcases hb with hb | ⟨⟨j, hj, rfl⟩, ht⟩
  · refine ⟨_, _, _, ct_sourceAt_out hx i hb, Nat.zero_le _, Nat.zero_le _, rfl, ?_⟩
    rintro _ σ ⟨rfl, rfl⟩
    exact And.intro trivial ⟨rfl, rfl⟩
  · refine ⟨_, _, _, ct_sourceAt_in hx hS j hj, Nat.zero_le _, Nat.zero_le _, rfl, ?_⟩
    rintro _ σ ⟨rfl, rfl⟩
    refine ⟨_, _, _, ct_isWithin t 0 999999999, Nat.zero_le _, Nat.zero_le _, rfl, ?_⟩
    rintro _ σ ⟨rfl, rfl⟩
    refine And.intro (fun c1 => And.intro trivial ⟨rfl, rfl⟩) (fun c1 => ?_)
    rw [ht] at c1
    exact absurd rfl c1
set_option maxRecDepth 100000 in
theorem ct_promise {G : rv_G} {σ : rv_S} {x no ns n i : Nat} {oa sa : Nat → Nat} {od : Nat → Od} {sd : Nat → Sd} {p : Nat → Nat} {D : Nat → Wd} {R : Rs} {bd rl dr : Int32} (h : PT σ.2 x (nI no) (nI ns) bd rl dr n p D R) (hO : POP σ.2 x no oa od) (hS : PSR σ.2 x no ns oa sa sd) (hi : i < ns) (t : Int32) (ht : rv_in t 0 999999999 = true) :
    rv_Ct G i_Late_promise 0 0 [.ref x, .int (nI i), .int t] σ (fun r σ' => ((t < (sd i).2.1 ∨ (sd i).2.2.1.1 = true) → r = some (.int (-2)) ∧ σ' = σ) ∧ (¬ (t < (sd i).2.1 ∨ (sd i).2.2.1.1 = true) → ∃ m, m = mm_run od (va_up sd i (sd_prom (sd i) t)) (sd i).1 ns n p D R ∧ r = some (.int m.1) ∧ σ'.1 = σ.1 ∧ PT σ'.2 x (nI no) (nI ns) bd rl dr m.2.2.1 m.2.2.2.1 m.2.2.2.2.1 m.2.2.2.2.2 ∧ POP σ'.2 x no oa m.2.1 ∧ PSR σ'.2 x no ns oa sa (va_up sd i (sd_prom (sd i) t)) ∧ rv_only (fun q => SC x q ∨ q = oa (sd i).1 ∨ q = sa i) σ.2 σ'.2)) := by
  obtain ⟨s1, s2, s3⟩ := hS.2.1 i hi
  refine rv_ct (M := m_Late_promise) rfl (by decide) rfl rfl ?_
  refine rv_V.run rv_gd_Late_promise [] 400 ?_
  refine And.intro (Exists.intro _ h.1) ?_
  refine ⟨_, _, _, ct_sourceAt_in h.1 hS i hi, Nat.zero_le _, Nat.zero_le _, rfl, ?_⟩
  rintro _ σ ⟨rfl, rfl⟩
  refine ⟨_, _, _, ct_isWithin t 0 999999999, Nat.zero_le _, Nat.zero_le _, rfl, ?_⟩
  rintro _ σ ⟨rfl, rfl⟩
  refine And.intro (fun c1 => ?_) (fun c1 => ?_)
  · rw [ht] at c1
    exact absurd c1 (by decide)
  refine Exists.intro _ (And.intro s1 ?_)
  refine And.intro (fun c2 => ?_) (fun c2 => ?_)
  · exact And.intro trivial ⟨fun _ => ⟨rfl, rfl⟩, fun z => absurd (Or.inl c2) z⟩
  refine Exists.intro _ (And.intro s1 ?_)
  refine And.intro (fun c3 => ?_) (fun c3 => ?_)
  · have hno : ¬ (t < (sd i).2.1 ∨ (sd i).2.2.1.1 = true) := fun z => z.elim c2 (fun z => by rw [rv_b0.mp c3] at z; cases z)
    refine Exists.intro _ (And.intro s1 (And.intro trivial ?_))
    have h1 := h.far (oS oa i (sd_prom (sd i) t)) (a := sa i) (by omega)
    have hO1 := hO.up (oS oa i (sd_prom (sd i) t)) (a := sa i) (by omega) (fun j hj => os_ne hO hS hi hj)
    have hS1 := hS.set hi (sd_prom (sd i) t) s3
    refine Exists.intro _ (And.intro rv_up_s ?_)
    refine And.intro (Exists.intro _ h1.1) ?_
    refine ⟨_, _, _, ct_moveMark (σ := (σ.1, rv_up σ.2 (sa i) (oS oa i (sd_prom (sd i) t)))) h1 hO1 hS1 s3, Nat.zero_le _, Nat.zero_le _, rfl, ?_⟩
    rintro _ σ2 ⟨m, k0, rfl, k2, k3, k4, k5, k6⟩
    refine And.intro trivial ⟨fun z => absurd z hno, fun _ => ⟨m, k0, rfl, k2, k3, k4, k5, ?_⟩⟩
    intro q hq
    rw [k6 q (fun z => hq (z.elim Or.inl (fun z => Or.inr (Or.inl z))))]
    exact rv_up_n (fun z => hq (Or.inr (Or.inr z)))
  · exact And.intro trivial ⟨fun _ => ⟨rfl, rfl⟩, fun z => absurd (Or.inr (rv_bn c3)) z⟩
set_option maxRecDepth 100000 in
theorem ct_end_bad {G : rv_G} {σ : rv_S} {x ns : Nat} {nop ev bd rl dr : Int32} (hx : σ.2 x = some (oLate x nop (nI ns) ev bd rl dr)) (i : Int32) (hb : i < 0 ∨ nI ns ≤ i) : rv_Ct G i_Late_end 0 0 [.ref x, .int i] σ (fun r σ' => r = some (.int (-1)) ∧ σ' = σ) := by
  refine rv_ct (M := m_Late_end) rfl (by decide) rfl rfl ?_
  refine rv_V.run rv_gd_Late_end [] 400 ?_
  refine And.intro (Exists.intro _ hx) ?_
  refine ⟨_, _, _, ct_sourceAt_out hx i hb, Nat.zero_le _, Nat.zero_le _, rfl, ?_⟩
  rintro _ σ ⟨rfl, rfl⟩
  exact And.intro trivial ⟨rfl, rfl⟩
set_option maxRecDepth 100000 in
theorem ct_end {G : rv_G} {σ : rv_S} {x no ns n i : Nat} {oa sa : Nat → Nat} {od : Nat → Od} {sd : Nat → Sd} {p : Nat → Nat} {D : Nat → Wd} {R : Rs} {bd rl dr : Int32} (h : PT σ.2 x (nI no) (nI ns) bd rl dr n p D R) (hO : POP σ.2 x no oa od) (hS : PSR σ.2 x no ns oa sa sd) (hi : i < ns) :
    rv_Ct G i_Late_end 0 0 [.ref x, .int (nI i)] σ (fun r σ' => ((sd i).2.2.1.1 = true → r = some (.int (-2)) ∧ σ' = σ) ∧ (¬ (sd i).2.2.1.1 = true → ∃ m, m = mm_run od (va_up sd i (sd_end (sd i))) (sd i).1 ns n p D R ∧ r = some (.int m.1) ∧ σ'.1 = σ.1 ∧ PT σ'.2 x (nI no) (nI ns) bd rl dr m.2.2.1 m.2.2.2.1 m.2.2.2.2.1 m.2.2.2.2.2 ∧ POP σ'.2 x no oa m.2.1 ∧ PSR σ'.2 x no ns oa sa (va_up sd i (sd_end (sd i))) ∧ rv_only (fun q => SC x q ∨ q = oa (sd i).1 ∨ q = sa i) σ.2 σ'.2)) := by
  obtain ⟨s1, s2, s3⟩ := hS.2.1 i hi
  refine rv_ct (M := m_Late_end) rfl (by decide) rfl rfl ?_
  refine rv_V.run rv_gd_Late_end [] 400 ?_
  refine And.intro (Exists.intro _ h.1) ?_
  refine ⟨_, _, _, ct_sourceAt_in h.1 hS i hi, Nat.zero_le _, Nat.zero_le _, rfl, ?_⟩
  rintro _ σ ⟨rfl, rfl⟩
  refine Exists.intro _ (And.intro s1 ?_)
  refine And.intro (fun c3 => ?_) (fun c3 => ?_)
  · have hno : ¬ (sd i).2.2.1.1 = true := fun z => by rw [rv_b0.mp c3] at z; cases z
    refine Exists.intro _ (And.intro s1 (And.intro (Or.inr rfl) ?_))
    have h1 := h.far (oS oa i (sd_end (sd i))) (a := sa i) (by omega)
    have hO1 := hO.up (oS oa i (sd_end (sd i))) (a := sa i) (by omega) (fun j hj => os_ne hO hS hi hj)
    have hS1 := hS.set hi (sd_end (sd i)) s3
    refine Exists.intro _ (And.intro rv_up_s ?_)
    refine And.intro (Exists.intro _ h1.1) ?_
    refine ⟨_, _, _, ct_moveMark (σ := (σ.1, rv_up σ.2 (sa i) (oS oa i (sd_end (sd i))))) h1 hO1 hS1 s3, Nat.zero_le _, Nat.zero_le _, rfl, ?_⟩
    rintro _ σ2 ⟨m, k0, rfl, k2, k3, k4, k5, k6⟩
    refine And.intro trivial ⟨fun z => absurd z hno, fun _ => ⟨m, k0, rfl, k2, k3, k4, k5, ?_⟩⟩
    intro q hq
    rw [k6 q (fun z => hq (z.elim Or.inl (fun z => Or.inr (Or.inl z))))]
    exact rv_up_n (fun z => hq (Or.inr (Or.inr z)))
  · exact And.intro trivial ⟨fun _ => ⟨rfl, rfl⟩, fun z => absurd (rv_bn c3) z⟩
end
section
/-! THE CLASS: constructors -/
def rv_grown (x k : Nat) (σ σ' : rv_S) : Prop := σ'.1 = σ.1 + k ∧ ∀ q, q ≠ x → (q < σ.1 ∨ σ.1 + k ≤ q) → σ'.2 q = σ.2 q
set_option maxRecDepth 100000 in
theorem ct_Window_init {G : rv_G} {σ : rv_S} (x : Nat) (hx : σ.2 x = some (.inl (k_Window, rv_df k_Window))) (hl : x < σ.1) : rv_Ct G i_Window_init 2 8 [.ref x] σ (fun r σ' => r = none ∧ rv_grown x 2 σ σ' ∧ σ'.2 x = some (oWin 0 0 0 0 false false σ.1 (σ.1 + 1)) ∧ σ'.2 σ.1 = some (oTally 0 0 0 0) ∧ σ'.2 (σ.1 + 1) = some (oTally 0 0 0 0)) := by
  refine rv_ct (M := m_Window_init) rfl (by decide) rfl rfl ?_
  refine rv_V.run rv_gd_Window_init [] 400 ?_
  refine Exists.intro _ (And.intro hx (And.intro trivial ?_))
  refine Exists.intro _ (And.intro rv_up_s (And.intro trivial ?_))
  rw [rv_up_up]
  refine Exists.intro _ (And.intro rv_up_s (And.intro trivial ?_))
  rw [rv_up_up]
  refine Exists.intro _ (And.intro rv_up_s (And.intro trivial ?_))
  rw [rv_up_up]
  refine Exists.intro _ (And.intro rv_up_s (And.intro (Or.inl rfl) ?_))
  rw [rv_up_up]
  refine Exists.intro _ (And.intro rv_up_s (And.intro (Or.inl rfl) ?_))
  rw [rv_up_up]
  refine And.intro (by decide) (And.intro (by decide) ?_)
  refine ⟨_, _, _, ct_Tally_init σ.1 rv_up_s, by decide, by decide, rfl, ?_⟩
  rintro _ _ ⟨rfl, rfl⟩
  rw [rv_up_up]
  refine Exists.intro _ (And.intro ((rv_up_n (by omega)).trans rv_up_s) (And.intro trivial ?_))
  rw [rv_up_comm (a := σ.1) (b := x) (by omega), rv_up_up]
  refine And.intro (by decide) (And.intro (by decide) ?_)
  refine ⟨_, _, _, ct_Tally_init (σ.1 + 1) rv_up_s, by decide, by decide, rfl, ?_⟩
  rintro _ _ ⟨rfl, rfl⟩
  rw [rv_up_up]
  refine Exists.intro _ (And.intro ((rv_up_n (by omega)).trans ((rv_up_n (by omega)).trans rv_up_s)) (And.intro trivial ?_))
  refine ⟨rfl, ⟨rfl, fun q h1 h2 => ?_⟩, rv_up_s, (rv_up_n (by omega)).trans ((rv_up_n (by omega)).trans rv_up_s), (rv_up_n (by omega)).trans rv_up_s⟩
  exact (rv_up_n h1).trans ((rv_up_n (by omega)).trans ((rv_up_n (by omega)).trans (rv_up_n h1)))
set_option maxRecDepth 100000 in
theorem ct_RowLog_init {G : rv_G} {σ : rv_S} (x : Nat) (hx : σ.2 x = some (.inl (k_RowLog, rv_df k_RowLog))) (hl : x < σ.1) : rv_Ct G i_RowLog_init 1 300 [.ref x] σ (fun r σ' => r = none ∧ rv_grown x 1 σ σ' ∧ σ'.2 x = some (oRowLog σ.1 0) ∧ σ'.2 σ.1 = some (rv_aO RX4 300 (fun _ => none))) := by
  refine rv_ct (M := m_RowLog_init) rfl (by decide) rfl rfl ?_
  refine rv_V.run rv_gd_RowLog_init [] 400 ?_
  refine ⟨_, 300, rfl, by decide, by decide, by decide, by decide, by decide, ?_⟩
  refine Exists.intro _ (And.intro ((rv_up_n (by omega)).trans hx) (And.intro trivial ?_))
  refine Exists.intro _ (And.intro rv_up_s (And.intro trivial ?_))
  rw [rv_up_up]
  exact ⟨rfl, ⟨rfl, fun q h1 h2 => (rv_up_n h1).trans (rv_up_n (by omega))⟩, rv_up_s, (rv_up_n (by omega)).trans rv_up_s⟩
set_option maxRecDepth 100000 in
theorem ct_Ring_init {G : rv_G} {σ : rv_S} (x R w : Nat) (hx : σ.2 x = some (.inl (k_Ring, rv_df k_Ring))) (hl : x < σ.1) (hR : 1 ≤ R ∧ R ≤ 400) (hw : 1 ≤ w ∧ w ≤ 9) : rv_Ct G i_Ring_init 1 (R * w) [.ref x, .int (nI R), .int (nI w)] σ (fun r σ' => r = none ∧ rv_grown x 1 σ σ' ∧ σ'.2 x = some (oRing (nI R) (nI w) σ.1 0 0 0) ∧ σ'.2 σ.1 = some (rv_aJ (R * w) (fun _ => 0))) := by
  have hm : ∀ a, 1 ≤ a → a ≤ 400 → rv_max 1 (nI a) = nI a := fun a h1 h2 => by
    unfold rv_max
    by_cases h : (1 : Int32) < nI a
    · rw [if_pos h]
    · rw [if_neg h]
      have : ¬ 1 < a := fun z => h ((nI_ltI (a := 1) (by omega) (by omega)).mpr z)
      obtain rfl : a = 1 := by omega
      rfl
  have hRw : R * w ≤ 400 * 9 := Nat.mul_le_mul hR.2 hw.2
  refine rv_ct (M := m_Ring_init) rfl (by decide) rfl rfl ?_
  refine rv_V.run rv_gd_Ring_init [] 400 ?_
  refine Exists.intro _ (And.intro hx (And.intro trivial ?_))
  refine Exists.intro _ (And.intro rv_up_s (And.intro trivial ?_))
  rw [rv_up_up]
  refine Exists.intro _ (And.intro rv_up_s (And.intro trivial ?_))
  rw [rv_up_up]
  refine ⟨_, _, _, ct_max 1 (nI R), by decide, Nat.zero_le _, rfl, ?_⟩
  rintro _ _ ⟨rfl, rfl⟩
  rw [hm R hR.1 hR.2]
  refine Exists.intro _ (And.intro rv_up_s (And.intro trivial ?_))
  rw [rv_up_up]
  refine ⟨_, _, _, ct_max 1 (nI w), by decide, Nat.zero_le _, rfl, ?_⟩
  rintro _ _ ⟨rfl, rfl⟩
  rw [hm w hw.1 (by omega)]
  refine Exists.intro _ (And.intro rv_up_s (And.intro trivial ?_))
  rw [rv_up_up]
  refine Exists.intro _ (And.intro rv_up_s ?_)
  refine Exists.intro _ (And.intro rv_up_s ?_)
  refine ⟨R * w, by rw [nI_mul]; exact nI_clamp (by omega), by rw [nI_mul]; exact nI_pos (by omega), ?_, by decide, by omega, ?_⟩
  · show R * w * 8 ≤ 536870912
    omega
  refine Exists.intro _ (And.intro ((rv_up_n (by omega)).trans rv_up_s) (And.intro trivial ?_))
  exact ⟨rfl, ⟨rfl, fun q h1 h2 => (rv_up_n h1).trans ((rv_up_n (by omega)).trans (rv_up_n h1))⟩, rv_up_s, (rv_up_n (by omega)).trans rv_up_s⟩
def oOP (a : Nat) (n : Int32) : rv_E := .inl (k_OnePass, [.ref a, .int n])
set_option maxRecDepth 100000 in
theorem ct_OnePass_init {G : rv_G} {σ : rv_S} (x : Nat) (hx : σ.2 x = some (.inl (k_OnePass, rv_df k_OnePass))) (hl : x < σ.1) : rv_Ct G i_OnePass_init 1 16800 [.ref x] σ (fun r σ' => r = none ∧ rv_grown x 1 σ σ' ∧ σ'.2 x = some (oOP σ.1 0) ∧ σ'.2 σ.1 = some (rv_aJ 16800 (fun _ => 0))) := by
  refine rv_ct (M := m_OnePass_init) rfl (by decide) rfl rfl ?_
  refine rv_V.run rv_gd_OnePass_init [] 400 ?_
  refine ⟨16800, by decide, by decide, by decide, by decide, by decide, ?_⟩
  refine Exists.intro _ (And.intro ((rv_up_n (by omega)).trans hx) (And.intro trivial ?_))
  refine Exists.intro _ (And.intro rv_up_s (And.intro trivial ?_))
  rw [rv_up_up]
  exact ⟨rfl, ⟨rfl, fun q h1 h2 => (rv_up_n h1).trans (rv_up_n (by omega))⟩, rv_up_s, (rv_up_n (by omega)).trans rv_up_s⟩
end
section
/-! THE CLASS: the list of windows and the object itself are made -/
def wd0 : Wd := ((0, 0, 0, 0), (false, false), (0, 0, 0, 0), (0, 0, 0, 0))
set_option maxRecDepth 100000 in
theorem lp_WL_init {G : rv_G} {wl : Nat} : ∀ (t i : Nat) (vi : Int32) (f : Nat → Option Nat) (σ : rv_S), vi = nI i → i + t = 120 → σ.1 = wl + 2 + 3 * i → σ.2 wl = some (oWL (wl + 1) 0) → σ.2 (wl + 1) = some (rv_aO RX8 120 f) → (∀ j, j < i → f j = some (wa wl j)) → (∀ j, j < i → PW σ.2 (wa wl j) wd0) →
    rv_V G m_WindowList_init 361 2040 (fun r σ' => r = none ∧ σ'.1 = wl + 362 ∧ PWL σ'.2 wl 0 (fun j => j) (fun _ => wd0) ∧ ∀ q, q < wl ∨ wl + 362 ≤ q → σ'.2 q = σ.2 q) 20 [some (.ref wl), some (.int vi)] [] σ (1 + 3 * i) (120 + 16 * i) := by
  intro t
  induction t with
  | zero =>
    intro i vi f σ ei h1 e1 hx hf hfe hw
    refine rv_V.run rv_gd_WindowList_init [20] 400 ?_
    refine Exists.intro _ (And.intro hx ?_)
    refine Exists.intro _ (Exists.intro _ (Exists.intro _ (And.intro hf ?_)))
    refine And.intro (fun c1 => ?_) (fun c1 => ?_)
    · refine ⟨rfl, by omega, ⟨hx, ⟨f, hf, fun j hj => hfe j (by omega)⟩, fun j hj => hw j (by omega), ⟨fun j hj => hj, fun a b _ _ h => h⟩, by omega⟩, fun q hq => rfl⟩
    · exact absurd ((rv_leN (b := i) rfl ei (by omega) (by omega)).mpr (by omega)) c1
  | succ t ih =>
    intro i vi f σ ei h1 e1 hx hf hfe hw
    refine rv_V.run rv_gd_WindowList_init [20] 400 ?_
    refine Exists.intro _ (And.intro hx ?_)
    refine Exists.intro _ (Exists.intro _ (Exists.intro _ (And.intro hf ?_)))
    refine And.intro (fun c1 => ?_) (fun c1 => ?_)
    · exact absurd ((rv_leN (b := i) rfl ei (by omega) (by omega)).mp c1) (by omega)
    refine Exists.intro _ (And.intro hx ?_)
    refine And.intro (by omega) (And.intro (by show 120 + 16 * i + 8 ≤ 2040; omega) ?_)
    refine ⟨_, _, _, ct_Window_init (σ := (σ.1 + 1, rv_up σ.2 σ.1 (.inl (k_Window, rv_df k_Window)))) σ.1 rv_up_s (by dsimp only; omega), by omega, by show 120 + 16 * i + 8 + 8 ≤ 2040; omega, rfl, ?_⟩
    rintro _ σ2 ⟨rfl, ⟨g1, g2⟩, k1, k2, k3⟩
    dsimp only at g1 g2 k1 k2 k3
    have old : ∀ q, q < σ.1 → σ2.2 q = σ.2 q := fun q hq => (g2 q (by omega) (by omega)).trans (rv_up_n (by omega))
    refine ⟨_, _, _, _, _, k1, rfl, (old _ (by omega)).trans hf, by decide, (by rw [ei]; exact vp_in_nI (by omega) (by omega)), ?_⟩
    have hcl : vi.toNatClampNeg = i := by rw [ei]; exact nI_clamp (by omega)
    have r1 := ih (i + 1) (vi + 1) (va_up f vi.toNatClampNeg (some σ.1)) (σ2.1, rv_up σ2.2 (wl + 1) (rv_aO RX8 120 (va_up f vi.toNatClampNeg (some σ.1)))) (by rw [ei]; exact nI_1 i) (by omega) (by dsimp only; omega) ((rv_up_n (by omega)).trans ((old _ (by omega)).trans hx)) rv_up_s
      (fun j hj => by
        rw [hcl]
        by_cases hji : j = i
        · subst hji; rw [va_up_self]; rw [e1]
        · rw [va_up_ne _ _ hji]; exact hfe j (by omega))
      (fun j hj => by
        have ew : wa wl j = wl + 2 + 3 * j := rfl
        by_cases hji : j = i
        · subst hji
          refine ⟨(rv_up_n (by omega)).trans ?_, (rv_up_n (by omega)).trans ?_, (rv_up_n (by omega)).trans ?_⟩
          · rw [show wa wl j = σ.1 from e1.symm]; exact k1
          · rw [show wa wl j = σ.1 from e1.symm]; exact k2
          · rw [show wa wl j = σ.1 from e1.symm]; exact k3
        · obtain ⟨a1, a2, a3⟩ := hw j (by omega)
          exact ⟨(rv_up_n (by omega)).trans ((old _ (by omega)).trans a1), (rv_up_n (by omega)).trans ((old _ (by omega)).trans a2), (rv_up_n (by omega)).trans ((old _ (by omega)).trans a3)⟩)
    rw [show 1 + 3 * i + 1 + 2 = 1 + 3 * (i + 1) by omega, show 120 + 16 * i + (rv_df k_Window).length + 8 = 120 + 16 * (i + 1) by show 120 + 16 * i + 8 + 8 = _; omega]
    refine r1.mono ?_
    rintro r σ' ⟨m1, m2, m3, m4⟩
    exact ⟨m1, m2, m3, fun q hq => (m4 q hq).trans ((rv_up_n (by omega)).trans ((g2 q (by omega) (by omega)).trans (rv_up_n (by omega))))⟩
set_option maxRecDepth 100000 in
theorem ct_WL_init {G : rv_G} {σ : rv_S} (wl : Nat) (hx : σ.2 wl = some (.inl (k_WindowList, rv_df k_WindowList))) (hl : σ.1 = wl + 1) : rv_Ct G i_WindowList_init 361 2040 [.ref wl] σ (fun r σ' => r = none ∧ σ'.1 = wl + 362 ∧ PWL σ'.2 wl 0 (fun j => j) (fun _ => wd0) ∧ ∀ q, q < wl ∨ wl + 362 ≤ q → σ'.2 q = σ.2 q) := by
  refine rv_ct (M := m_WindowList_init) rfl (by decide) rfl rfl ?_
  refine rv_V.run rv_gd_WindowList_init [20] 400 ?_
  refine ⟨_, 120, rfl, by decide, by decide, by decide, by decide, by decide, ?_⟩
  refine Exists.intro _ (And.intro ((rv_up_n (by omega)).trans hx) (And.intro trivial ?_))
  refine Exists.intro _ (And.intro rv_up_s (And.intro trivial ?_))
  rw [rv_up_up]
  have z := (lp_WL_init (G := G) (wl := wl) 120 0 0 (fun _ => none) (σ.1 + 1, rv_up (rv_up σ.2 σ.1 (rv_aO RX8 120 (fun _ => none))) wl (oWL (wl + 1) 0)) rfl (by omega) (by dsimp only; omega) rv_up_s ((rv_up_n (by omega)).trans (by rw [hl]; exact rv_up_s)) (fun j hj => absurd hj (by omega)) (fun j hj => absurd hj (by omega))).mono (Rt' := fun r σ' => r = none ∧ σ'.1 = wl + 362 ∧ PWL σ'.2 wl 0 (fun j => j) (fun _ => wd0) ∧ ∀ q, q < wl ∨ wl + 362 ≤ q → σ'.2 q = σ.2 q) (by
    rintro r σ' ⟨m1, m2, m3, m4⟩
    exact ⟨m1, m2, m3, fun q hq => (m4 q hq).trans ((rv_up_n (by omega)).trans (rv_up_n (by omega)))⟩)
  rw [show (oWL (wl + 1) 0 : rv_E) = .inl (k_WindowList, [.ref σ.1, .int 0]) by rw [hl]; rfl] at z
  exact z
end
section
/-! THE CLASS: a new object -/
def PNew (g : Nat → Option rv_E) (x : Nat) : Prop := g x = some (oLate x 0 0 0 100 0 0) ∧ g (x + 1) = some (rv_aO RX2 5 (fun _ => none)) ∧ g (x + 2) = some (rv_aO RX6 10 (fun _ => none)) ∧ (g (x + 3) = some (oRowLog (x + 4) 0) ∧ g (x + 4) = some (rv_aO RX4 300 (fun _ => none))) ∧ PWL g (x + 5) 0 (fun j => j) (fun _ => wd0) ∧ g (x + 367) = some (oJoin 0 0 0 0 false) ∧ (g (x + 368) = some (oRing (nI 400) (nI 9) (x + 369) 0 0 0) ∧ g (x + 369) = some (rv_aJ (400 * 9) (fun _ => 0))) ∧ (g (x + 370) = some (oRing (nI 100) (nI 5) (x + 371) 0 0 0) ∧ g (x + 371) = some (rv_aJ (100 * 5) (fun _ => 0))) ∧ g (x + 372) = some (oOP (x + 373) 0) ∧ g (x + 373) = some (rv_aJ 16800 (fun _ => 0))
set_option maxRecDepth 100000 in
theorem ct_Late_init {G : rv_G} {g : Nat → Option rv_E} (x : Nat) (hx : g x = some (.inl (k_Late, rv_df k_Late))) : rv_Ct G i_Late_init 373 23278 [.ref x] (x + 1, g) (fun r σ' => r = none ∧ σ'.1 = x + 374 ∧ PNew σ'.2 x ∧ ∀ q, q < x ∨ x + 374 ≤ q → σ'.2 q = g q) := by
  refine rv_ct (M := m_Late_init) rfl (by decide) rfl rfl ?_
  refine rv_V.run rv_gd_Late_init [] 400 ?_
  refine ⟨_, 5, rfl, by decide, by decide, by decide, by decide, by decide, ?_⟩
  refine Exists.intro _ (And.intro ((rv_up_n (by omega)).trans hx) (And.intro trivial ?_))
  refine Exists.intro _ (And.intro rv_up_s (And.intro trivial ?_))
  rw [rv_up_up]
  refine ⟨_, 10, rfl, by decide, by decide, by decide, by decide, by decide, ?_⟩
  refine Exists.intro _ (And.intro ((rv_up_n (by omega)).trans rv_up_s) (And.intro trivial ?_))
  refine Exists.intro _ (And.intro rv_up_s (And.intro trivial ?_))
  rw [rv_up_up]
  refine And.intro (by decide) (And.intro (by decide) ?_)
  refine ⟨_, _, _, ct_RowLog_init (x + 3) rv_up_s (Nat.lt_succ_self _), by decide, by decide, rfl, ?_⟩
  rintro _ σ1 ⟨rfl, ⟨a1, a2⟩, a3, a4⟩
  have b0 : σ1.2 x = _ := (a2 x (by omega) (Or.inl (by dsimp only; omega))).trans ((rv_up_n (by omega)).trans rv_up_s)
  have b1 : σ1.2 (x + 1) = some (rv_aO RX2 5 (fun _ => none)) := (a2 _ (by omega) (Or.inl (by dsimp only; omega))).trans ((rv_up_n (by omega)).trans ((rv_up_n (by omega)).trans ((rv_up_n (by omega)).trans ((rv_up_n (by omega)).trans rv_up_s))))
  have b2 : σ1.2 (x + 2) = some (rv_aO RX6 10 (fun _ => none)) := (a2 _ (by omega) (Or.inl (by dsimp only; omega))).trans ((rv_up_n (by omega)).trans ((rv_up_n (by omega)).trans rv_up_s))
  have b9 : ∀ q, q < x ∨ x + 374 ≤ q → σ1.2 q = g q := fun q hq => (a2 q (by omega) (by dsimp only; omega)).trans ((rv_up_n (by omega)).trans ((rv_up_n (by omega)).trans ((rv_up_n (by omega)).trans ((rv_up_n (by omega)).trans (rv_up_n (by omega))))))
  clear a2
  dsimp only at a1 a3 a4
  obtain ⟨n1, g1⟩ := σ1
  dsimp only at a1 a3 a4 b0 b1 b2 b9
  subst a1
  refine Exists.intro _ (And.intro b0 (And.intro trivial ?_))
  refine And.intro (by decide) (And.intro (by decide) ?_)
  refine ⟨_, _, _, ct_WL_init (x + 5) rv_up_s rfl, by decide, by decide, rfl, ?_⟩
  rintro _ σ2 ⟨rfl, c1, c2, c3⟩
  have d0 : σ2.2 x = _ := (c3 x (by omega)).trans ((rv_up_n (by dsimp only; omega)).trans rv_up_s)
  have dq : ∀ q, (x < q ∧ q < x + 5) ∨ q < x ∨ x + 374 ≤ q → σ2.2 q = g1 q := fun q hq => (c3 q (by omega)).trans ((rv_up_n (by dsimp only; omega)).trans (rv_up_n (by omega)))
  clear c3
  obtain ⟨n2, g2⟩ := σ2
  dsimp only at c1 c2 d0 dq
  subst c1
  refine Exists.intro _ (And.intro d0 (And.intro trivial ?_))
  refine And.intro (by decide) (And.intro (by decide) ?_)
  refine ⟨_, _, _, ct_Join_init (x + 367) rv_up_s, by decide, by decide, rfl, ?_⟩
  rintro _ _ ⟨rfl, rfl⟩
  rw [rv_up_up]
  refine Exists.intro _ (And.intro ((rv_up_n (by omega)).trans rv_up_s) (And.intro trivial ?_))
  refine And.intro (by decide) (And.intro (by decide) ?_)
  refine ⟨_, _, _, ct_Ring_init (x + 368) 400 9 rv_up_s (Nat.lt_succ_self _) (by decide) (by decide), by decide, by decide, rfl, ?_⟩
  rintro _ σ3 ⟨rfl, ⟨e1, e2⟩, e3, e4⟩
  have f0 : σ3.2 x = _ := (e2 x (by omega) (Or.inl (by dsimp only; omega))).trans ((rv_up_n (by omega)).trans rv_up_s)
  have f1 : σ3.2 (x + 367) = some (oJoin 0 0 0 0 false) := (e2 _ (by omega) (Or.inl (by dsimp only; omega))).trans ((rv_up_n (by omega)).trans ((rv_up_n (by omega)).trans rv_up_s))
  have fq : ∀ q, (x < q ∧ q < x + 367) ∨ q < x ∨ x + 374 ≤ q → σ3.2 q = g2 q := fun q hq => (e2 q (by omega) (by dsimp only; omega)).trans ((rv_up_n (by omega)).trans ((rv_up_n (by omega)).trans ((rv_up_n (by omega)).trans (rv_up_n (by omega)))))
  clear e2
  obtain ⟨n3, g3⟩ := σ3
  dsimp only at e1 e3 e4 f0 f1 fq
  subst e1
  refine Exists.intro _ (And.intro f0 (And.intro trivial ?_))
  refine Exists.intro _ (And.intro rv_up_s (And.intro trivial ?_))
  rw [rv_up_up]
  refine And.intro (by decide) (And.intro (by decide) ?_)
  refine ⟨_, _, _, ct_Ring_init (x + 370) 100 5 rv_up_s (Nat.lt_succ_self _) (by decide) (by decide), by decide, by decide, rfl, ?_⟩
  rintro _ σ4 ⟨rfl, ⟨h1, h2⟩, h3, h4⟩
  have i0 : σ4.2 x = _ := (h2 x (by omega) (Or.inl (by dsimp only; omega))).trans ((rv_up_n (by omega)).trans rv_up_s)
  have iq : ∀ q, (x < q ∧ q < x + 370) ∨ q < x ∨ x + 374 ≤ q → σ4.2 q = g3 q := fun q hq => (h2 q (by omega) (by dsimp only; omega)).trans ((rv_up_n (by omega)).trans (rv_up_n (by omega)))
  clear h2
  obtain ⟨n4, g4⟩ := σ4
  dsimp only at h1 h3 h4 i0 iq
  subst h1
  refine Exists.intro _ (And.intro i0 (And.intro trivial ?_))
  refine Exists.intro _ (And.intro rv_up_s (And.intro trivial ?_))
  rw [rv_up_up]
  refine Exists.intro _ (And.intro rv_up_s (And.intro trivial ?_))
  rw [rv_up_up]
  refine Exists.intro _ (And.intro rv_up_s (And.intro trivial ?_))
  rw [rv_up_up]
  refine And.intro (by decide) (And.intro (by decide) ?_)
  refine ⟨_, _, _, ct_OnePass_init (x + 372) rv_up_s (Nat.lt_succ_self _), by decide, by decide, rfl, ?_⟩
  rintro _ σ5 ⟨rfl, ⟨j1, j2⟩, j3, j4⟩
  have k0 : σ5.2 x = _ := (j2 x (by omega) (Or.inl (by dsimp only; omega))).trans ((rv_up_n (by omega)).trans rv_up_s)
  have kq : ∀ q, (x < q ∧ q < x + 372) ∨ q < x ∨ x + 374 ≤ q → σ5.2 q = g4 q := fun q hq => (j2 q (by omega) (by dsimp only; omega)).trans ((rv_up_n (by omega)).trans (rv_up_n (by omega)))
  clear j2
  obtain ⟨n5, g5⟩ := σ5
  dsimp only at j1 j3 j4 k0 kq
  subst j1
  refine Exists.intro _ (And.intro k0 (And.intro trivial ?_))
  have all : ∀ q, (x < q ∧ q < x + 5) → (rv_up g5 x (oLate x 0 0 0 100 0 0)) q = g1 q := fun q hq => (rv_up_n (by omega)).trans ((kq q (by omega)).trans ((iq q (by omega)).trans ((fq q (by omega)).trans (dq q (by omega)))))
  have far : ∀ q, q < x ∨ x + 374 ≤ q → (rv_up g5 x (oLate x 0 0 0 100 0 0)) q = g q := fun q hq => (rv_up_n (by omega)).trans ((kq q (by omega)).trans ((iq q (by omega)).trans ((fq q (by omega)).trans ((dq q (by omega)).trans (b9 q hq)))))
  refine ⟨rfl, rfl, ⟨rv_up_s, (all _ (by omega)).trans b1, (all _ (by omega)).trans b2, ⟨(all _ (by omega)).trans a3, (all _ (by omega)).trans a4⟩, ?_, ?_, ⟨?_, ?_⟩, ⟨?_, ?_⟩, ?_, ?_⟩, far⟩
  · exact c2.kept (fun q hq1 hq2 => (rv_up_n (by omega)).trans ((kq q (by omega)).trans ((iq q (by omega)).trans (fq q (by omega)))))
  · exact (rv_up_n (by omega)).trans ((kq _ (by omega)).trans ((iq _ (by omega)).trans f1))
  · exact (rv_up_n (by omega)).trans ((kq _ (by omega)).trans ((iq _ (by omega)).trans e3))
  · exact (rv_up_n (by omega)).trans ((kq _ (by omega)).trans ((iq _ (by omega)).trans e4))
  · exact (rv_up_n (by omega)).trans ((kq _ (by omega)).trans h3)
  · exact (rv_up_n (by omega)).trans ((kq _ (by omega)).trans h4)
  · exact (rv_up_n (by omega)).trans j3
  · exact (rv_up_n (by omega)).trans j4
end
