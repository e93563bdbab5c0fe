section
/-- a private method of a class that the tables say can be made, by its rows of tables_1 -/
def lw_okq (q : MethodName × Nat) : Prop := (q.1.cls ≠ "java/lang/invoke/MethodHandle" ∧ q.1.cls ≠ "java/lang/invoke/VarHandle") ∧ Cond.instantiable q.1.cls q.2 ∈ tables_1 ∧ Cond.privateMethod q.1 ∈ tables_1 ∧ Cond.instanceMethod q.1 ∈ tables_1
theorem lw_p0 : lw_okq (⟨"FallingCalls$Teller", "step", "()V"⟩, 6) := ⟨⟨by decide +kernel, by decide +kernel⟩, List.mem_of_getElem? (i := 23) (by decide +kernel), List.mem_of_getElem? (i := 206) (by decide +kernel), List.mem_of_getElem? (i := 207) (by decide +kernel)⟩
theorem lw_p1 : lw_okq (⟨"FallingCalls$Teller", "refuse", "(I)V"⟩, 6) := ⟨⟨by decide +kernel, by decide +kernel⟩, List.mem_of_getElem? (i := 23) (by decide +kernel), List.mem_of_getElem? (i := 213) (by decide +kernel), List.mem_of_getElem? (i := 214) (by decide +kernel)⟩
theorem lw_p2 : lw_okq (⟨"FallingCalls$Teller", "isName", "(Ljava/lang/String;)Z"⟩, 6) := ⟨⟨by decide +kernel, by decide +kernel⟩, List.mem_of_getElem? (i := 23) (by decide +kernel), List.mem_of_getElem? (i := 218) (by decide +kernel), List.mem_of_getElem? (i := 219) (by decide +kernel)⟩
theorem lw_p3 : lw_okq (⟨"FallingCalls$Teller", "tellFunction", "(LFallingCalls$Program;)V"⟩, 6) := ⟨⟨by decide +kernel, by decide +kernel⟩, List.mem_of_getElem? (i := 23) (by decide +kernel), List.mem_of_getElem? (i := 270) (by decide +kernel), List.mem_of_getElem? (i := 271) (by decide +kernel)⟩
theorem lw_p4 : lw_okq (⟨"FallingCalls$Teller", "takeNumber", "(II)I"⟩, 6) := ⟨⟨by decide +kernel, by decide +kernel⟩, List.mem_of_getElem? (i := 23) (by decide +kernel), List.mem_of_getElem? (i := 274) (by decide +kernel), List.mem_of_getElem? (i := 275) (by decide +kernel)⟩
theorem lw_p5 : lw_okq (⟨"FallingCalls$Teller", "numberRead", "()I"⟩, 6) := ⟨⟨by decide +kernel, by decide +kernel⟩, List.mem_of_getElem? (i := 23) (by decide +kernel), List.mem_of_getElem? (i := 278) (by decide +kernel), List.mem_of_getElem? (i := 279) (by decide +kernel)⟩
theorem lw_p6 : lw_okq (⟨"FallingCalls$Teller", "takeLineEnd", "()V"⟩, 6) := ⟨⟨by decide +kernel, by decide +kernel⟩, List.mem_of_getElem? (i := 23) (by decide +kernel), List.mem_of_getElem? (i := 282) (by decide +kernel), List.mem_of_getElem? (i := 283) (by decide +kernel)⟩
theorem lw_p7 : lw_okq (⟨"FallingCalls$Teller", "isSign", "(C)Z"⟩, 6) := ⟨⟨by decide +kernel, by decide +kernel⟩, List.mem_of_getElem? (i := 23) (by decide +kernel), List.mem_of_getElem? (i := 286) (by decide +kernel), List.mem_of_getElem? (i := 287) (by decide +kernel)⟩
theorem lw_p8 : lw_okq (⟨"FallingCalls$Teller", "tellCall", "(LFallingCalls$Program;)V"⟩, 6) := ⟨⟨by decide +kernel, by decide +kernel⟩, List.mem_of_getElem? (i := 23) (by decide +kernel), List.mem_of_getElem? (i := 295) (by decide +kernel), List.mem_of_getElem? (i := 296) (by decide +kernel)⟩
theorem lw_p9 : lw_okq (⟨"FallingCalls$Teller", "takeArgument", "(I)I"⟩, 6) := ⟨⟨by decide +kernel, by decide +kernel⟩, List.mem_of_getElem? (i := 23) (by decide +kernel), List.mem_of_getElem? (i := 307) (by decide +kernel), List.mem_of_getElem? (i := 308) (by decide +kernel)⟩
theorem lw_p10 : lw_okq (⟨"FallingCalls$Teller", "takeValue", "(I)I"⟩, 6) := ⟨⟨by decide +kernel, by decide +kernel⟩, List.mem_of_getElem? (i := 23) (by decide +kernel), List.mem_of_getElem? (i := 314) (by decide +kernel), List.mem_of_getElem? (i := 315) (by decide +kernel)⟩
theorem lw_p11 : lw_okq (⟨"FallingCalls", "fresh", "()LFallingCalls$Graphs;"⟩, 9) := ⟨⟨by decide +kernel, by decide +kernel⟩, List.mem_of_getElem? (i := 15) (by decide +kernel), List.mem_of_getElem? (i := 339) (by decide +kernel), List.mem_of_getElem? (i := 340) (by decide +kernel)⟩
theorem lw_p12 : lw_okq (⟨"FallingCalls$Graphs", "forget", "()V"⟩, 11) := ⟨⟨by decide +kernel, by decide +kernel⟩, List.mem_of_getElem? (i := 90) (by decide +kernel), List.mem_of_getElem? (i := 347) (by decide +kernel), List.mem_of_getElem? (i := 348) (by decide +kernel)⟩
theorem lw_p13 : lw_okq (⟨"FallingCalls$Graphs", "meet", "(IIIII)I"⟩, 11) := ⟨⟨by decide +kernel, by decide +kernel⟩, List.mem_of_getElem? (i := 90) (by decide +kernel), List.mem_of_getElem? (i := 375) (by decide +kernel), List.mem_of_getElem? (i := 376) (by decide +kernel)⟩
theorem lw_p14 : lw_okq (⟨"FallingCalls$Graphs", "firstOfComponent", "(I)I"⟩, 11) := ⟨⟨by decide +kernel, by decide +kernel⟩, List.mem_of_getElem? (i := 90) (by decide +kernel), List.mem_of_getElem? (i := 420) (by decide +kernel), List.mem_of_getElem? (i := 421) (by decide +kernel)⟩
theorem lw_p15 : lw_okq (⟨"FallingCalls$Graphs", "isTogether", "(II)Z"⟩, 11) := ⟨⟨by decide +kernel, by decide +kernel⟩, List.mem_of_getElem? (i := 90) (by decide +kernel), List.mem_of_getElem? (i := 424) (by decide +kernel), List.mem_of_getElem? (i := 425) (by decide +kernel)⟩
def lw_privs_1 : List (MethodName × Nat) := [(⟨"FallingCalls$Teller", "step", "()V"⟩, 6), (⟨"FallingCalls$Teller", "refuse", "(I)V"⟩, 6), (⟨"FallingCalls$Teller", "isName", "(Ljava/lang/String;)Z"⟩, 6), (⟨"FallingCalls$Teller", "tellFunction", "(LFallingCalls$Program;)V"⟩, 6), (⟨"FallingCalls$Teller", "takeNumber", "(II)I"⟩, 6), (⟨"FallingCalls$Teller", "numberRead", "()I"⟩, 6), (⟨"FallingCalls$Teller", "takeLineEnd", "()V"⟩, 6), (⟨"FallingCalls$Teller", "isSign", "(C)Z"⟩, 6), (⟨"FallingCalls$Teller", "tellCall", "(LFallingCalls$Program;)V"⟩, 6), (⟨"FallingCalls$Teller", "takeArgument", "(I)I"⟩, 6), (⟨"FallingCalls$Teller", "takeValue", "(I)I"⟩, 6), (⟨"FallingCalls", "fresh", "()LFallingCalls$Graphs;"⟩, 9), (⟨"FallingCalls$Graphs", "forget", "()V"⟩, 11), (⟨"FallingCalls$Graphs", "meet", "(IIIII)I"⟩, 11), (⟨"FallingCalls$Graphs", "firstOfComponent", "(I)I"⟩, 11), (⟨"FallingCalls$Graphs", "isTogether", "(II)Z"⟩, 11)]
theorem lw_r1 : ∀ q ∈ lw_privs_1, lw_okq q := List.forall_mem_cons.mpr ⟨lw_p0, List.forall_mem_cons.mpr ⟨lw_p1, List.forall_mem_cons.mpr ⟨lw_p2, List.forall_mem_cons.mpr ⟨lw_p3, List.forall_mem_cons.mpr ⟨lw_p4, List.forall_mem_cons.mpr ⟨lw_p5, List.forall_mem_cons.mpr ⟨lw_p6, List.forall_mem_cons.mpr ⟨lw_p7, List.forall_mem_cons.mpr ⟨lw_p8, List.forall_mem_cons.mpr ⟨lw_p9, List.forall_mem_cons.mpr ⟨lw_p10, List.forall_mem_cons.mpr ⟨lw_p11, List.forall_mem_cons.mpr ⟨lw_p12, List.forall_mem_cons.mpr ⟨lw_p13, List.forall_mem_cons.mpr ⟨lw_p14, List.forall_mem_cons.mpr ⟨lw_p15, fun _ h => absurd h List.not_mem_nil⟩⟩⟩⟩⟩⟩⟩⟩⟩⟩⟩⟩⟩⟩⟩⟩
theorem lw_p16 : lw_okq (⟨"FallingCalls", "trialEnds", "()Z"⟩, 9) := ⟨⟨by decide +kernel, by decide +kernel⟩, List.mem_of_getElem? (i := 15) (by decide +kernel), List.mem_of_getElem? (i := 559) (by decide +kernel), List.mem_of_getElem? (i := 560) (by decide +kernel)⟩
theorem lw_p17 : lw_okq (⟨"FallingCallsModel", "reads", "()V"⟩, 28) := ⟨⟨by decide +kernel, by decide +kernel⟩, List.mem_of_getElem? (i := 662) (by decide +kernel), List.mem_of_getElem? (i := 769) (by decide +kernel), List.mem_of_getElem? (i := 770) (by decide +kernel)⟩
theorem lw_p18 : lw_okq (⟨"FallingCallsModel", "byteAt", "(I)I"⟩, 28) := ⟨⟨by decide +kernel, by decide +kernel⟩, List.mem_of_getElem? (i := 662) (by decide +kernel), List.mem_of_getElem? (i := 773) (by decide +kernel), List.mem_of_getElem? (i := 774) (by decide +kernel)⟩
theorem lw_p19 : lw_okq (⟨"FallingCallsModel", "requires", "(ZI)V"⟩, 28) := ⟨⟨by decide +kernel, by decide +kernel⟩, List.mem_of_getElem? (i := 662) (by decide +kernel), List.mem_of_getElem? (i := 781) (by decide +kernel), List.mem_of_getElem? (i := 782) (by decide +kernel)⟩
theorem lw_p20 : lw_okq (⟨"FallingCallsModel", "readLine", "()V"⟩, 28) := ⟨⟨by decide +kernel, by decide +kernel⟩, List.mem_of_getElem? (i := 662) (by decide +kernel), List.mem_of_getElem? (i := 788) (by decide +kernel), List.mem_of_getElem? (i := 789) (by decide +kernel)⟩
theorem lw_p21 : lw_okq (⟨"FallingCallsModel", "wordNow", "()I"⟩, 28) := ⟨⟨by decide +kernel, by decide +kernel⟩, List.mem_of_getElem? (i := 662) (by decide +kernel), List.mem_of_getElem? (i := 792) (by decide +kernel), List.mem_of_getElem? (i := 793) (by decide +kernel)⟩
theorem lw_p22 : lw_okq (⟨"FallingCallsModel", "readNumber", "(II)I"⟩, 28) := ⟨⟨by decide +kernel, by decide +kernel⟩, List.mem_of_getElem? (i := 662) (by decide +kernel), List.mem_of_getElem? (i := 796) (by decide +kernel), List.mem_of_getElem? (i := 797) (by decide +kernel)⟩
theorem lw_p23 : lw_okq (⟨"FallingCallsModel", "readCall", "()V"⟩, 28) := ⟨⟨by decide +kernel, by decide +kernel⟩, List.mem_of_getElem? (i := 662) (by decide +kernel), List.mem_of_getElem? (i := 800) (by decide +kernel), List.mem_of_getElem? (i := 801) (by decide +kernel)⟩
theorem lw_p24 : lw_okq (⟨"FallingCallsModel", "readArgument", "(II)V"⟩, 28) := ⟨⟨by decide +kernel, by decide +kernel⟩, List.mem_of_getElem? (i := 662) (by decide +kernel), List.mem_of_getElem? (i := 804) (by decide +kernel), List.mem_of_getElem? (i := 805) (by decide +kernel)⟩
theorem lw_p25 : lw_okq (⟨"FallingCallsModel", "readValue", "(I)I"⟩, 28) := ⟨⟨by decide +kernel, by decide +kernel⟩, List.mem_of_getElem? (i := 662) (by decide +kernel), List.mem_of_getElem? (i := 808) (by decide +kernel), List.mem_of_getElem? (i := 809) (by decide +kernel)⟩
theorem lw_p26 : lw_okq (⟨"FallingCallsModel", "findGraphs", "()V"⟩, 28) := ⟨⟨by decide +kernel, by decide +kernel⟩, List.mem_of_getElem? (i := 662) (by decide +kernel), List.mem_of_getElem? (i := 820) (by decide +kernel), List.mem_of_getElem? (i := 821) (by decide +kernel)⟩
theorem lw_p27 : lw_okq (⟨"FallingCallsModel", "of", "(II)I"⟩, 28) := ⟨⟨by decide +kernel, by decide +kernel⟩, List.mem_of_getElem? (i := 662) (by decide +kernel), List.mem_of_getElem? (i := 824) (by decide +kernel), List.mem_of_getElem? (i := 825) (by decide +kernel)⟩
theorem lw_p28 : lw_okq (⟨"FallingCallsModel", "codeOf", "(I)I"⟩, 28) := ⟨⟨by decide +kernel, by decide +kernel⟩, List.mem_of_getElem? (i := 662) (by decide +kernel), List.mem_of_getElem? (i := 828) (by decide +kernel), List.mem_of_getElem? (i := 829) (by decide +kernel)⟩
theorem lw_p29 : lw_okq (⟨"FallingCallsModel", "relationOf", "(III)I"⟩, 28) := ⟨⟨by decide +kernel, by decide +kernel⟩, List.mem_of_getElem? (i := 662) (by decide +kernel), List.mem_of_getElem? (i := 835) (by decide +kernel), List.mem_of_getElem? (i := 836) (by decide +kernel)⟩
theorem lw_p30 : lw_okq (⟨"FallingCallsModel", "ofArgument", "(III)I"⟩, 28) := ⟨⟨by decide +kernel, by decide +kernel⟩, List.mem_of_getElem? (i := 662) (by decide +kernel), List.mem_of_getElem? (i := 839) (by decide +kernel), List.mem_of_getElem? (i := 840) (by decide +kernel)⟩
theorem lw_p31 : lw_okq (⟨"FallingCallsModel", "comes", "(IIIII)V"⟩, 28) := ⟨⟨by decide +kernel, by decide +kernel⟩, List.mem_of_getElem? (i := 662) (by decide +kernel), List.mem_of_getElem? (i := 843) (by decide +kernel), List.mem_of_getElem? (i := 844) (by decide +kernel)⟩
def lw_privs_2 : List (MethodName × Nat) := [(⟨"FallingCalls", "trialEnds", "()Z"⟩, 9), (⟨"FallingCallsModel", "reads", "()V"⟩, 28), (⟨"FallingCallsModel", "byteAt", "(I)I"⟩, 28), (⟨"FallingCallsModel", "requires", "(ZI)V"⟩, 28), (⟨"FallingCallsModel", "readLine", "()V"⟩, 28), (⟨"FallingCallsModel", "wordNow", "()I"⟩, 28), (⟨"FallingCallsModel", "readNumber", "(II)I"⟩, 28), (⟨"FallingCallsModel", "readCall", "()V"⟩, 28), (⟨"FallingCallsModel", "readArgument", "(II)V"⟩, 28), (⟨"FallingCallsModel", "readValue", "(I)I"⟩, 28), (⟨"FallingCallsModel", "findGraphs", "()V"⟩, 28), (⟨"FallingCallsModel", "of", "(II)I"⟩, 28), (⟨"FallingCallsModel", "codeOf", "(I)I"⟩, 28), (⟨"FallingCallsModel", "relationOf", "(III)I"⟩, 28), (⟨"FallingCallsModel", "ofArgument", "(III)I"⟩, 28), (⟨"FallingCallsModel", "comes", "(IIIII)V"⟩, 28)]
theorem lw_r2 : ∀ q ∈ lw_privs_2, lw_okq q := List.forall_mem_cons.mpr ⟨lw_p16, List.forall_mem_cons.mpr ⟨lw_p17, List.forall_mem_cons.mpr ⟨lw_p18, List.forall_mem_cons.mpr ⟨lw_p19, List.forall_mem_cons.mpr ⟨lw_p20, List.forall_mem_cons.mpr ⟨lw_p21, List.forall_mem_cons.mpr ⟨lw_p22, List.forall_mem_cons.mpr ⟨lw_p23, List.forall_mem_cons.mpr ⟨lw_p24, List.forall_mem_cons.mpr ⟨lw_p25, List.forall_mem_cons.mpr ⟨lw_p26, List.forall_mem_cons.mpr ⟨lw_p27, List.forall_mem_cons.mpr ⟨lw_p28, List.forall_mem_cons.mpr ⟨lw_p29, List.forall_mem_cons.mpr ⟨lw_p30, List.forall_mem_cons.mpr ⟨lw_p31, fun _ h => absurd h List.not_mem_nil⟩⟩⟩⟩⟩⟩⟩⟩⟩⟩⟩⟩⟩⟩⟩⟩
theorem lw_p32 : lw_okq (⟨"FallingCallsModel", "graphsThat", "(I)I"⟩, 28) := ⟨⟨by decide +kernel, by decide +kernel⟩, List.mem_of_getElem? (i := 662) (by decide +kernel), List.mem_of_getElem? (i := 856) (by decide +kernel), List.mem_of_getElem? (i := 857) (by decide +kernel)⟩
theorem lw_p33 : lw_okq (⟨"FallingCallsModel", "isIdle", "(I)Z"⟩, 28) := ⟨⟨by decide +kernel, by decide +kernel⟩, List.mem_of_getElem? (i := 662) (by decide +kernel), List.mem_of_getElem? (i := 860) (by decide +kernel), List.mem_of_getElem? (i := 861) (by decide +kernel)⟩
theorem lw_p34 : lw_okq (⟨"FallingCallsModel", "isLoop", "(I)Z"⟩, 28) := ⟨⟨by decide +kernel, by decide +kernel⟩, List.mem_of_getElem? (i := 662) (by decide +kernel), List.mem_of_getElem? (i := 864) (by decide +kernel), List.mem_of_getElem? (i := 865) (by decide +kernel)⟩
theorem lw_p35 : lw_okq (⟨"FallingCallsModel", "fallsOf", "(I)I"⟩, 28) := ⟨⟨by decide +kernel, by decide +kernel⟩, List.mem_of_getElem? (i := 662) (by decide +kernel), List.mem_of_getElem? (i := 868) (by decide +kernel), List.mem_of_getElem? (i := 869) (by decide +kernel)⟩
theorem lw_p36 : lw_okq (⟨"FallingCallsModel", "isNeedless", "(I)Z"⟩, 28) := ⟨⟨by decide +kernel, by decide +kernel⟩, List.mem_of_getElem? (i := 662) (by decide +kernel), List.mem_of_getElem? (i := 875) (by decide +kernel), List.mem_of_getElem? (i := 876) (by decide +kernel)⟩
theorem lw_p37 : lw_okq (⟨"FallingCallsModel", "allEnd", "()Z"⟩, 28) := ⟨⟨by decide +kernel, by decide +kernel⟩, List.mem_of_getElem? (i := 662) (by decide +kernel), List.mem_of_getElem? (i := 882) (by decide +kernel), List.mem_of_getElem? (i := 883) (by decide +kernel)⟩
theorem lw_p38 : lw_okq (⟨"FallingCallsModel", "components", "()I"⟩, 28) := ⟨⟨by decide +kernel, by decide +kernel⟩, List.mem_of_getElem? (i := 662) (by decide +kernel), List.mem_of_getElem? (i := 886) (by decide +kernel), List.mem_of_getElem? (i := 887) (by decide +kernel)⟩
theorem lw_p39 : lw_okq (⟨"FallingCallsModel", "componentOf", "(I)I"⟩, 28) := ⟨⟨by decide +kernel, by decide +kernel⟩, List.mem_of_getElem? (i := 662) (by decide +kernel), List.mem_of_getElem? (i := 890) (by decide +kernel), List.mem_of_getElem? (i := 891) (by decide +kernel)⟩
theorem lw_p40 : lw_okq (⟨"FallingCallsModel", "reachOf", "(I)I"⟩, 28) := ⟨⟨by decide +kernel, by decide +kernel⟩, List.mem_of_getElem? (i := 662) (by decide +kernel), List.mem_of_getElem? (i := 894) (by decide +kernel), List.mem_of_getElem? (i := 895) (by decide +kernel)⟩
theorem lw_p41 : lw_okq (⟨"FallingCallsModel", "isFun", "(I)Z"⟩, 28) := ⟨⟨by decide +kernel, by decide +kernel⟩, List.mem_of_getElem? (i := 662) (by decide +kernel), List.mem_of_getElem? (i := 902) (by decide +kernel), List.mem_of_getElem? (i := 903) (by decide +kernel)⟩
theorem lw_p42 : lw_okq (⟨"FallingCallsModel", "callsFrom", "(I)I"⟩, 28) := ⟨⟨by decide +kernel, by decide +kernel⟩, List.mem_of_getElem? (i := 662) (by decide +kernel), List.mem_of_getElem? (i := 906) (by decide +kernel), List.mem_of_getElem? (i := 907) (by decide +kernel)⟩
theorem lw_p43 : lw_okq (⟨"FallingCallsModel", "componentNumber", "(I)I"⟩, 28) := ⟨⟨by decide +kernel, by decide +kernel⟩, List.mem_of_getElem? (i := 662) (by decide +kernel), List.mem_of_getElem? (i := 910) (by decide +kernel), List.mem_of_getElem? (i := 911) (by decide +kernel)⟩
theorem lw_p44 : lw_okq (⟨"FallingCallsModel", "loopOf", "(I)I"⟩, 28) := ⟨⟨by decide +kernel, by decide +kernel⟩, List.mem_of_getElem? (i := 662) (by decide +kernel), List.mem_of_getElem? (i := 914) (by decide +kernel), List.mem_of_getElem? (i := 915) (by decide +kernel)⟩
theorem lw_p45 : lw_okq (⟨"FallingCallsModel", "isCall", "(I)Z"⟩, 28) := ⟨⟨by decide +kernel, by decide +kernel⟩, List.mem_of_getElem? (i := 662) (by decide +kernel), List.mem_of_getElem? (i := 922) (by decide +kernel), List.mem_of_getElem? (i := 923) (by decide +kernel)⟩
theorem lw_p46 : lw_okq (⟨"FallingCallsModel", "isArgument", "(II)Z"⟩, 28) := ⟨⟨by decide +kernel, by decide +kernel⟩, List.mem_of_getElem? (i := 662) (by decide +kernel), List.mem_of_getElem? (i := 931) (by decide +kernel), List.mem_of_getElem? (i := 932) (by decide +kernel)⟩
theorem lw_p47 : lw_okq (⟨"FallingCallsModel", "isGraph", "(I)Z"⟩, 28) := ⟨⟨by decide +kernel, by decide +kernel⟩, List.mem_of_getElem? (i := 662) (by decide +kernel), List.mem_of_getElem? (i := 940) (by decide +kernel), List.mem_of_getElem? (i := 941) (by decide +kernel)⟩
def lw_privs_3 : List (MethodName × Nat) := [(⟨"FallingCallsModel", "graphsThat", "(I)I"⟩, 28), (⟨"FallingCallsModel", "isIdle", "(I)Z"⟩, 28), (⟨"FallingCallsModel", "isLoop", "(I)Z"⟩, 28), (⟨"FallingCallsModel", "fallsOf", "(I)I"⟩, 28), (⟨"FallingCallsModel", "isNeedless", "(I)Z"⟩, 28), (⟨"FallingCallsModel", "allEnd", "()Z"⟩, 28), (⟨"FallingCallsModel", "components", "()I"⟩, 28), (⟨"FallingCallsModel", "componentOf", "(I)I"⟩, 28), (⟨"FallingCallsModel", "reachOf", "(I)I"⟩, 28), (⟨"FallingCallsModel", "isFun", "(I)Z"⟩, 28), (⟨"FallingCallsModel", "callsFrom", "(I)I"⟩, 28), (⟨"FallingCallsModel", "componentNumber", "(I)I"⟩, 28), (⟨"FallingCallsModel", "loopOf", "(I)I"⟩, 28), (⟨"FallingCallsModel", "isCall", "(I)Z"⟩, 28), (⟨"FallingCallsModel", "isArgument", "(II)Z"⟩, 28), (⟨"FallingCallsModel", "isGraph", "(I)Z"⟩, 28)]
theorem lw_r3 : ∀ q ∈ lw_privs_3, lw_okq q := List.forall_mem_cons.mpr ⟨lw_p32, List.forall_mem_cons.mpr ⟨lw_p33, List.forall_mem_cons.mpr ⟨lw_p34, List.forall_mem_cons.mpr ⟨lw_p35, List.forall_mem_cons.mpr ⟨lw_p36, List.forall_mem_cons.mpr ⟨lw_p37, List.forall_mem_cons.mpr ⟨lw_p38, List.forall_mem_cons.mpr ⟨lw_p39, List.forall_mem_cons.mpr ⟨lw_p40, List.forall_mem_cons.mpr ⟨lw_p41, List.forall_mem_cons.mpr ⟨lw_p42, List.forall_mem_cons.mpr ⟨lw_p43, List.forall_mem_cons.mpr ⟨lw_p44, List.forall_mem_cons.mpr ⟨lw_p45, List.forall_mem_cons.mpr ⟨lw_p46, List.forall_mem_cons.mpr ⟨lw_p47, fun _ h => absurd h List.not_mem_nil⟩⟩⟩⟩⟩⟩⟩⟩⟩⟩⟩⟩⟩⟩⟩⟩
theorem lw_p48 : lw_okq (⟨"FallingCallsModel", "toldOf", "(II)I"⟩, 28) := ⟨⟨by decide +kernel, by decide +kernel⟩, List.mem_of_getElem? (i := 662) (by decide +kernel), List.mem_of_getElem? (i := 981) (by decide +kernel), List.mem_of_getElem? (i := 982) (by decide +kernel)⟩
theorem lw_p49 : lw_okq (⟨"FallingCallsModel", "argumentBecomes", "(III)V"⟩, 28) := ⟨⟨by decide +kernel, by decide +kernel⟩, List.mem_of_getElem? (i := 662) (by decide +kernel), List.mem_of_getElem? (i := 985) (by decide +kernel), List.mem_of_getElem? (i := 986) (by decide +kernel)⟩
theorem lw_p50 : lw_okq (⟨"FallingCallsModel", "endsIf", "(III)Z"⟩, 28) := ⟨⟨by decide +kernel, by decide +kernel⟩, List.mem_of_getElem? (i := 662) (by decide +kernel), List.mem_of_getElem? (i := 997) (by decide +kernel), List.mem_of_getElem? (i := 998) (by decide +kernel)⟩
theorem lw_p51 : lw_okq (⟨"FallingCallsModel", "madeMany", "(I)I"⟩, 28) := ⟨⟨by decide +kernel, by decide +kernel⟩, List.mem_of_getElem? (i := 662) (by decide +kernel), List.mem_of_getElem? (i := 1010) (by decide +kernel), List.mem_of_getElem? (i := 1011) (by decide +kernel)⟩
theorem lw_p52 : lw_okq (⟨"FallingCallsModel", "isMade", "(I)Z"⟩, 28) := ⟨⟨by decide +kernel, by decide +kernel⟩, List.mem_of_getElem? (i := 662) (by decide +kernel), List.mem_of_getElem? (i := 1014) (by decide +kernel), List.mem_of_getElem? (i := 1015) (by decide +kernel)⟩
theorem lw_p53 : lw_okq (⟨"FallingCallsModel", "madeAt", "(II)I"⟩, 28) := ⟨⟨by decide +kernel, by decide +kernel⟩, List.mem_of_getElem? (i := 662) (by decide +kernel), List.mem_of_getElem? (i := 1019) (by decide +kernel), List.mem_of_getElem? (i := 1020) (by decide +kernel)⟩
theorem lw_p54 : lw_okq (⟨"FallingCallsModel", "argumentNow", "(II)I"⟩, 28) := ⟨⟨by decide +kernel, by decide +kernel⟩, List.mem_of_getElem? (i := 662) (by decide +kernel), List.mem_of_getElem? (i := 1023) (by decide +kernel), List.mem_of_getElem? (i := 1024) (by decide +kernel)⟩
theorem lw_p55 : lw_okq (⟨"FallingCallsModel", "plainArguments", "()I"⟩, 28) := ⟨⟨by decide +kernel, by decide +kernel⟩, List.mem_of_getElem? (i := 662) (by decide +kernel), List.mem_of_getElem? (i := 1060) (by decide +kernel), List.mem_of_getElem? (i := 1061) (by decide +kernel)⟩
theorem lw_p56 : lw_okq (⟨"FallingCallsModel", "codesOfAll", "()I"⟩, 28) := ⟨⟨by decide +kernel, by decide +kernel⟩, List.mem_of_getElem? (i := 662) (by decide +kernel), List.mem_of_getElem? (i := 1064) (by decide +kernel), List.mem_of_getElem? (i := 1065) (by decide +kernel)⟩
def lw_privs_4 : List (MethodName × Nat) := [(⟨"FallingCallsModel", "toldOf", "(II)I"⟩, 28), (⟨"FallingCallsModel", "argumentBecomes", "(III)V"⟩, 28), (⟨"FallingCallsModel", "endsIf", "(III)Z"⟩, 28), (⟨"FallingCallsModel", "madeMany", "(I)I"⟩, 28), (⟨"FallingCallsModel", "isMade", "(I)Z"⟩, 28), (⟨"FallingCallsModel", "madeAt", "(II)I"⟩, 28), (⟨"FallingCallsModel", "argumentNow", "(II)I"⟩, 28), (⟨"FallingCallsModel", "plainArguments", "()I"⟩, 28), (⟨"FallingCallsModel", "codesOfAll", "()I"⟩, 28)]
theorem lw_r4 : ∀ q ∈ lw_privs_4, lw_okq q := List.forall_mem_cons.mpr ⟨lw_p48, List.forall_mem_cons.mpr ⟨lw_p49, List.forall_mem_cons.mpr ⟨lw_p50, List.forall_mem_cons.mpr ⟨lw_p51, List.forall_mem_cons.mpr ⟨lw_p52, List.forall_mem_cons.mpr ⟨lw_p53, List.forall_mem_cons.mpr ⟨lw_p54, List.forall_mem_cons.mpr ⟨lw_p55, List.forall_mem_cons.mpr ⟨lw_p56, fun _ h => absurd h List.not_mem_nil⟩⟩⟩⟩⟩⟩⟩⟩⟩
def lw_privs : List (MethodName × Nat) := lw_privs_1 ++ (lw_privs_2 ++ (lw_privs_3 ++ (lw_privs_4)))
def lw_tbl : List Cond := k2_sels lw_privs ++ tables_1
theorem lw_privs_ok : ∀ q ∈ lw_privs, lw_okq q := by
  show ∀ q ∈ lw_privs_1 ++ (lw_privs_2 ++ (lw_privs_3 ++ (lw_privs_4))), lw_okq q
  exact List.forall_mem_append.mpr ⟨lw_r1, List.forall_mem_append.mpr ⟨lw_r2, List.forall_mem_append.mpr ⟨lw_r3, lw_r4⟩⟩⟩
end
section
def RX0 : String := "FallingCalls$Graphs"
def TX0 : u_T := fun k => match k with
  | 0 => ("FallingCalls$Graphs", "bits", "[I", true)
  | 1 => ("FallingCalls$Graphs", "wordLength", "[I", true)
  | 2 => ("FallingCalls$Graphs", "ofCall", "[I", true)
  | 3 => ("FallingCalls$Graphs", "comesTo", "[I", true)
  | 4 => ("FallingCalls$Graphs", "size", "I", false)
  | 5 => ("FallingCalls$Graphs", "loopCount", "I", false)
  | 6 => ("FallingCalls$Graphs", "ends", "[I", true)
  | 7 => ("FallingCalls$Graphs", "before", "[I", true)
  | 8 => ("FallingCalls$Graphs", "lastCall", "[I", true)
  | 9 => ("FallingCalls$Graphs", "callsOf", "[I", true)
  | _ => ("FallingCalls$Graphs", "found", "[I", true)
def tyX0 : Nat → FieldType := fun k => match k with
  | 0 => .array .int
  | 1 => .array .int
  | 2 => .array .int
  | 3 => .array .int
  | 4 => .int
  | 5 => .int
  | 6 => .array .int
  | 7 => .array .int
  | 8 => .array .int
  | 9 => .array .int
  | _ => .array .int
abbrev wsX00 : List Cond := u_ws RX0 TX0 11
theorem nmX0 : ∀ a, a < 11 → ∀ b, b < 11 → a ≠ b → (TX0 a).2.1 ≠ (TX0 b).2.1 := by decide +kernel
theorem tyX0_ok : ∀ k, k < 11 → parseFieldDescriptor (TX0 k).2.2.1 = some (tyX0 k) := by decide +kernel
abbrev cX0_init : ByteArray := prog_2_method_1_code
def yX0_init : MethodName := ⟨RX0, "<init>", "()V"⟩
abbrev cX0_codeOf : ByteArray := prog_2_method_2_code
def yX0_codeOf : MethodName := ⟨RX0, "codeOf", "(I)I"⟩
abbrev cX0_composed : ByteArray := prog_2_method_3_code
def yX0_composed : MethodName := ⟨RX0, "composed", "(II)I"⟩
abbrev cX0_close : ByteArray := prog_2_method_4_code
def yX0_close : MethodName := ⟨RX0, "close", "(LFallingCalls$Program;Z)V"⟩
abbrev cX0_forget : ByteArray := prog_2_method_5_code
def yX0_forget : MethodName := ⟨RX0, "forget", "()V"⟩
abbrev cX0_meet : ByteArray := prog_2_method_6_code
def yX0_meet : MethodName := ⟨RX0, "meet", "(IIIII)I"⟩
abbrev cX0_placeOf : ByteArray := prog_2_method_7_code
def yX0_placeOf : MethodName := ⟨RX0, "placeOf", "(III)I"⟩
abbrev cX0_has : ByteArray := prog_2_method_8_code
def yX0_has : MethodName := ⟨RX0, "has", "(I)Z"⟩
abbrev cX0_fromOf : ByteArray := prog_2_method_9_code
def yX0_fromOf : MethodName := ⟨RX0, "fromOf", "(I)I"⟩
abbrev cX0_toOf : ByteArray := prog_2_method_10_code
def yX0_toOf : MethodName := ⟨RX0, "toOf", "(I)I"⟩
abbrev cX0_at : ByteArray := prog_2_method_11_code
def yX0_at : MethodName := ⟨RX0, "at", "(III)I"⟩
abbrev cX0_callOfWord : ByteArray := prog_2_method_12_code
def yX0_callOfWord : MethodName := ⟨RX0, "callOfWord", "(II)I"⟩
abbrev cX0_isIdle : ByteArray := prog_2_method_13_code
def yX0_isIdle : MethodName := ⟨RX0, "isIdle", "(I)Z"⟩
abbrev cX0_fallsIn : ByteArray := prog_2_method_14_code
def yX0_fallsIn : MethodName := ⟨RX0, "fallsIn", "(I)I"⟩
abbrev cX0_isLoop : ByteArray := prog_2_method_15_code
def yX0_isLoop : MethodName := ⟨RX0, "isLoop", "(I)Z"⟩
abbrev cX0_isNeedless : ByteArray := prog_2_method_16_code
def yX0_isNeedless : MethodName := ⟨RX0, "isNeedless", "(I)Z"⟩
abbrev cX0_idleOnes : ByteArray := prog_2_method_17_code
def yX0_idleOnes : MethodName := ⟨RX0, "idleOnes", "()I"⟩
abbrev cX0_neededOnes : ByteArray := prog_2_method_18_code
def yX0_neededOnes : MethodName := ⟨RX0, "neededOnes", "()I"⟩
abbrev cX0_neededLoops : ByteArray := prog_2_method_19_code
def yX0_neededLoops : MethodName := ⟨RX0, "neededLoops", "()I"⟩
abbrev cX0_sumOfCodes : ByteArray := prog_2_method_20_code
def yX0_sumOfCodes : MethodName := ⟨RX0, "sumOfCodes", "()I"⟩
abbrev cX0_firstLoopOf : ByteArray := prog_2_method_21_code
def yX0_firstLoopOf : MethodName := ⟨RX0, "firstLoopOf", "(I)I"⟩
abbrev cX0_callsOfEveryLoop : ByteArray := prog_2_method_22_code
def yX0_callsOfEveryLoop : MethodName := ⟨RX0, "callsOfEveryLoop", "()I"⟩
abbrev cX0_isTogether : ByteArray := prog_2_method_23_code
def yX0_isTogether : MethodName := ⟨RX0, "isTogether", "(II)Z"⟩
abbrev cX0_firstOfComponent : ByteArray := prog_2_method_24_code
def yX0_firstOfComponent : MethodName := ⟨RX0, "firstOfComponent", "(I)I"⟩
abbrev cX0_componentsBelow : ByteArray := prog_2_method_25_code
def yX0_componentsBelow : MethodName := ⟨RX0, "componentsBelow", "(I)I"⟩
abbrev cX0_componentOf : ByteArray := prog_2_method_26_code
def yX0_componentOf : MethodName := ⟨RX0, "componentOf", "(I)I"⟩
def RX1 : String := "FallingCalls$Program"
def TX1 : u_T := fun k => match k with
  | 0 => ("FallingCalls$Program", "arity", "[I", true)
  | 1 => ("FallingCalls$Program", "from", "[I", true)
  | 2 => ("FallingCalls$Program", "to", "[I", true)
  | 3 => ("FallingCalls$Program", "arguments", "[I", true)
  | 4 => ("FallingCalls$Program", "functions", "I", false)
  | _ => ("FallingCalls$Program", "calls", "I", false)
def tyX1 : Nat → FieldType := fun k => match k with
  | 0 => .array .int
  | 1 => .array .int
  | 2 => .array .int
  | 3 => .array .int
  | 4 => .int
  | _ => .int
abbrev wsX10 : List Cond := u_ws RX1 TX1 6
theorem nmX1 : ∀ a, a < 6 → ∀ b, b < 6 → a ≠ b → (TX1 a).2.1 ≠ (TX1 b).2.1 := by decide +kernel
theorem tyX1_ok : ∀ k, k < 6 → parseFieldDescriptor (TX1 k).2.2.1 = some (tyX1 k) := by decide +kernel
abbrev cX1_init : ByteArray := prog_3_method_1_code
def yX1_init : MethodName := ⟨RX1, "<init>", "()V"⟩
abbrev cX1_clear : ByteArray := prog_3_method_2_code
def yX1_clear : MethodName := ⟨RX1, "clear", "()V"⟩
abbrev cX1_copy : ByteArray := prog_3_method_3_code
def yX1_copy : MethodName := ⟨RX1, "copy", "(LFallingCalls$Program;)V"⟩
abbrev cX1_hasFunction : ByteArray := prog_3_method_4_code
def yX1_hasFunction : MethodName := ⟨RX1, "hasFunction", "(I)Z"⟩
abbrev cX1_hasCall : ByteArray := prog_3_method_5_code
def yX1_hasCall : MethodName := ⟨RX1, "hasCall", "(I)Z"⟩
abbrev cX1_hasArgument : ByteArray := prog_3_method_6_code
def yX1_hasArgument : MethodName := ⟨RX1, "hasArgument", "(II)Z"⟩
abbrev cX1_argumentAt : ByteArray := prog_3_method_7_code
def yX1_argumentAt : MethodName := ⟨RX1, "argumentAt", "(II)I"⟩
abbrev cX1_putArgument : ByteArray := prog_3_method_8_code
def yX1_putArgument : MethodName := ⟨RX1, "putArgument", "(III)V"⟩
abbrev cX1_appendFunction : ByteArray := prog_3_method_9_code
def yX1_appendFunction : MethodName := ⟨RX1, "appendFunction", "(I)V"⟩
abbrev cX1_appendCall : ByteArray := prog_3_method_10_code
def yX1_appendCall : MethodName := ⟨RX1, "appendCall", "(II)V"⟩
abbrev cX1_removeCall : ByteArray := prog_3_method_11_code
def yX1_removeCall : MethodName := ⟨RX1, "removeCall", "(I)V"⟩
abbrev cX1_takes : ByteArray := prog_3_method_12_code
def yX1_takes : MethodName := ⟨RX1, "takes", "(III)Z"⟩
abbrev cX1_callsFrom : ByteArray := prog_3_method_13_code
def yX1_callsFrom : MethodName := ⟨RX1, "callsFrom", "(I)I"⟩
abbrev cX1_plainNumbers : ByteArray := prog_3_method_14_code
def yX1_plainNumbers : MethodName := ⟨RX1, "plainNumbers", "()I"⟩
abbrev cX1_arities : ByteArray := prog_3_method_15_code
def yX1_arities : MethodName := ⟨RX1, "arities", "()I"⟩
abbrev cX1_bitsOf : ByteArray := prog_3_method_16_code
def yX1_bitsOf : MethodName := ⟨RX1, "bitsOf", "(I)I"⟩
abbrev cX1_relation : ByteArray := prog_3_method_17_code
def yX1_relation : MethodName := ⟨RX1, "relation", "(II)I"⟩
abbrev cX1_callsMade : ByteArray := prog_3_method_18_code
def yX1_callsMade : MethodName := ⟨RX1, "callsMade", "(III)I"⟩
abbrev cX1_callMade : ByteArray := prog_3_method_19_code
def yX1_callMade : MethodName := ⟨RX1, "callMade", "(IIII)I"⟩
abbrev cX1_isMade : ByteArray := prog_3_method_20_code
def yX1_isMade : MethodName := ⟨RX1, "isMade", "(III)Z"⟩
abbrev cX1_worth : ByteArray := prog_3_method_21_code
def yX1_worth : MethodName := ⟨RX1, "worth", "(IIII)I"⟩
def RX2 : String := "FallingCalls$Sheet"
def TX2 : u_T := fun k => match k with
  | 0 => ("FallingCalls$Sheet", "cells", "[I", true)
  | 1 => ("FallingCalls$Sheet", "lane", "I", false)
  | _ => ("FallingCalls$Sheet", "size", "I", false)
def tyX2 : Nat → FieldType := fun k => match k with
  | 0 => .array .int
  | 1 => .int
  | _ => .int
abbrev wsX20 : List Cond := u_ws RX2 TX2 3
theorem nmX2 : ∀ a, a < 3 → ∀ b, b < 3 → a ≠ b → (TX2 a).2.1 ≠ (TX2 b).2.1 := by decide +kernel
theorem tyX2_ok : ∀ k, k < 3 → parseFieldDescriptor (TX2 k).2.2.1 = some (tyX2 k) := by decide +kernel
abbrev cX2_init : ByteArray := prog_4_method_1_code
def yX2_init : MethodName := ⟨RX2, "<init>", "()V"⟩
abbrev cX2_begin : ByteArray := prog_4_method_2_code
def yX2_begin : MethodName := ⟨RX2, "begin", "(II)V"⟩
abbrev cX2_faultAt : ByteArray := prog_4_method_3_code
def yX2_faultAt : MethodName := ⟨RX2, "faultAt", "(III)I"⟩
abbrev cX2_put : ByteArray := prog_4_method_4_code
def yX2_put : MethodName := ⟨RX2, "put", "(II)V"⟩
def RX3 : String := "FallingCalls$Teller"
def TX3 : u_T := fun k => match k with
  | 0 => ("FallingCalls$Teller", "tape", "[B", true)
  | 1 => ("FallingCalls$Teller", "length", "I", false)
  | 2 => ("FallingCalls$Teller", "fault", "I", false)
  | 3 => ("FallingCalls$Teller", "at", "I", false)
  | 4 => ("FallingCalls$Teller", "behind", "I", false)
  | _ => ("FallingCalls$Teller", "token", "I", false)
def tyX3 : Nat → FieldType := fun k => match k with
  | 0 => .array .byte
  | 1 => .int
  | 2 => .int
  | 3 => .int
  | 4 => .int
  | _ => .int
abbrev wsX30 : List Cond := u_ws RX3 TX3 6
theorem nmX3 : ∀ a, a < 6 → ∀ b, b < 6 → a ≠ b → (TX3 a).2.1 ≠ (TX3 b).2.1 := by decide +kernel
theorem tyX3_ok : ∀ k, k < 6 → parseFieldDescriptor (TX3 k).2.2.1 = some (tyX3 k) := by decide +kernel
abbrev cX3_init : ByteArray := prog_5_method_1_code
def yX3_init : MethodName := ⟨RX3, "<init>", "()V"⟩
abbrev cX3_tell : ByteArray := prog_5_method_2_code
def yX3_tell : MethodName := ⟨RX3, "tell", "(LFallingCalls$Program;)I"⟩
abbrev cX3_tellFunction : ByteArray := prog_5_method_3_code
def yX3_tellFunction : MethodName := ⟨RX3, "tellFunction", "(LFallingCalls$Program;)V"⟩
abbrev cX3_tellCall : ByteArray := prog_5_method_4_code
def yX3_tellCall : MethodName := ⟨RX3, "tellCall", "(LFallingCalls$Program;)V"⟩
abbrev cX3_takeArgument : ByteArray := prog_5_method_5_code
def yX3_takeArgument : MethodName := ⟨RX3, "takeArgument", "(I)I"⟩
abbrev cX3_takeValue : ByteArray := prog_5_method_6_code
def yX3_takeValue : MethodName := ⟨RX3, "takeValue", "(I)I"⟩
abbrev cX3_takeNumber : ByteArray := prog_5_method_7_code
def yX3_takeNumber : MethodName := ⟨RX3, "takeNumber", "(II)I"⟩
abbrev cX3_takeLineEnd : ByteArray := prog_5_method_8_code
def yX3_takeLineEnd : MethodName := ⟨RX3, "takeLineEnd", "()V"⟩
abbrev cX3_refuse : ByteArray := prog_5_method_9_code
def yX3_refuse : MethodName := ⟨RX3, "refuse", "(I)V"⟩
abbrev cX3_isSign : ByteArray := prog_5_method_10_code
def yX3_isSign : MethodName := ⟨RX3, "isSign", "(C)Z"⟩
abbrev cX3_isName : ByteArray := prog_5_method_11_code
def yX3_isName : MethodName := ⟨RX3, "isName", "(Ljava/lang/String;)Z"⟩
abbrev cX3_step : ByteArray := prog_5_method_12_code
def yX3_step : MethodName := ⟨RX3, "step", "()V"⟩
abbrev cX3_tokenOf : ByteArray := prog_5_method_13_code
def yX3_tokenOf : MethodName := ⟨RX3, "tokenOf", "(I)I"⟩
abbrev cX3_numberRead : ByteArray := prog_5_method_14_code
def yX3_numberRead : MethodName := ⟨RX3, "numberRead", "()I"⟩
def RX4 : String := "FallingCalls"
def TX4 : u_T := fun k => match k with
  | 0 => ("FallingCalls", "teller", "LFallingCalls$Teller;", true)
  | 1 => ("FallingCalls", "told", "LFallingCalls$Program;", true)
  | 2 => ("FallingCalls", "trial", "LFallingCalls$Program;", true)
  | 3 => ("FallingCalls", "graphs", "LFallingCalls$Graphs;", true)
  | 4 => ("FallingCalls", "images", "[LFallingCalls$Program;", true)
  | 5 => ("FallingCalls", "kept", "[Z", true)
  | 6 => ("FallingCalls", "sheets", "[LFallingCalls$Sheet;", true)
  | 7 => ("FallingCalls", "stale", "Z", false)
  | _ => ("FallingCalls", "readFault", "I", false)
def tyX4 : Nat → FieldType := fun k => match k with
  | 0 => .object "FallingCalls$Teller"
  | 1 => .object "FallingCalls$Program"
  | 2 => .object "FallingCalls$Program"
  | 3 => .object "FallingCalls$Graphs"
  | 4 => .array (.object "FallingCalls$Program")
  | 5 => .array .boolean
  | 6 => .array (.object "FallingCalls$Sheet")
  | 7 => .boolean
  | _ => .int
abbrev wsX40 : List Cond := u_ws RX4 TX4 9
theorem nmX4 : ∀ a, a < 9 → ∀ b, b < 9 → a ≠ b → (TX4 a).2.1 ≠ (TX4 b).2.1 := by decide +kernel
theorem tyX4_ok : ∀ k, k < 9 → parseFieldDescriptor (TX4 k).2.2.1 = some (tyX4 k) := by decide +kernel
abbrev cX4_init : ByteArray := prog_1_method_1_code
def yX4_init : MethodName := ⟨RX4, "<init>", "()V"⟩
abbrev cX4_feed : ByteArray := prog_1_method_2_code
def yX4_feed : MethodName := ⟨RX4, "feed", "(I)I"⟩
abbrev cX4_end : ByteArray := prog_1_method_3_code
def yX4_end : MethodName := ⟨RX4, "end", "(I)I"⟩
abbrev cX4_text : ByteArray := prog_1_method_4_code
def yX4_text : MethodName := ⟨RX4, "text", "()I"⟩
abbrev cX4_fault : ByteArray := prog_1_method_5_code
def yX4_fault : MethodName := ⟨RX4, "fault", "()I"⟩
abbrev cX4_rule : ByteArray := prog_1_method_6_code
def yX4_rule : MethodName := ⟨RX4, "rule", "(I)I"⟩
abbrev cX4_fun : ByteArray := prog_1_method_7_code
def yX4_fun : MethodName := ⟨RX4, "fun", "(II)I"⟩
abbrev cX4_call : ByteArray := prog_1_method_8_code
def yX4_call : MethodName := ⟨RX4, "call", "(II)I"⟩
abbrev cX4_argument : ByteArray := prog_1_method_9_code
def yX4_argument : MethodName := ⟨RX4, "argument", "(III)I"⟩
abbrev cX4_graph : ByteArray := prog_1_method_10_code
def yX4_graph : MethodName := ⟨RX4, "graph", "(II)I"⟩
abbrev cX4_word : ByteArray := prog_1_method_11_code
def yX4_word : MethodName := ⟨RX4, "word", "(II)I"⟩
abbrev cX4_find : ByteArray := prog_1_method_12_code
def yX4_find : MethodName := ⟨RX4, "find", "(III)I"⟩
abbrev cX4_compose : ByteArray := prog_1_method_13_code
def yX4_compose : MethodName := ⟨RX4, "compose", "(II)I"⟩
abbrev cX4_witness : ByteArray := prog_1_method_14_code
def yX4_witness : MethodName := ⟨RX4, "witness", "(I)I"⟩
abbrev cX4_open : ByteArray := prog_1_method_15_code
def yX4_open : MethodName := ⟨RX4, "open", "(I)I"⟩
abbrev cX4_add : ByteArray := prog_1_method_16_code
def yX4_add : MethodName := ⟨RX4, "add", "(II)I"⟩
abbrev cX4_cut : ByteArray := prog_1_method_17_code
def yX4_cut : MethodName := ⟨RX4, "cut", "(I)I"⟩
abbrev cX4_set : ByteArray := prog_1_method_18_code
def yX4_set : MethodName := ⟨RX4, "set", "(III)I"⟩
abbrev cX4_spare : ByteArray := prog_1_method_19_code
def yX4_spare : MethodName := ⟨RX4, "spare", "()I"⟩
abbrev cX4_mend : ByteArray := prog_1_method_20_code
def yX4_mend : MethodName := ⟨RX4, "mend", "()I"⟩
abbrev cX4_loops : ByteArray := prog_1_method_21_code
def yX4_loops : MethodName := ⟨RX4, "loops", "()I"⟩
abbrev cX4_run : ByteArray := prog_1_method_22_code
def yX4_run : MethodName := ⟨RX4, "run", "(IIII)I"⟩
abbrev cX4_keep : ByteArray := prog_1_method_23_code
def yX4_keep : MethodName := ⟨RX4, "keep", "(I)I"⟩
abbrev cX4_back : ByteArray := prog_1_method_24_code
def yX4_back : MethodName := ⟨RX4, "back", "(I)I"⟩
abbrev cX4_sheet : ByteArray := prog_1_method_25_code
def yX4_sheet : MethodName := ⟨RX4, "sheet", "(III)I"⟩
abbrev cX4_lay : ByteArray := prog_1_method_26_code
def yX4_lay : MethodName := ⟨RX4, "lay", "(III)I"⟩
abbrev cX4_read : ByteArray := prog_1_method_27_code
def yX4_read : MethodName := ⟨RX4, "read", "(IIII)I"⟩
abbrev cX4_torn : ByteArray := prog_1_method_28_code
def yX4_torn : MethodName := ⟨RX4, "torn", "()I"⟩
abbrev cX4_count : ByteArray := prog_1_method_29_code
def yX4_count : MethodName := ⟨RX4, "count", "(I)I"⟩
abbrev cX4_bit : ByteArray := prog_1_method_30_code
def yX4_bit : MethodName := ⟨RX4, "bit", "(Z)I"⟩
abbrev cX4_orNone : ByteArray := prog_1_method_31_code
def yX4_orNone : MethodName := ⟨RX4, "orNone", "(I)I"⟩
abbrev cX4_isImage : ByteArray := prog_1_method_32_code
def yX4_isImage : MethodName := ⟨RX4, "isImage", "(I)Z"⟩
abbrev cX4_isSheet : ByteArray := prog_1_method_33_code
def yX4_isSheet : MethodName := ⟨RX4, "isSheet", "(I)Z"⟩
abbrev cX4_isLane : ByteArray := prog_1_method_34_code
def yX4_isLane : MethodName := ⟨RX4, "isLane", "(I)Z"⟩
abbrev cX4_kindOf : ByteArray := prog_1_method_35_code
def yX4_kindOf : MethodName := ⟨RX4, "kindOf", "(I)I"⟩
abbrev cX4_valueOf : ByteArray := prog_1_method_36_code
def yX4_valueOf : MethodName := ⟨RX4, "valueOf", "(I)I"⟩
abbrev cX4_numberOf : ByteArray := prog_1_method_37_code
def yX4_numberOf : MethodName := ⟨RX4, "numberOf", "(I)I"⟩
abbrev cX4_argumentOf : ByteArray := prog_1_method_38_code
def yX4_argumentOf : MethodName := ⟨RX4, "argumentOf", "(III)I"⟩
abbrev cX4_fresh : ByteArray := prog_1_method_39_code
def yX4_fresh : MethodName := ⟨RX4, "fresh", "()LFallingCalls$Graphs;"⟩
abbrev cX4_trialEnds : ByteArray := prog_1_method_40_code
def yX4_trialEnds : MethodName := ⟨RX4, "trialEnds", "()Z"⟩
def RX5 : String := "FallingCallsModel"
def TX5 : u_T := fun k => match k with
  | 0 => ("FallingCallsModel", "st", "[I", true)
  | 1 => ("FallingCallsModel", "kept", "[I", true)
  | 2 => ("FallingCallsModel", "isKept", "[Z", true)
  | 3 => ("FallingCallsModel", "draft", "[I", true)
  | 4 => ("FallingCallsModel", "tape", "[I", true)
  | 5 => ("FallingCallsModel", "taped", "I", false)
  | 6 => ("FallingCallsModel", "pos", "I", false)
  | 7 => ("FallingCallsModel", "begun", "I", false)
  | 8 => ("FallingCallsModel", "sort", "I", false)
  | 9 => ("FallingCallsModel", "value", "I", false)
  | 10 => ("FallingCallsModel", "fault", "I", false)
  | 11 => ("FallingCallsModel", "wrongAt", "I", false)
  | 12 => ("FallingCallsModel", "graphFrom", "[I", true)
  | 13 => ("FallingCallsModel", "graphTo", "[I", true)
  | 14 => ("FallingCallsModel", "graphCode", "[I", true)
  | 15 => ("FallingCallsModel", "graphAhead", "[I", true)
  | 16 => ("FallingCallsModel", "graphLast", "[I", true)
  | 17 => ("FallingCallsModel", "graphLong", "[I", true)
  | 18 => ("FallingCallsModel", "graphMany", "I", false)
  | 19 => ("FallingCallsModel", "whereIs", "[I", true)
  | 20 => ("FallingCallsModel", "omitted", "I", false)
  | 21 => ("FallingCallsModel", "at", "[I", true)
  | 22 => ("FallingCallsModel", "next", "[I", true)
  | 23 => ("FallingCallsModel", "lanes", "[I", true)
  | 24 => ("FallingCallsModel", "sizes", "[I", true)
  | 25 => ("FallingCallsModel", "cells", "[I", true)
  | 26 => ("FallingCallsModel", "torn", "I", false)
  | _ => ("FallingCallsModel", "before", "[I", true)
def tyX5 : Nat → FieldType := fun k => match k with
  | 0 => .array .int
  | 1 => .array .int
  | 2 => .array .boolean
  | 3 => .array .int
  | 4 => .array .int
  | 5 => .int
  | 6 => .int
  | 7 => .int
  | 8 => .int
  | 9 => .int
  | 10 => .int
  | 11 => .int
  | 12 => .array .int
  | 13 => .array .int
  | 14 => .array .int
  | 15 => .array .int
  | 16 => .array .int
  | 17 => .array .int
  | 18 => .int
  | 19 => .array .int
  | 20 => .int
  | 21 => .array .int
  | 22 => .array .int
  | 23 => .array .int
  | 24 => .array .int
  | 25 => .array .int
  | 26 => .int
  | _ => .array .int
abbrev wsX50 : List Cond := u_ws RX5 TX5 28
theorem nmX5 : ∀ a, a < 28 → ∀ b, b < 28 → a ≠ b → (TX5 a).2.1 ≠ (TX5 b).2.1 := by decide +kernel
theorem tyX5_ok : ∀ k, k < 28 → parseFieldDescriptor (TX5 k).2.2.1 = some (tyX5 k) := by decide +kernel
abbrev cX5_init : ByteArray := prog_7_method_1_code
def yX5_init : MethodName := ⟨RX5, "<init>", "()V"⟩
abbrev cX5_in : ByteArray := prog_7_method_3_code
def yX5_in : MethodName := ⟨RX5, "in", "(JJJ)Z"⟩
abbrev cX5_flag : ByteArray := prog_7_method_4_code
def yX5_flag : MethodName := ⟨RX5, "flag", "(Z)I"⟩
abbrev cX5_feed : ByteArray := prog_7_method_5_code
def yX5_feed : MethodName := ⟨RX5, "feed", "(I)I"⟩
abbrev cX5_end : ByteArray := prog_7_method_6_code
def yX5_end : MethodName := ⟨RX5, "end", "(I)I"⟩
abbrev cX5_requires : ByteArray := prog_7_method_7_code
def yX5_requires : MethodName := ⟨RX5, "requires", "(ZI)V"⟩
abbrev cX5_byteAt : ByteArray := prog_7_method_8_code
def yX5_byteAt : MethodName := ⟨RX5, "byteAt", "(I)I"⟩
abbrev cX5_wordNow : ByteArray := prog_7_method_9_code
def yX5_wordNow : MethodName := ⟨RX5, "wordNow", "()I"⟩
abbrev cX5_signOf : ByteArray := prog_7_method_10_code
def yX5_signOf : MethodName := ⟨RX5, "signOf", "(I)I"⟩
abbrev cX5_reads : ByteArray := prog_7_method_11_code
def yX5_reads : MethodName := ⟨RX5, "reads", "()V"⟩
abbrev cX5_readNumber : ByteArray := prog_7_method_12_code
def yX5_readNumber : MethodName := ⟨RX5, "readNumber", "(II)I"⟩
abbrev cX5_readValue : ByteArray := prog_7_method_13_code
def yX5_readValue : MethodName := ⟨RX5, "readValue", "(I)I"⟩
abbrev cX5_readArgument : ByteArray := prog_7_method_14_code
def yX5_readArgument : MethodName := ⟨RX5, "readArgument", "(II)V"⟩
abbrev cX5_readCall : ByteArray := prog_7_method_15_code
def yX5_readCall : MethodName := ⟨RX5, "readCall", "()V"⟩
abbrev cX5_readLine : ByteArray := prog_7_method_16_code
def yX5_readLine : MethodName := ⟨RX5, "readLine", "()V"⟩
abbrev cX5_text : ByteArray := prog_7_method_17_code
def yX5_text : MethodName := ⟨RX5, "text", "()I"⟩
abbrev cX5_fault : ByteArray := prog_7_method_18_code
def yX5_fault : MethodName := ⟨RX5, "fault", "()I"⟩
abbrev cX5_isFun : ByteArray := prog_7_method_19_code
def yX5_isFun : MethodName := ⟨RX5, "isFun", "(I)Z"⟩
abbrev cX5_isCall : ByteArray := prog_7_method_20_code
def yX5_isCall : MethodName := ⟨RX5, "isCall", "(I)Z"⟩
abbrev cX5_of : ByteArray := prog_7_method_21_code
def yX5_of : MethodName := ⟨RX5, "of", "(II)I"⟩
abbrev cX5_ofArgument : ByteArray := prog_7_method_22_code
def yX5_ofArgument : MethodName := ⟨RX5, "ofArgument", "(III)I"⟩
abbrev cX5_relationOf : ByteArray := prog_7_method_23_code
def yX5_relationOf : MethodName := ⟨RX5, "relationOf", "(III)I"⟩
abbrev cX5_weightOf : ByteArray := prog_7_method_24_code
def yX5_weightOf : MethodName := ⟨RX5, "weightOf", "(II)I"⟩
abbrev cX5_relation : ByteArray := prog_7_method_25_code
def yX5_relation : MethodName := ⟨RX5, "relation", "(III)I"⟩
abbrev cX5_codeOf : ByteArray := prog_7_method_26_code
def yX5_codeOf : MethodName := ⟨RX5, "codeOf", "(I)I"⟩
abbrev cX5_composed : ByteArray := prog_7_method_27_code
def yX5_composed : MethodName := ⟨RX5, "composed", "(II)I"⟩
abbrev cX5_slot : ByteArray := prog_7_method_28_code
def yX5_slot : MethodName := ⟨RX5, "slot", "(III)I"⟩
abbrev cX5_comes : ByteArray := prog_7_method_29_code
def yX5_comes : MethodName := ⟨RX5, "comes", "(IIIII)V"⟩
abbrev cX5_findGraphs : ByteArray := prog_7_method_30_code
def yX5_findGraphs : MethodName := ⟨RX5, "findGraphs", "()V"⟩
abbrev cX5_isIdle : ByteArray := prog_7_method_31_code
def yX5_isIdle : MethodName := ⟨RX5, "isIdle", "(I)Z"⟩
abbrev cX5_fallsOf : ByteArray := prog_7_method_32_code
def yX5_fallsOf : MethodName := ⟨RX5, "fallsOf", "(I)I"⟩
abbrev cX5_isLoop : ByteArray := prog_7_method_33_code
def yX5_isLoop : MethodName := ⟨RX5, "isLoop", "(I)Z"⟩
abbrev cX5_isNoneAbove : ByteArray := prog_7_method_34_code
def yX5_isNoneAbove : MethodName := ⟨RX5, "isNoneAbove", "(II)Z"⟩
abbrev cX5_isNeedless : ByteArray := prog_7_method_35_code
def yX5_isNeedless : MethodName := ⟨RX5, "isNeedless", "(I)Z"⟩
abbrev cX5_reachOf : ByteArray := prog_7_method_36_code
def yX5_reachOf : MethodName := ⟨RX5, "reachOf", "(I)I"⟩
abbrev cX5_loopOf : ByteArray := prog_7_method_37_code
def yX5_loopOf : MethodName := ⟨RX5, "loopOf", "(I)I"⟩
abbrev cX5_allEnd : ByteArray := prog_7_method_38_code
def yX5_allEnd : MethodName := ⟨RX5, "allEnd", "()Z"⟩
abbrev cX5_componentOf : ByteArray := prog_7_method_39_code
def yX5_componentOf : MethodName := ⟨RX5, "componentOf", "(I)I"⟩
abbrev cX5_componentNumber : ByteArray := prog_7_method_40_code
def yX5_componentNumber : MethodName := ⟨RX5, "componentNumber", "(I)I"⟩
abbrev cX5_components : ByteArray := prog_7_method_41_code
def yX5_components : MethodName := ⟨RX5, "components", "()I"⟩
abbrev cX5_graphsThat : ByteArray := prog_7_method_42_code
def yX5_graphsThat : MethodName := ⟨RX5, "graphsThat", "(I)I"⟩
abbrev cX5_rule : ByteArray := prog_7_method_43_code
def yX5_rule : MethodName := ⟨RX5, "rule", "(I)I"⟩
abbrev cX5_callsFrom : ByteArray := prog_7_method_44_code
def yX5_callsFrom : MethodName := ⟨RX5, "callsFrom", "(I)I"⟩
abbrev cX5_fun : ByteArray := prog_7_method_45_code
def yX5_fun : MethodName := ⟨RX5, "fun", "(II)I"⟩
abbrev cX5_call : ByteArray := prog_7_method_46_code
def yX5_call : MethodName := ⟨RX5, "call", "(II)I"⟩
abbrev cX5_isArgument : ByteArray := prog_7_method_47_code
def yX5_isArgument : MethodName := ⟨RX5, "isArgument", "(II)Z"⟩
abbrev cX5_argument : ByteArray := prog_7_method_48_code
def yX5_argument : MethodName := ⟨RX5, "argument", "(III)I"⟩
abbrev cX5_isGraph : ByteArray := prog_7_method_49_code
def yX5_isGraph : MethodName := ⟨RX5, "isGraph", "(I)Z"⟩
abbrev cX5_graph : ByteArray := prog_7_method_50_code
def yX5_graph : MethodName := ⟨RX5, "graph", "(II)I"⟩
abbrev cX5_word : ByteArray := prog_7_method_51_code
def yX5_word : MethodName := ⟨RX5, "word", "(II)I"⟩
abbrev cX5_find : ByteArray := prog_7_method_52_code
def yX5_find : MethodName := ⟨RX5, "find", "(III)I"⟩
abbrev cX5_compose : ByteArray := prog_7_method_53_code
def yX5_compose : MethodName := ⟨RX5, "compose", "(II)I"⟩
abbrev cX5_witness : ByteArray := prog_7_method_54_code
def yX5_witness : MethodName := ⟨RX5, "witness", "(I)I"⟩
abbrev cX5_open : ByteArray := prog_7_method_55_code
def yX5_open : MethodName := ⟨RX5, "open", "(I)I"⟩
abbrev cX5_add : ByteArray := prog_7_method_56_code
def yX5_add : MethodName := ⟨RX5, "add", "(II)I"⟩
abbrev cX5_cut : ByteArray := prog_7_method_57_code
def yX5_cut : MethodName := ⟨RX5, "cut", "(I)I"⟩
abbrev cX5_mayBe : ByteArray := prog_7_method_58_code
def yX5_mayBe : MethodName := ⟨RX5, "mayBe", "(II)Z"⟩
abbrev cX5_toldOf : ByteArray := prog_7_method_59_code
def yX5_toldOf : MethodName := ⟨RX5, "toldOf", "(II)I"⟩
abbrev cX5_argumentBecomes : ByteArray := prog_7_method_60_code
def yX5_argumentBecomes : MethodName := ⟨RX5, "argumentBecomes", "(III)V"⟩
abbrev cX5_set : ByteArray := prog_7_method_61_code
def yX5_set : MethodName := ⟨RX5, "set", "(III)I"⟩
abbrev cX5_spare : ByteArray := prog_7_method_62_code
def yX5_spare : MethodName := ⟨RX5, "spare", "()I"⟩
abbrev cX5_endsIf : ByteArray := prog_7_method_63_code
def yX5_endsIf : MethodName := ⟨RX5, "endsIf", "(III)Z"⟩
abbrev cX5_mend : ByteArray := prog_7_method_64_code
def yX5_mend : MethodName := ⟨RX5, "mend", "()I"⟩
abbrev cX5_loops : ByteArray := prog_7_method_65_code
def yX5_loops : MethodName := ⟨RX5, "loops", "()I"⟩
abbrev cX5_isMade : ByteArray := prog_7_method_66_code
def yX5_isMade : MethodName := ⟨RX5, "isMade", "(I)Z"⟩
abbrev cX5_argumentNow : ByteArray := prog_7_method_67_code
def yX5_argumentNow : MethodName := ⟨RX5, "argumentNow", "(II)I"⟩
abbrev cX5_madeMany : ByteArray := prog_7_method_68_code
def yX5_madeMany : MethodName := ⟨RX5, "madeMany", "(I)I"⟩
abbrev cX5_madeAt : ByteArray := prog_7_method_69_code
def yX5_madeAt : MethodName := ⟨RX5, "madeAt", "(II)I"⟩
abbrev cX5_run : ByteArray := prog_7_method_70_code
def yX5_run : MethodName := ⟨RX5, "run", "(IIII)I"⟩
abbrev cX5_keep : ByteArray := prog_7_method_71_code
def yX5_keep : MethodName := ⟨RX5, "keep", "(I)I"⟩
abbrev cX5_back : ByteArray := prog_7_method_72_code
def yX5_back : MethodName := ⟨RX5, "back", "(I)I"⟩
abbrev cX5_isSheet : ByteArray := prog_7_method_73_code
def yX5_isSheet : MethodName := ⟨RX5, "isSheet", "(II)Z"⟩
abbrev cX5_sheet : ByteArray := prog_7_method_74_code
def yX5_sheet : MethodName := ⟨RX5, "sheet", "(III)I"⟩
abbrev cX5_lay : ByteArray := prog_7_method_75_code
def yX5_lay : MethodName := ⟨RX5, "lay", "(III)I"⟩
abbrev cX5_read : ByteArray := prog_7_method_76_code
def yX5_read : MethodName := ⟨RX5, "read", "(IIII)I"⟩
abbrev cX5_torn : ByteArray := prog_7_method_77_code
def yX5_torn : MethodName := ⟨RX5, "torn", "()I"⟩
abbrev cX5_plainArguments : ByteArray := prog_7_method_78_code
def yX5_plainArguments : MethodName := ⟨RX5, "plainArguments", "()I"⟩
abbrev cX5_codesOfAll : ByteArray := prog_7_method_79_code
def yX5_codesOfAll : MethodName := ⟨RX5, "codesOfAll", "()I"⟩
abbrev cX5_count : ByteArray := prog_7_method_80_code
def yX5_count : MethodName := ⟨RX5, "count", "(I)I"⟩
def RJ9 : String := "java/lang/Math"
abbrev cJ9_min_7cf53 : ByteArray := prog_8_method_69_code
def yJ9_min_7cf53 : MethodName := ⟨RJ9, "min", "(II)I"⟩
def RJ0 : String := "java/lang/String"
abbrev cJ0_length_8abf5 : ByteArray := prog_9_method_54_code
def yJ0_length_8abf5 : MethodName := ⟨RJ0, "length", "()I"⟩
abbrev cJ0_charAt_5068e : ByteArray := prog_9_method_56_code
def yJ0_charAt_5068e : MethodName := ⟨RJ0, "charAt", "(I)C"⟩
abbrev cJ0_coder_7d493 : ByteArray := prog_9_method_152_code
def yJ0_coder_7d493 : MethodName := ⟨RJ0, "coder", "()B"⟩
abbrev cJ0_isLatin1_aae02 : ByteArray := prog_9_method_154_code
def yJ0_isLatin1_aae02 : MethodName := ⟨RJ0, "isLatin1", "()Z"⟩
abbrev cJ0_checkIndex_df160 : ByteArray := prog_9_method_155_code
def yJ0_checkIndex_df160 : MethodName := ⟨RJ0, "checkIndex", "(II)V"⟩
def RJ1 : String := "java/lang/StringLatin1"
abbrev cJ1_charAt_3b067 : ByteArray := prog_10_method_2_code
def yJ1_charAt_3b067 : MethodName := ⟨RJ1, "charAt", "([BI)C"⟩
def RJ2 : String := "java/lang/StringUTF16"
abbrev cJ2_getChar_3b067 : ByteArray := prog_11_method_5_code
def yJ2_getChar_3b067 : MethodName := ⟨RJ2, "getChar", "([BI)C"⟩
abbrev cJ2_length_9d52b : ByteArray := prog_11_method_6_code
def yJ2_length_9d52b : MethodName := ⟨RJ2, "length", "([B)I"⟩
abbrev cJ2_charAt_3b067 : ByteArray := prog_11_method_83_code
def yJ2_charAt_3b067 : MethodName := ⟨RJ2, "charAt", "([BI)C"⟩
abbrev cJ2_checkIndex_2214a : ByteArray := prog_11_method_91_code
def yJ2_checkIndex_2214a : MethodName := ⟨RJ2, "checkIndex", "(I[B)V"⟩
def RJ10 : String := "java/lang/System"
def RJ7 : String := "java/util/Arrays"
abbrev cJ7_fill_53178 : ByteArray := prog_13_method_103_code
def yJ7_fill_53178 : MethodName := ⟨RJ7, "fill", "([II)V"⟩
def RJ3 : String := "jdk/internal/util/Preconditions"
abbrev cJ3_checkIndex_8e157 : ByteArray := prog_14_method_11_code
def yJ3_checkIndex_8e157 : MethodName := ⟨RJ3, "checkIndex", "(IILjava/util/function/BiFunction;)I"⟩
def RL : String := "FallingCallsLaw"
abbrev cL_law : ByteArray := code
def yL_law : MethodName := ⟨RL, "law", "([I)Z"⟩
abbrev vwCl : List vw_C := [(RX0, TX0, 11), (RX1, TX1, 6), (RX2, TX2, 3), (RX3, TX3, 6), (RX4, TX4, 9), (RX5, TX5, 28)]
end
section
/-! The abstract machine: values, states, the layout of the one world (the system's object and the reference's), and its cells -/
abbrev Ky : Type := Nat × Nat × Nat
abbrev AV : Type := Int32 ⊕ (Int64 ⊕ Ky)
abbrev FF : Type := Nat → Nat → Nat → Int32
abbrev AA : Type := Nat → Nat → Nat → Nat → Int32
abbrev Lcs : Type := List (Option AV)
abbrev PT : Type := Option AV → FF → AA → Prop
abbrev SP : Type := List AV → FF → AA → PT → Prop
abbrev XT : Type := Nat → Lcs → List AV → FF → AA → Prop
/-- an entry of a code table: pc, instruction, length, next pc, target, targets of a switch, number -/
abbrev Et : Type := Nat × Instr × Nat × Nat × Nat × List Nat × Int32
abbrev vI (x : Int32) : AV := .inl x
abbrev vL (x : Int64) : AV := .inr (.inl x)
abbrev vR (t i k : Nat) : AV := .inr (.inr (t, i, k))
/-- kinds of fields by tag: 0 int, 1 boolean, 2 ints, 3 bytes, 4 booleans, 5 references, 6 an object -/
def fkT : List (List Nat) := [[2,2,2,2,0,0,2,2,2,2,2],[2,2,2,2,0,0],[2,0,0],[3,0,0,0,0,0],[6,6,6,6,5,4,5,1,0],[2,2,4,2,2,0,0,0,0,0,0,0,2,2,2,2,2,2,0,2,0,2,2,2,2,2,0,2]]
def alT : List (List Nat) := [[729,729,12,3,0,0,729,729,729,729,729],[3,12,12,24,0,0],[40,0,0],[160,0,0,0,0,0],[0,0,0,0,2,2,4,0,0],[101,202,2,101,160,0,0,0,0,0,0,0,729,729,729,729,729,729,0,729,0,2,2,4,4,160,0,101]]
def ntT : List Nat := [1, 4, 4, 1, 1, 1]
def fk (t k : Nat) : Nat := (fkT.getD t []).getD k 9
def al (t k : Nat) : Nat := (alT.getD t []).getD k 0
def nfl (t : Nat) : Nat := (fkT.getD t []).length
/-- where an object field of the system's object points; where its rows of references begin -/
def oref (k : Nat) : Ky := match k with
  | 0 => (3, 0, 0)
  | 1 => (1, 0, 0)
  | 2 => (1, 1, 0)
  | _ => (0, 0, 0)
def raf (k : Nat) : Nat × Nat := match k with
  | 4 => (1, 2)
  | _ => (2, 0)
def gfv (f : FF) (t i k : Nat) : AV := match fk t k with
  | 0 => .inl (f t i k)
  | 1 => .inl (f t i k)
  | 6 => .inr (.inr (oref k))
  | _ => .inr (.inr (t, i, k + 1))
def upf (f : FF) (t i k : Nat) (x : Int32) : FF := fun t' i' k' => if t' = t ∧ i' = i ∧ k' = k then x else f t' i' k'
def upA (a : AA) (t i k : Nat) (g : Nat → Int32) : AA := fun t' i' k' => if t' = t ∧ i' = i ∧ k' = k then g else a t' i' k'
def upa (a : AA) (t i k : Nat) (j : Nat) (x : Int32) : AA := upA a t i k (upd (a t i k) j x)
def cv (ad : Ky → Nat) (v : AV) : Value := match v with
  | .inl x => .int x
  | .inr (.inl x) => .long x
  | .inr (.inr k) => .ref (ad k)
def el (ad : Ky → Nat) (cy : Nat → ClassId) (f : FF) (a : AA) (q : Ky) : va_E := match q with
  | (t, i, 0) => .inr (t, (List.range (nfl t)).map (fun k => cv ad (gfv f t i k)))
  | (t, i, k + 1) => match fk t k with
    | 2 => .inl (cy 0, al t k, .inl (a t i k))
    | 3 => .inl (cy 1, al t k, .inl (a t i k))
    | 4 => .inl (cy 2, al t k, .inl (a t i k))
    | _ => .inl (cy (2 + (raf k).1), al t k, .inr (.inr (.inr (.inr (fun j => some (ad ((raf k).1, (raf k).2 + j, 0)))))))
def ksT (t i : Nat) : List Ky := (t, i, 0) :: ((List.range (nfl t)).filter (fun k => Nat.ble 2 (fk t k) && Nat.ble (fk t k) 5)).map (fun k => (t, i, k + 1))
def KS : List Ky := (List.range 6).flatMap (fun t => (List.range (ntT.getD t 0)).flatMap (fun i => ksT t i))
def cells (ad : Ky → Nat) (cy : Nat → ClassId) (f : FF) (a : AA) : va_W := KS.map (fun q => (ad q, el ad cy f a q))
def tyl (cy : Nat → ClassId) : List (ClassId × FieldType) := [(cy 0, .int), (cy 1, .byte), (cy 2, .boolean), (cy 3, .object "FallingCalls$Program"), (cy 4, .object "FallingCalls$Sheet")]
/-- a key that stands for a cell: of the world, or the i-th text constant -/
def kok (k : Ky) : Prop := k ∈ KS ∨ (k.1 = 9 ∧ k.2.1 < 4 ∧ k.2.2 = 0)
def vld (v : AV) : Prop := match v with
  | .inr (.inr k) => kok k
  | _ => True
/-! what moves: the words, the rooms -/
def WS : List Cond := lw_tbl.filter goodWord
def rmL (d : Nat) : Room := { frames := d, cells := 0, slots := 0, locals := 35 * d }
/-- the world's constants: launch, addresses, field layout, array kinds, what else holds of a state, the cells that may change -/
abbrev Gm : Type := Launch × (Ky → Nat) × va_G × (Nat → ClassId) × (State → Prop) × (Nat → Prop)
abbrev gL (g : Gm) : Launch := g.1
abbrev gAd (g : Gm) : Ky → Nat := g.2.1
abbrev gD (g : Gm) : va_G := g.2.2.1
abbrev gCy (g : Gm) : Nat → ClassId := g.2.2.2.1
abbrev gG (g : Gm) : State → Prop := g.2.2.2.2.1
abbrev gA (g : Gm) : Nat → Prop := g.2.2.2.2.2
/-- what the start gives of nest mates, constants and statics -/
def nestW : List Cond := lw_tbl.filter (fun w => match w with
  | .methodLinkNest _ _ _ _ => true
  | _ => false)
def strI (i : Nat) : Nat := [28, 38, 92, 94].getD i 0
def strN (i : Nat) : String := ["fun", "call", "b", "a"].getD i ""
def strB : List (List Int32) := [[102, 117, 110], [99, 97, 108, 108], [98], [97]]
def powT : List Int32 := [0, 1, 3, 4, 9, 10, 12, 13, 27, 28, 30, 31, 36, 37, 39, 40]
def gX (ad : Ky → Nat) (A : Nat → Prop) (U : State) : Prop := (∀ w ∈ nestW, va_Nw w U) ∧
  (∃ pw, va_Z "FallingCalls$Graphs" "POWERS" "[I" (.ref pw) A U U.heap ∧ va_T .int pw 16 (fun j => .int (powT.getD j 0)) A U U.heap) ∧
  (∃ adV, vk_S 4 [3, 4, 1, 1] strB (fun i => ad (9, i, 0)) adV A U U.heap) ∧ (∀ i, i < 4 → vk_R RX3 (strI i) (strN i) (ad (9, i, 0)) U) ∧
  va_Z "java/lang/String" "COMPACT_STRINGS" "Z" (.int 1) A U U.heap ∧ va_Zq "jdk/internal/util/Preconditions" "SIOOBE_FORMATTER" "Ljava/util/function/BiFunction;" A U U.heap
def GmOK (g : Gm) : Prop :=
  (∀ p q, p ∈ KS → q ∈ KS → gAd g p = gAd g q → p = q) ∧ (∀ p, p ∈ KS → gA g (gAd g p)) ∧
  (∀ U, gG g U → va_K (gD g) vwCl (tyl (gCy g)) U) ∧
  (∀ U U' : State, U.WarmedH U'.vm → U.heap.size ≤ U'.heap.size → (∀ q : Nat, q < U.heap.size → ¬ gA g q → U'.heap[q]? = U.heap[q]?) → gG g U → gG g U') ∧
  (∀ U, gG g U → gX (gAd g) (gA g) U)
def gW (g : Gm) (f : FF) (a : AA) (H : Heap) : Prop := va_P (gD g) vwCl (cells (gAd g) (gCy g) f a) H
def PreC (g : Gm) (av : List AV) (f : FF) (a : AA) : Array Value → State → Prop := fun v U => v = (av.map (cv (gAd g))).toArray ∧ gW g f a U.heap ∧ gG g U
def PostC (g : Gm) (post : PT) : Array Value → State → Outcome → State → Prop := fun _ st o t =>
  (∃ (r : Option AV) (f' : FF) (a' : AA), o = .returned (r.map (cv (gAd g))) ∧ post r f' a' ∧ (∀ v, r = some v → vld v) ∧ gW g f' a' t.heap) ∧ va_F (gA g) st t
/-- a method's contract by a predicate transformer, at a level of depth -/
def MetC (g : Gm) (y : MethodName) (cc : ByteArray) (maxL : Nat) (ret : Option FieldType) (lvl : Nat) (sp : SP) : Prop :=
  ∀ (av : List AV) (f : FF) (a : AA) (post : PT), (∀ v ∈ av, vld v) → sp av f a post → Met (gL g) y (Cond.code y cc maxL ret :: WS) (rmL lvl) (PreC g av f a) (PostC g post) 0 0 (gA g)
/-! local variables -/
def lget : Lcs → Nat → Option AV
  | [], _ => none
  | v :: _, 0 => v
  | _ :: r, n + 1 => lget r n
def lset : Lcs → Nat → Option AV → Lcs
  | [], _, _ => []
  | _ :: r, 0, x => x :: r
  | v :: r, n + 1, x => v :: lset r n x
/-- the place ahead holds no long -/
def nol : Lcs → Nat → Bool
  | _, 0 => true
  | ls, n + 1 => match lget ls n with
    | some (.inr (.inl _)) => false
    | _ => true
/-- the list is brought into its plain form ahead of what goes on -/
def frc : Lcs → (Lcs → Prop) → Prop
  | [], k => k []
  | v :: r, k => frc r (fun r' => k (v :: r'))
def ent : List AV → Lcs
  | [] => []
  | .inr (.inl x) :: r => some (.inr (.inl x)) :: none :: ent r
  | .inl x :: r => some (.inl x) :: ent r
  | .inr (.inr k) :: r => some (.inr (.inr k)) :: ent r
def padL : Nat → Lcs → Lcs
  | 0, _ => []
  | n + 1, [] => none :: padL n []
  | n + 1, v :: r => v :: padL n r
def LV (ad : Ky → Nat) (nL : Nat) (ls : Lcs) (A : Array Slot) : Prop := ls.length = nL ∧ ∃ lv, lv_has A nL lv ∧ ∀ (j : Nat) (v : AV), lget ls j = some v → (j, cv ad v) ∈ lv ∧ vld v
/-! code tables -/
def lkc : List Et → Nat → Option Et
  | [], _ => none
  | e :: r, pc => bif Nat.beq e.1 pc then some e else lkc r pc
def lk : List (Nat × List Et) → Nat → Option Et
  | [], _ => none
  | c :: r, pc => bif Nat.ble pc c.1 then lkc c.2 pc else lk r pc
def jmpI (i : Instr) : Option Int := match i with
  | .goto o => some o
  | .if_icmp _ o => some o
  | .ifCond _ o => some o
  | .tableswitch d _ _ _ => some d
  | _ => none
def numI (i : Instr) : Option Int32 := match i with
  | .iconst n => some (Int32.ofInt n)
  | .bipush n => some (Int8.ofInt n).toInt32
  | .sipush n => some (Int16.ofInt n).toInt32
  | .iinc _ n => some (Int32.ofInt n)
  | _ => none
def swI (i : Instr) : List Int := match i with
  | .tableswitch _ _ _ o => o.toList
  | _ => []
def lenI (i : Instr) : Nat := match i with
  | .bipush _ | .ldc _ | .iload _ | .lload _ | .aload _ | .istore _ | .lstore _ | .astore _ => 2
  | .sipush _ | .ldc_w _ | .ldc2_w _ | .iinc _ _ | .goto _ | .if_icmp _ _ | .ifCond _ _ | .getfield _ | .putfield _ | .getstatic _ | .invokevirtual _ | .invokestatic _ => 3
  | .tableswitch _ _ _ _ => 0
  | _ => 1
def szI (i : Instr) : Bool := match i with
  | .tableswitch _ lo hi o => decide (hi - lo + 1 = (o.toList.length : Int))
  | _ => true
def okE (cc : ByteArray) (e : Et) : Bool :=
  decide (decode cc e.1 = .ok (e.2.1, e.2.2.1)) && (Nat.beq (lenI e.2.1) 0 || Nat.beq (lenI e.2.1) e.2.2.1) && Nat.beq e.2.2.2.1 (e.1 + e.2.2.1) && (match jmpI e.2.1 with
    | some o => decide ((e.1 : Int) + o = (e.2.2.2.2.1 : Int))
    | none => true) && (match numI e.2.1 with
    | some n => decide (n = e.2.2.2.2.2.2)
    | none => true) && decide ((swI e.2.1).map (fun o => (e.1 : Int) + o) = e.2.2.2.2.2.1.map (fun (t : Nat) => (t : Int))) && szI e.2.1
def okT (cc : ByteArray) (T : List (Nat × List Et)) : Bool := T.all (fun ch => ch.2.all (okE cc))
/-! one step -/
abbrev En : Type := List (Nat × List Et) × List (Nat × Bool × Nat × SP) × List (Nat × Nat × Nat) × List (Nat × AV) × Nat
def as2 {α : Type} : List (Nat × α) → Nat → Option α
  | [], _ => none
  | e :: r, n => bif Nat.beq e.1 n then some e.2 else as2 r n
def popA : Nat → List AV → List AV → (List AV → List AV → Prop) → Prop
  | 0, acc, st, k => k acc st
  | n + 1, acc, v :: st, k => popA n (v :: acc) st k
  | _ + 1, _, [], _ => False
def cat1 (v : AV) : Nat := match v with
  | .inr (.inl _) => 2
  | _ => 1
def cats : List AV → Nat
  | [] => 0
  | v :: r => cat1 v + cats r
def ldI (X : XT) (n nxt : Nat) (ls : Lcs) (st : List AV) (f : FF) (a : AA) : Prop := match lget ls n with
  | some (.inl x) => X nxt ls (.inl x :: st) f a
  | _ => False
def ldL (X : XT) (n nxt : Nat) (ls : Lcs) (st : List AV) (f : FF) (a : AA) : Prop := match lget ls n with
  | some (.inr (.inl x)) => X nxt ls (.inr (.inl x) :: st) f a
  | _ => False
def ldA (X : XT) (n nxt : Nat) (ls : Lcs) (st : List AV) (f : FF) (a : AA) : Prop := match lget ls n with
  | some (.inr (.inr k)) => X nxt ls (.inr (.inr k) :: st) f a
  | _ => False
def stI (X : XT) (n nxt : Nat) (ls : Lcs) (st : List AV) (f : FF) (a : AA) : Prop := match st, nol ls n, Nat.blt n ls.length with
  | .inl x :: r, true, true => frc (lset ls n (some (.inl x))) (fun ls' => X nxt ls' r f a)
  | _, _, _ => False
def stA (X : XT) (n nxt : Nat) (ls : Lcs) (st : List AV) (f : FF) (a : AA) : Prop := match st, nol ls n, Nat.blt n ls.length with
  | .inr (.inr k) :: r, true, true => frc (lset ls n (some (.inr (.inr k)))) (fun ls' => X nxt ls' r f a)
  | _, _, _ => False
def stL (X : XT) (n nxt : Nat) (ls : Lcs) (st : List AV) (f : FF) (a : AA) : Prop := match st, nol ls n, Nat.blt (n + 1) ls.length with
  | .inr (.inl x) :: r, true, true => frc (lset (lset ls n (some (.inr (.inl x)))) (n + 1) none) (fun ls' => X nxt ls' r f a)
  | _, _, _ => False
def op2 (X : XT) (o : Int32 → Int32 → Int32) (nxt : Nat) (ls : Lcs) (st : List AV) (f : FF) (a : AA) : Prop := match st with
  | .inl y :: .inl x :: r => X nxt ls (.inl (o x y) :: r) f a
  | _ => False
def op1 (X : XT) (o : Int32 → Int32) (nxt : Nat) (ls : Lcs) (st : List AV) (f : FF) (a : AA) : Prop := match st with
  | .inl x :: r => X nxt ls (.inl (o x) :: r) f a
  | _ => False
def dv2 (X : XT) (o : Int32 → Int32 → Int32) (nxt : Nat) (ls : Lcs) (st : List AV) (f : FF) (a : AA) : Prop := match st with
  | .inl y :: .inl x :: r => ¬ y = 0 ∧ X nxt ls (.inl (o x y) :: r) f a
  | _ => False
def br1 (X : XT) (c : Jvm.ClassFile.Cond) (nxt tgt : Nat) (ls : Lcs) (st : List AV) (f : FF) (a : AA) : Prop := match c, st with
  | .eq, .inl x :: r => (x = 0 → X tgt ls r f a) ∧ (¬ x = 0 → X nxt ls r f a)
  | .ne, .inl x :: r => (¬ x = 0 → X tgt ls r f a) ∧ (x = 0 → X nxt ls r f a)
  | .lt, .inl x :: r => (x < 0 → X tgt ls r f a) ∧ (¬ x < 0 → X nxt ls r f a)
  | .ge, .inl x :: r => (0 ≤ x → X tgt ls r f a) ∧ (¬ 0 ≤ x → X nxt ls r f a)
  | .gt, .inl x :: r => (0 < x → X tgt ls r f a) ∧ (¬ 0 < x → X nxt ls r f a)
  | .le, .inl x :: r => (x ≤ 0 → X tgt ls r f a) ∧ (¬ x ≤ 0 → X nxt ls r f a)
  | _, _ => False
def br2 (X : XT) (c : Jvm.ClassFile.Cond) (nxt tgt : Nat) (ls : Lcs) (st : List AV) (f : FF) (a : AA) : Prop := match c, st with
  | .eq, .inl y :: .inl x :: r => (x = y → X tgt ls r f a) ∧ (¬ x = y → X nxt ls r f a)
  | .ne, .inl y :: .inl x :: r => (¬ x = y → X tgt ls r f a) ∧ (x = y → X nxt ls r f a)
  | .lt, .inl y :: .inl x :: r => (x < y → X tgt ls r f a) ∧ (¬ x < y → X nxt ls r f a)
  | .ge, .inl y :: .inl x :: r => (y ≤ x → X tgt ls r f a) ∧ (¬ y ≤ x → X nxt ls r f a)
  | .gt, .inl y :: .inl x :: r => (y < x → X tgt ls r f a) ∧ (¬ y < x → X nxt ls r f a)
  | .le, .inl y :: .inl x :: r => (x ≤ y → X tgt ls r f a) ∧ (¬ x ≤ y → X nxt ls r f a)
  | _, _ => False
def allT (x : Int32) (P : Nat → Prop) : List Nat → Nat → Int → Prop
  | [], _, _ => True
  | t :: ts, j, lo => (x.toInt = lo + (j : Int) → P t) ∧ allT x P ts (j + 1) lo
def getF (X : XT) (tk : Option (Nat × Nat)) (nxt : Nat) (ls : Lcs) (st : List AV) (f : FF) (a : AA) : Prop := match tk, st with
  | some (t, k), .inr (.inr (t', i, 0)) :: r => bif Nat.beq t t' then X nxt ls (gfv f t i k :: r) f a else False
  | _, _ => False
def putF (X : XT) (tk : Option (Nat × Nat)) (nxt : Nat) (ls : Lcs) (st : List AV) (f : FF) (a : AA) : Prop := match tk, st with
  | some (t, k), .inl x :: .inr (.inr (t', i, 0)) :: r => bif Nat.beq t t' then (match fk t k with
      | 0 => X nxt ls r (upf f t i k x) a
      | 1 => (x = 0 ∨ x = 1) ∧ X nxt ls r (upf f t i k x) a
      | _ => False) else False
  | _, _ => False
def ldX (X : XT) (w : Nat → Bool) (nxt : Nat) (ls : Lcs) (st : List AV) (f : FF) (a : AA) : Prop := match st with
  | .inl j :: .inr (.inr (t, i, k + 1)) :: r => bif w (fk t k) then (vp_in j (al t k) ∧ X nxt ls (.inl (a t i k j.toNatClampNeg) :: r) f a) else False
  | _ => False
def ldR (X : XT) (nxt : Nat) (ls : Lcs) (st : List AV) (f : FF) (a : AA) : Prop := match st with
  | .inl j :: .inr (.inr (t, i, k + 1)) :: r => bif Nat.beq (fk t k) 5 && Nat.beq t 4 then (vp_in j (al t k) ∧ X nxt ls (.inr (.inr ((raf k).1, (raf k).2 + j.toNatClampNeg, 0)) :: r) f a) else False
  | _ => False
def alN (X : XT) (nxt : Nat) (ls : Lcs) (st : List AV) (f : FF) (a : AA) : Prop := match st with
  | .inr (.inr (t, i, k + 1)) :: r => X nxt ls (.inl (Int32.ofNat (al t k)) :: r) f a
  | _ => False
def stX (X : XT) (nxt : Nat) (ls : Lcs) (st : List AV) (f : FF) (a : AA) : Prop := match st with
  | .inl x :: .inl j :: .inr (.inr (t, i, k + 1)) :: r => bif Nat.beq (fk t k) 2 then (vp_in j (al t k) ∧ X nxt ls r f (upa a t i k j.toNatClampNeg x)) else False
  | _ => False
def stB (X : XT) (nxt : Nat) (ls : Lcs) (st : List AV) (f : FF) (a : AA) : Prop := match st with
  | .inl x :: .inl j :: .inr (.inr (t, i, k + 1)) :: r => match fk t k with
    | 3 => vp_in j (al t k) ∧ X nxt ls r f (upa a t i k j.toNatClampNeg (vp_nar .byte x))
    | 4 => vp_in j (al t k) ∧ X nxt ls r f (upa a t i k j.toNatClampNeg (vp_nar .boolean x))
    | _ => False
  | _ => False
def retI (rt : Nat) (post : PT) (st : List AV) (f : FF) (a : AA) : Prop := match rt, st with
  | 0, [.inl x] => post (some (.inl x)) f a
  | 1, [.inl x] => (x = 0 ∨ x = 1) ∧ post (some (.inl x)) f a
  | _, _ => False
def retV (rt : Nat) (post : PT) (st : List AV) (f : FF) (a : AA) : Prop := match rt, st with
  | 2, [] => post none f a
  | _, _ => False
def retA (rt : Nat) (post : PT) (st : List AV) (f : FF) (a : AA) : Prop := match rt, st with
  | 3, [.inr (.inr k)] => post (some (.inr (.inr k))) f a
  | _, _ => False
def callX (X : XT) (b : Bool) (ns : Option (Bool × Nat × SP)) (nxt : Nat) (ls : Lcs) (st : List AV) (f : FF) (a : AA) : Prop := match b, ns with
  | true, some (true, n, sp) => popA n [] st (fun As r => bif Nat.ble (cats r) 8 then sp As f a (fun v f' a' => X nxt ls (v.toList ++ r) f' a') else False)
  | false, some (false, n, sp) => popA n [] st (fun As r => bif Nat.ble (cats r) 8 then sp As f a (fun v f' a' => X nxt ls (v.toList ++ r) f' a') else False)
  | _, _ => False
def ldcX (X : XT) (v : Option AV) (nxt : Nat) (ls : Lcs) (st : List AV) (f : FF) (a : AA) : Prop := match v with
  | some (.inl x) => X nxt ls (.inl x :: st) f a
  | some (.inr (.inr k)) => X nxt ls (.inr (.inr k) :: st) f a
  | _ => False
def ldwX (X : XT) (v : Option AV) (nxt : Nat) (ls : Lcs) (st : List AV) (f : FF) (a : AA) : Prop := match v with
  | some (.inl x) => X nxt ls (.inl x :: st) f a
  | _ => False
def ld2X (X : XT) (v : Option AV) (nxt : Nat) (ls : Lcs) (st : List AV) (f : FF) (a : AA) : Prop := match v with
  | some (.inr (.inl x)) => X nxt ls (.inr (.inl x) :: st) f a
  | _ => False
/-- by which instruction a constant comes -/
def cstI (i : Instr) (idx : Nat) (v : AV) : Prop := match v with
  | .inl _ => i = .ldc idx ∨ i = .ldc_w idx
  | .inr (.inl _) => i = .ldc2_w idx
  | .inr (.inr _) => i = .ldc idx
def dupX (X : XT) (nxt : Nat) (ls : Lcs) (st : List AV) (f : FF) (a : AA) : Prop := match st with
  | .inl x :: r => X nxt ls (.inl x :: .inl x :: r) f a
  | .inr (.inr k) :: r => X nxt ls (.inr (.inr k) :: .inr (.inr k) :: r) f a
  | _ => False
def dp2X (X : XT) (nxt : Nat) (ls : Lcs) (st : List AV) (f : FF) (a : AA) : Prop := match st with
  | .inl x :: .inr (.inr k) :: r => X nxt ls (.inl x :: .inr (.inr k) :: .inl x :: .inr (.inr k) :: r) f a
  | _ => False
def incX (X : XT) (n : Nat) (iv : Int32) (nxt : Nat) (ls : Lcs) (st : List AV) (f : FF) (a : AA) : Prop := match lget ls n, nol ls n with
  | some (.inl x), true => frc (lset ls n (some (.inl (x + iv)))) (fun ls' => X nxt ls' st f a)
  | _, _ => False
def ins (E : En) (post : PT) (X : XT) (i : Instr) (nxt tgt : Nat) (ts : List Nat) (iv : Int32) (ls : Lcs) (st : List AV) (f : FF) (a : AA) : Prop := match i with
  | .iconst _ => X nxt ls (.inl iv :: st) f a
  | .bipush _ => X nxt ls (.inl iv :: st) f a
  | .sipush _ => X nxt ls (.inl iv :: st) f a
  | .lconst n => X nxt ls (.inr (.inl (Int64.ofNat n.val)) :: st) f a
  | .ldc n => ldcX X (as2 E.2.2.2.1 n) nxt ls st f a
  | .ldc_w n => ldwX X (as2 E.2.2.2.1 n) nxt ls st f a
  | .ldc2_w n => ld2X X (as2 E.2.2.2.1 n) nxt ls st f a
  | .iload_n n => ldI X n.val nxt ls st f a
  | .iload n => ldI X n nxt ls st f a
  | .lload_n n => ldL X n.val nxt ls st f a
  | .lload n => ldL X n nxt ls st f a
  | .aload_n n => ldA X n.val nxt ls st f a
  | .aload n => ldA X n nxt ls st f a
  | .istore_n n => stI X n.val nxt ls st f a
  | .istore n => stI X n nxt ls st f a
  | .astore_n n => stA X n.val nxt ls st f a
  | .astore n => stA X n nxt ls st f a
  | .lstore n => stL X n nxt ls st f a
  | .iinc n _ => incX X n iv nxt ls st f a
  | .iadd => op2 X (fun x y => x + y) nxt ls st f a
  | .isub => op2 X (fun x y => x - y) nxt ls st f a
  | .imul => op2 X (fun x y => x * y) nxt ls st f a
  | .iand => op2 X (fun x y => x &&& y) nxt ls st f a
  | .ior => op2 X (fun x y => x ||| y) nxt ls st f a
  | .ixor => op2 X (fun x y => x ^^^ y) nxt ls st f a
  | .ishl => op2 X (fun x y => x <<< (y &&& 31)) nxt ls st f a
  | .ishr => op2 X (fun x y => x >>> (y &&& 31)) nxt ls st f a
  | .iushr => op2 X (fun x y => (x.toUInt32 >>> (y.toUInt32 &&& Int32.toUInt32 31)).toInt32) nxt ls st f a
  | .idiv => dv2 X (fun x y => x / y) nxt ls st f a
  | .irem => dv2 X (fun x y => x - x / y * y) nxt ls st f a
  | .i2b => op1 X (fun x => x.toInt8.toInt32) nxt ls st f a
  | .i2s => op1 X (fun x => x.toInt16.toInt32) nxt ls st f a
  | .i2l => match st with
    | .inl x :: r => X nxt ls (.inr (.inl x.toInt64) :: r) f a
    | _ => False
  | .ladd => match st with
    | .inr (.inl y) :: .inr (.inl x) :: r => X nxt ls (.inr (.inl (x + y)) :: r) f a
    | _ => False
  | .lcmp => match st with
    | .inr (.inl y) :: .inr (.inl x) :: r => X nxt ls (.inl (lg_cmp x y) :: r) f a
    | _ => False
  | .dup => dupX X nxt ls st f a
  | .dup2 => dp2X X nxt ls st f a
  | .pop => match st with
    | .inl _ :: r => X nxt ls r f a
    | _ => False
  | .goto _ => X tgt ls st f a
  | .ifCond c _ => br1 X c nxt tgt ls st f a
  | .if_icmp c _ => br2 X c nxt tgt ls st f a
  | .tableswitch _ lo hi _ => match st with
    | .inl x :: r => allT x (fun t => X t ls r f a) ts 0 lo ∧ (x.toInt < lo ∨ hi < x.toInt → X tgt ls r f a)
    | _ => False
  | .getfield n => getF X (as2 E.2.2.1 n) nxt ls st f a
  | .putfield n => putF X (as2 E.2.2.1 n) nxt ls st f a
  | .iaload => ldX X (fun n => Nat.beq n 2) nxt ls st f a
  | .baload => ldX X (fun n => Nat.beq n 3 || Nat.beq n 4) nxt ls st f a
  | .aaload => ldR X nxt ls st f a
  | .arraylength => alN X nxt ls st f a
  | .iastore => stX X nxt ls st f a
  | .bastore => stB X nxt ls st f a
  | .invokevirtual n => callX X false (as2 E.2.1 n) nxt ls st f a
  | .invokestatic n => callX X true (as2 E.2.1 n) nxt ls st f a
  | .ireturn => retI E.2.2.2.2 post st f a
  | .areturn => retA E.2.2.2.2 post st f a
  | .return_ => retV E.2.2.2.2 post st f a
  | _ => False
def stp (E : En) (post : PT) (X : XT) (pc : Nat) (ls : Lcs) (st : List AV) (f : FF) (a : AA) : Prop := match lk E.1 pc with
  | some (_, i, _, nxt, tgt, ts, iv) => ins E post X i nxt tgt ts iv ls st f a
  | none => False
def inB : List Nat → Nat → Bool
  | [], _ => false
  | b :: r, n => Nat.beq b n || inB r n
/-- many steps, up to the places of B -/
def sym (E : En) (post : PT) (X : XT) (B : List Nat) : Nat → XT
  | 0 => X
  | n + 1 => fun pc ls st f a => stp E post (fun pc' ls' st' f' a' => bif inB B pc' then X pc' ls' st' f' a' else sym E post X B n pc' ls' st' f' a') pc ls st f a
/-- X is closed under what the machine does -/
def Clo (E : En) (post : PT) (X : XT) : Prop := ∀ (B : List Nat) (n pc : Nat) (ls : Lcs) (st : List AV) (f : FF) (a : AA), sym E post X B n pc ls st f a → X pc ls st f a
/-! calls, fields and constants that a method's text may use -/
def CallOK (g : Gm) (lvl : Nat) (own : String) (idx : Nat) (b : Bool) (n : Nat) (sp : SP) : Prop :=
  ∀ (p : Program) (e : Env) (s : State) (m : MethodId) (args : Array Value) (below : List Frame) (meth : Method) (c : Code) (cc : ByteArray) (nL : Nat) (Qg : State → Prop) (H : Heap) (locs : List Loc) (ls : Array Slot) (pc : Nat) (As rest : List AV) (f : FF) (a : AA) (Q : PT),
    p.tables.exec = Jvm.exec → c.code = cc → c.maxLocals = nL → s.vm.findClass own = some m.cls → (∀ w ∈ WS, w.before args s = true) → gG g s → gW g f a H → va_S (gA g) s.heap H locs → ls.size = nL → cats rest ≤ 8 → As.length = n → (∀ v ∈ As, vld v) →
    decode cc pc = .ok (bif b then .invokestatic idx else .invokevirtual idx, 3) → sp As f a Q →
    (∀ (r : Option AV) (f' : FF) (a' : AA) (H1 : Heap) (locs1 : List Loc), Q r f' a' → (∀ v, r = some v → vld v) → gW g f' a' H1 → va_S (gA g) s.heap H1 locs1 → W p (gL g) e (rmL lvl) s m args below meth c H1 locs1 0 0 Qg (F0 m (pc + 3) ls ((r.toList ++ rest).map (cv (gAd g))))) →
    W p (gL g) e (rmL lvl) s m args below meth c H locs 0 0 Qg (F0 m pc ls ((As.reverse ++ rest).map (cv (gAd g))))
def CstOK (g : Gm) (own : String) (idx : Nat) (v : AV) : Prop :=
  ∀ (p : Program) (e : Env) (R : Room) (s : State) (m : MethodId) (args : Array Value) (below : List Frame) (meth : Method) (c : Code) (cc : ByteArray) (Qg : State → Prop) (H : Heap) (locs : List Loc) (ls : Array Slot) (pc len : Nat) (rest : List Value) (i : Instr),
    p.tables.exec = Jvm.exec → c.code = cc → s.vm.findClass own = some m.cls → (∀ w ∈ WS, w.before args s = true) → gG g s → va_S (gA g) s.heap H locs →
    decode cc pc = .ok (i, len) → len = lenI i → cstI i idx v → W p (gL g) e R s m args below meth c H locs 0 0 Qg (F0 m (pc + len) ls (cv (gAd g) v :: rest)) →
    W p (gL g) e R s m args below meth c H locs 0 0 Qg (F0 m pc ls rest)
def FldOK (own : String) (idx t k : Nat) : Prop :=
  ∃ (C : String) (T : u_T) (N : Nat), vwCl[t]? = some (C, T, N) ∧ k < N ∧ Cond.fieldLink own idx (T k).1 (T k).2.1 (T k).2.2.1 ∈ WS ∧ ∀ w ∈ u_ws C T N, w ∈ WS
end
section
/-! the world: where a cell stands, what a write makes of it -/
theorem ks_nd : KS.Nodup := by decide +kernel
theorem ks_get0 : KS.all (fun q => !(Nat.beq q.2.2 0) || (List.range (nfl q.1)).all (fun k => match fk q.1 k with
    | 0 => true
    | 1 => true
    | 6 => KS.contains (oref k)
    | _ => KS.contains (q.1, q.2.1, k + 1))) = true := by decide +kernel
theorem ks_ref0 : KS.all (fun q => match q with
    | (4, _, k + 1) => !(Nat.beq (fk 4 k) 5) || (List.range (al 4 k)).all (fun j => KS.contains ((raf k).1, (raf k).2 + j, 0))
    | _ => true) = true := by decide +kernel
theorem ks_nine : ∀ q ∈ KS, q.1 < 6 := by decide +kernel
theorem ks_nfl : ∀ t, t < 6 → (vwCl[t]?).map (fun q => q.2.2) = some (nfl t) := by decide +kernel
theorem ks_has {q : Ky} (h : kok q) (hn : q.1 < 6) : q ∈ KS := h.elim id (fun h => by have := h.1; omega)
theorem ks_has1 {t i k : Nat} (h : kok (t, i, k + 1)) : (t, i, k + 1) ∈ KS := h.elim id (fun h => absurd h.2.2 (Nat.succ_ne_zero k))
theorem ks_get (f : FF) {t i k : Nat} (h : (t, i, 0) ∈ KS) (hk : k < nfl t) : vld (gfv f t i k) := by
  have h1 := List.all_eq_true.mp ks_get0 _ h
  simp only [Nat.beq_refl, Bool.not_true, Bool.false_or] at h1
  have h2 := List.all_eq_true.mp h1 k (List.mem_range.mpr hk)
  unfold gfv
  split <;> rename_i hf <;> simp only [hf] at h2
  · trivial
  · trivial
  · exact Or.inl (List.contains_iff_mem.mp h2)
  · exact Or.inl (List.contains_iff_mem.mp h2)
theorem ks_ref {i k j : Nat} (h : (4, i, k + 1) ∈ KS) (hf : fk 4 k = 5) (hj : j < al 4 k) : ((raf k).1, (raf k).2 + j, 0) ∈ KS := by
  have h1 := List.all_eq_true.mp ks_ref0 _ h
  simp only [hf, Nat.beq_refl, Bool.not_true, Bool.false_or] at h1
  exact List.contains_iff_mem.mp (List.all_eq_true.mp h1 j (List.mem_range.mpr hj))
theorem cells_at {ad : Ky → Nat} {cy : Nat → ClassId} (f : FF) (a : AA) {q : Ky} (h : q ∈ KS) : ∃ q0 : Nat, KS[q0]? = some q ∧ (cells ad cy f a)[q0]? = some (ad q, el ad cy f a q) := by
  obtain ⟨q0, h0⟩ := List.getElem?_of_mem h
  exact ⟨q0, h0, by rw [cells, List.getElem?_map, h0]; rfl⟩
theorem cells_set {ad : Ky → Nat} {cy : Nat → ClassId} {f f' : FF} {a a' : AA} {q : Ky} {q0 : Nat} {e : va_E} (h0 : KS[q0]? = some q) (he : el ad cy f' a' q = e) (ho : ∀ q', q' ≠ q → el ad cy f' a' q' = el ad cy f a q') : (cells ad cy f a).set q0 (ad q, e) = cells ad cy f' a' := by
  apply List.ext_getElem?
  intro j
  by_cases hj : j = q0
  · subst hj
    have hl : j < (cells ad cy f a).length := by
      rw [cells, List.length_map]
      exact (List.getElem?_eq_some_iff.mp h0).1
    rw [List.getElem?_set_self hl, cells, List.getElem?_map, h0, ← he]
    rfl
  · rw [List.getElem?_set_ne (Ne.symm hj), cells, cells, List.getElem?_map, List.getElem?_map]
    cases hk : KS[j]? with
    | none => rfl
    | some q' =>
      have hne : q' ≠ q := by
        intro heq
        subst heq
        exact hj ((List.getElem?_inj (List.getElem?_eq_some_iff.mp hk).1 ks_nd).mp (hk.trans h0.symm))
      show some (ad q', _) = some (ad q', _)
      rw [ho q' hne]
theorem upf_ne {f : FF} {t i k t' i' k' : Nat} {x : Int32} (h : ¬ (t' = t ∧ i' = i ∧ k' = k)) : upf f t i k x t' i' k' = f t' i' k' := if_neg h
theorem upf_eq {f : FF} {t i k : Nat} {x : Int32} : upf f t i k x t i k = x := if_pos ⟨rfl, rfl, rfl⟩
theorem upA_ne {a : AA} {t i k t' i' k' : Nat} {x : Nat → Int32} (h : ¬ (t' = t ∧ i' = i ∧ k' = k)) : upA a t i k x t' i' k' = a t' i' k' := if_neg h
theorem upA_eq {a : AA} {t i k : Nat} {x : Nat → Int32} : upA a t i k x t i k = x := if_pos ⟨rfl, rfl, rfl⟩
theorem gfv_ne {f : FF} {t i k t' i' k' : Nat} {x : Int32} (h : ¬ (t' = t ∧ i' = i ∧ k' = k)) : gfv (upf f t i k x) t' i' k' = gfv f t' i' k' := by
  unfold gfv
  rw [upf_ne h]
theorem el_upf {ad : Ky → Nat} {cy : Nat → ClassId} {f : FF} {a : AA} {t i k : Nat} {x : Int32} (hf : fk t k = 0 ∨ fk t k = 1) : el ad cy (upf f t i k x) a (t, i, 0) = .inr (t, ((List.range (nfl t)).map (fun k => cv ad (gfv f t i k))).set k (.int x)) := by
  show Sum.inr (t, _) = _
  congr 2
  apply List.ext_getElem?
  intro j
  rw [List.getElem?_map]
  by_cases hj : j = k
  · subst hj
    by_cases hl : j < nfl t
    · rw [List.getElem?_set_self (by rw [List.length_map, List.length_range]; exact hl), List.getElem?_range hl]
      show some _ = some _
      congr 1
      unfold gfv
      rcases hf with hf | hf <;> simp [hf, cv, upf]
    · rw [List.getElem?_eq_none (by rw [List.length_range]; omega), List.getElem?_eq_none (by rw [List.length_set, List.length_map, List.length_range]; omega)]
      rfl
  · rw [List.getElem?_set_ne (Ne.symm hj), List.getElem?_map]
    by_cases hl : j < nfl t
    · rw [List.getElem?_range hl]
      show some (cv ad (gfv (upf f t i k x) t i j)) = some (cv ad (gfv f t i j))
      rw [gfv_ne (t' := t) (i' := i) (k' := j) (fun q => hj q.2.2)]
    · rw [List.getElem?_eq_none (by rw [List.length_range]; omega)]
      rfl
theorem el_upf' {ad : Ky → Nat} {cy : Nat → ClassId} {f : FF} {a : AA} {t i k : Nat} {x : Int32} (q : Ky) (h : q ≠ (t, i, 0)) : el ad cy (upf f t i k x) a q = el ad cy f a q := by
  obtain ⟨t', i', k'⟩ := q
  cases k' with
  | succ k' => rfl
  | zero =>
    have hn : ∀ j, ¬ (t' = t ∧ i' = i ∧ j = k) := fun j hj => h (by rw [hj.1, hj.2.1])
    show Sum.inr (t', _) = Sum.inr (t', _)
    congr 2
    apply List.map_congr_left
    intro j _
    rw [gfv_ne (hn j)]
theorem el_upA' {ad : Ky → Nat} {cy : Nat → ClassId} {f : FF} {a : AA} {t i k : Nat} {x : Nat → Int32} (q : Ky) (h : q ≠ (t, i, k + 1)) : el ad cy f (upA a t i k x) q = el ad cy f a q := by
  obtain ⟨t', i', k'⟩ := q
  cases k' with
  | zero => rfl
  | succ k' =>
    have hn : ¬ (t' = t ∧ i' = i ∧ k' = k) := fun hj => h (by rw [hj.1, hj.2.1, hj.2.2])
    simp only [el, upA_ne hn]
/-- the place of a row in the list of array kinds -/
theorem el_row {ad : Ky → Nat} {cy : Nat → ClassId} {f : FF} {a : AA} {t i k : Nat} : (fk t k = 2 → el ad cy f a (t, i, k + 1) = .inl (cy 0, al t k, .inl (a t i k))) ∧ (fk t k = 3 → el ad cy f a (t, i, k + 1) = .inl (cy 1, al t k, .inl (a t i k))) ∧ (fk t k = 4 → el ad cy f a (t, i, k + 1) = .inl (cy 2, al t k, .inl (a t i k))) ∧ (fk t k = 5 → el ad cy f a (t, i, k + 1) = .inl (cy (2 + (raf k).1), al t k, .inr (.inr (.inr (.inr (fun j => some (ad ((raf k).1, (raf k).2 + j, 0)))))))) := by
  refine ⟨?_, ?_, ?_, ?_⟩ <;> intro h <;> simp only [el, h]
theorem gD_ok {g : Gm} (hg : GmOK g) (f : FF) (a : AA) : va_D (gA g) (cells (gAd g) (gCy g) f a) := by
  refine ⟨fun i j p q hi hj hpq => ?_, fun k q hk => ?_⟩
  · rw [cells, List.getElem?_map] at hi hj
    cases h1 : KS[i]? with
    | none => rw [h1] at hi; cases hi
    | some x =>
      cases h2 : KS[j]? with
      | none => rw [h2] at hj; cases hj
      | some y =>
        rw [h1] at hi; rw [h2] at hj
        cases hi; cases hj
        have hxy : x = y := hg.1 x y (List.mem_of_getElem? h1) (List.mem_of_getElem? h2) hpq
        subst hxy
        exact (List.getElem?_inj (List.getElem?_eq_some_iff.mp h1).1 ks_nd).mp (h1.trans h2.symm)
  · rw [cells, List.getElem?_map] at hk
    cases h1 : KS[k]? with
    | none => rw [h1] at hk; cases hk
    | some x =>
      rw [h1] at hk
      cases hk
      exact hg.2.1 x (List.mem_of_getElem? h1)
/-! locals -/
theorem lget_lt : ∀ {ls : Lcs} {j : Nat} {v : AV}, lget ls j = some v → j < ls.length
  | [], _, _, h => by cases h
  | _ :: _, 0, _, _ => Nat.succ_pos _
  | _ :: r, j + 1, _, h => Nat.succ_lt_succ (lget_lt (ls := r) h)
theorem lset_len : ∀ (ls : Lcs) (n : Nat) (x : Option AV), (lset ls n x).length = ls.length
  | [], _, _ => rfl
  | _ :: _, 0, _ => rfl
  | _ :: r, n + 1, x => congrArg (· + 1) (lset_len r n x)
theorem lget_set_ne : ∀ (ls : Lcs) {n j : Nat} (x : Option AV), j ≠ n → lget (lset ls n x) j = lget ls j
  | [], _, _, _, _ => rfl
  | _ :: _, 0, 0, _, h => absurd rfl h
  | _ :: _, 0, _ + 1, _, _ => rfl
  | _ :: _, _ + 1, 0, _, _ => rfl
  | _ :: r, n + 1, j + 1, x, h => lget_set_ne r x (fun e => h (by rw [e]))
theorem lget_set_eq : ∀ (ls : Lcs) {n : Nat} (x v : Option AV), lget (lset ls n x) n = v → v = none ∨ v = x
  | [], _, _, _, h => Or.inl h.symm
  | _ :: _, 0, _, _, h => Or.inr h.symm
  | _ :: r, n + 1, x, v, h => lget_set_eq r x v h
theorem frc_eq : ∀ (ls : Lcs) (k : Lcs → Prop), frc ls k = k ls
  | [], _ => rfl
  | v :: r, k => frc_eq r (fun r' => k (v :: r'))
theorem cv_cat (ad : Ky → Nat) (v : AV) : (cv ad v).category = cat1 v := by
  rcases v with x | x | k <;> rfl
theorem LV.at {ad : Ky → Nat} {nL : Nat} {ls : Lcs} {A : Array Slot} (h : LV ad nL ls A) {j : Nat} {v : AV} (hj : lget ls j = some v) : A[j]? = some (.val (cv ad v)) ∧ vld v := by
  obtain ⟨-, lv, hl, hm⟩ := h
  exact ⟨hl.2.2 _ (hm j v hj).1, (hm j v hj).2⟩
theorem LV.set1 {ad : Ky → Nat} {nL : Nat} {ls : Lcs} {A' : Array Slot} {lv : List (Nat × Value)} {n : Nat} {v : AV} (hlen : ls.length = nL) (hm : ∀ (j : Nat) (v : AV), lget ls j = some v → (j, cv ad v) ∈ lv ∧ vld v) (hno : nol ls n = true) (hv : vld v)
    (h' : lv_has A' nL ((n, cv ad v) :: lv.filter (fun q => !(q.1 == n) && !(q.1 + 1 == n && q.2.category == 2)))) : LV ad nL (lset ls n (some v)) A' := by
  refine ⟨(lset_len ls n _).trans hlen, _, h', fun j w hj => ?_⟩
  by_cases hjn : j = n
  · subst hjn
    rcases lget_set_eq ls _ _ hj with h | h
    · cases h
    · cases h
      exact ⟨List.mem_cons_self, hv⟩
  · rw [lget_set_ne ls _ hjn] at hj
    refine ⟨List.mem_cons_of_mem _ (List.mem_filter.mpr ⟨(hm j w hj).1, ?_⟩), (hm j w hj).2⟩
    have h1 : (j == n) = false := by simp [hjn]
    have h2 : (j + 1 == n && (cv ad w).category == 2) = false := by
      by_cases hq : j + 1 = n
      · subst hq
        rw [cv_cat]
        have h3 : (match lget ls j with
          | some (.inr (.inl _)) => false
          | _ => true) = true := hno
        rw [hj] at h3
        rcases w with x | x | k
        · simp [cat1]
        · cases h3
        · simp [cat1]
      · simp [hq]
    simp only [h1, h2, Bool.not_false, Bool.and_self]
end
section
/-! each instruction's clause holds of the machine -/
def Wp (g : Gm) (p : Program) (e : Env) (R : Room) (s : State) (m : MethodId) (args : Array Value) (below : List Frame) (meth : Method) (c : Code) (nL : Nat) (Qg : State → Prop) : XT := fun pc ls st f a =>
  ∀ (H : Heap) (locs : List Loc) (A : Array Slot), gW g f a H → va_S (gA g) s.heap H locs → LV (gAd g) nL ls A → (∀ v ∈ st, vld v) → W p (gL g) e R s m args below meth c H locs 0 0 Qg (F0 m pc A (st.map (cv (gAd g))))
def retOK (rt : Nat) (ret : Option FieldType) : Prop := match rt with
  | 0 => ret = some .int
  | 1 => ret = some .boolean
  | 2 => ret = none
  | 3 => ∃ C, ret = some (.object C)
  | _ => False
def EnvOK (g : Gm) (lvl : Nat) (own : String) (cc : ByteArray) (ret : Option FieldType) (E : En) : Prop :=
  okT cc E.1 = true ∧ (∀ idx b n sp, as2 E.2.1 idx = some (b, n, sp) → CallOK g lvl own idx b n sp) ∧ (∀ idx t k, as2 E.2.2.1 idx = some (t, k) → FldOK own idx t k) ∧ (∀ idx v, as2 E.2.2.2.1 idx = some v → CstOK g own idx v ∧ vld v) ∧ retOK E.2.2.2.2 ret
theorem lkc_mem : ∀ {T : List Et} {pc : Nat} {e : Et}, lkc T pc = some e → e ∈ T ∧ e.1 = pc
  | [], _, _, h => by cases h
  | x :: r, pc, e, h => by
    unfold lkc at h
    cases hb : Nat.beq x.1 pc with
    | true =>
      rw [hb] at h
      cases h
      exact ⟨List.mem_cons_self, Nat.eq_of_beq_eq_true hb⟩
    | false =>
      rw [hb] at h
      obtain ⟨h1, h2⟩ := lkc_mem h
      exact ⟨List.mem_cons_of_mem _ h1, h2⟩
theorem lk_mem : ∀ {T : List (Nat × List Et)} {pc : Nat} {e : Et}, lk T pc = some e → ∃ ch ∈ T, e ∈ ch.2 ∧ e.1 = pc
  | [], _, _, h => by cases h
  | x :: r, pc, e, h => by
    unfold lk at h
    cases hb : Nat.ble pc x.1 with
    | true =>
      rw [hb] at h
      exact ⟨x, List.mem_cons_self, lkc_mem h⟩
    | false =>
      rw [hb] at h
      obtain ⟨ch, h1, h2⟩ := lk_mem h
      exact ⟨ch, List.mem_cons_of_mem _ h1, h2⟩
theorem va_lt {v : AV} {r : List AV} (h : ∀ w ∈ v :: r, vld w) : vld v ∧ ∀ w ∈ r, vld w := ⟨h v List.mem_cons_self, fun w hw => h w (List.mem_cons_of_mem _ hw)⟩
theorem va_ad {v : AV} {r : List AV} (hv : vld v) (h : ∀ w ∈ r, vld w) : ∀ w ∈ v :: r, vld w := fun w hw => (List.mem_cons.mp hw).elim (fun e => e ▸ hv) (h w)
theorem popA_ok : ∀ {n : Nat} {acc st : List AV} {k : List AV → List AV → Prop}, popA n acc st k → ∃ As r, k (As ++ acc) r ∧ st = As.reverse ++ r ∧ As.length = n
  | 0, acc, st, k, h => ⟨[], st, h, rfl, rfl⟩
  | n + 1, acc, [], k, h => h.elim
  | n + 1, acc, v :: st, k, h => by
    obtain ⟨As, r, h1, h2, h3⟩ := popA_ok (n := n) h
    refine ⟨As ++ [v], r, by rw [List.append_assoc]; exact h1, ?_, by rw [List.length_append, h3]; rfl⟩
    rw [h2, List.reverse_append]
    rfl
theorem cats_sum (ad : Ky → Nat) : ∀ r : List AV, ((r.map (cv ad)).map fun v => v.category).sum = cats r
  | [] => rfl
  | v :: r => by
    rw [List.map_cons, List.map_cons, List.sum_cons, cv_cat, cats_sum ad r]
    rfl
section Steps
variable {g : Gm} {p : Program} {e : Env} {lvl : Nat} {s : State} {m : MethodId} {args : Array Value} {below : List Frame} {meth : Method} {c : Code} {cc : ByteArray} {nL : Nat} {own : String} {Qg : State → Prop} {Y : XT} {pc nxt tgt len : Nat} {ls : Lcs} {st : List AV} {f : FF} {a : AA}
/-- what holds of the machine all the while -/
def Fx (g : Gm) (p : Program) (s : State) (m : MethodId) (args : Array Value) (c : Code) (cc : ByteArray) (nL : Nat) (own : String) : Prop :=
  p.tables.exec = Jvm.exec ∧ c.code = cc ∧ c.maxLocals = nL ∧ s.vm.findClass own = some m.cls ∧ (∀ w ∈ WS, w.before args s = true) ∧ gG g s
theorem s_ldI (F : Fx g p s m args c cc nL own) (hY : ∀ pc ls st f a, Y pc ls st f a → Wp g p e (rmL lvl) s m args below meth c nL Qg pc ls st f a) {n : Nat} (hd : (∃ k : Fin 4, k.val = n ∧ decode cc pc = .ok (.iload_n k, 1) ∧ nxt = pc + 1) ∨ (decode cc pc = .ok (.iload n, 2) ∧ nxt = pc + 2)) (h : ldI Y n nxt ls st f a) : Wp g p e (rmL lvl) s m args below meth c nL Qg pc ls st f a := by
  intro H locs A hP hS hL hV
  unfold ldI at h
  split at h
  · rename_i x hx
    have hA := (hL.at hx).1
    rcases hd with ⟨k, hk, hd, rfl⟩ | ⟨hd, rfl⟩
    · exact lv_iload_n F.1 F.2.1 hd hk hA (hY _ _ _ _ _ h H locs A hP hS hL (va_ad trivial hV))
    · exact lv_iload F.1 F.2.1 hd hA (hY _ _ _ _ _ h H locs A hP hS hL (va_ad trivial hV))
  · exact h.elim
theorem s_ldL (F : Fx g p s m args c cc nL own) (hY : ∀ pc ls st f a, Y pc ls st f a → Wp g p e (rmL lvl) s m args below meth c nL Qg pc ls st f a) {n : Nat} (hd : (∃ k : Fin 4, k.val = n ∧ decode cc pc = .ok (.lload_n k, 1) ∧ nxt = pc + 1) ∨ (decode cc pc = .ok (.lload n, 2) ∧ nxt = pc + 2)) (h : ldL Y n nxt ls st f a) : Wp g p e (rmL lvl) s m args below meth c nL Qg pc ls st f a := by
  intro H locs A hP hS hL hV
  unfold ldL at h
  split at h
  · rename_i x hx
    have hA := (hL.at hx).1
    rcases hd with ⟨k, hk, hd, rfl⟩ | ⟨hd, rfl⟩
    · exact lv_lload_n F.1 F.2.1 hd hk hA (hY _ _ _ _ _ h H locs A hP hS hL (va_ad trivial hV))
    · exact lv_lload F.1 F.2.1 hd hA (hY _ _ _ _ _ h H locs A hP hS hL (va_ad trivial hV))
  · exact h.elim
theorem s_ldA (F : Fx g p s m args c cc nL own) (hY : ∀ pc ls st f a, Y pc ls st f a → Wp g p e (rmL lvl) s m args below meth c nL Qg pc ls st f a) {n : Nat} (hd : (∃ k : Fin 4, k.val = n ∧ decode cc pc = .ok (.aload_n k, 1) ∧ nxt = pc + 1) ∨ (decode cc pc = .ok (.aload n, 2) ∧ nxt = pc + 2)) (h : ldA Y n nxt ls st f a) : Wp g p e (rmL lvl) s m args below meth c nL Qg pc ls st f a := by
  intro H locs A hP hS hL hV
  unfold ldA at h
  split at h
  · rename_i x hx
    have hA := hL.at hx
    rcases hd with ⟨k, hk, hd, rfl⟩ | ⟨hd, rfl⟩
    · exact lv_aload_n F.1 F.2.1 hd hk hA.1 (hY _ _ _ _ _ h H locs A hP hS hL (va_ad hA.2 hV))
    · exact lv_aload F.1 F.2.1 hd hA.1 (hY _ _ _ _ _ h H locs A hP hS hL (va_ad hA.2 hV))
  · exact h.elim
theorem s_stI (F : Fx g p s m args c cc nL own) (hY : ∀ pc ls st f a, Y pc ls st f a → Wp g p e (rmL lvl) s m args below meth c nL Qg pc ls st f a) {n : Nat} (hd : (∃ k : Fin 4, k.val = n ∧ decode cc pc = .ok (.istore_n k, 1) ∧ nxt = pc + 1) ∨ (decode cc pc = .ok (.istore n, 2) ∧ nxt = pc + 2)) (h : stI Y n nxt ls st f a) : Wp g p e (rmL lvl) s m args below meth c nL Qg pc ls st f a := by
  intro H locs A hP hS hL hV
  unfold stI at h
  split at h
  · rename_i hno hlt
    rw [frc_eq] at h
    obtain ⟨hlen, lv, hl, hm⟩ := hL
    have hn : n < nL := by
      have h1 : Nat.ble (n + 1) ls.length = true := hlt
      have := Nat.le_of_ble_eq_true h1
      omega
    rcases hd with ⟨k, hk, hd, rfl⟩ | ⟨hd, rfl⟩
    · exact lv_istore_n F.1 F.2.1 hd hk hl hn rfl (fun A' hA' => hY _ _ _ _ _ h H locs A' hP hS (LV.set1 hlen hm hno trivial hA') (va_lt hV).2)
    · exact lv_istore F.1 F.2.1 hd hl hn rfl (fun A' hA' => hY _ _ _ _ _ h H locs A' hP hS (LV.set1 hlen hm hno trivial hA') (va_lt hV).2)
  · exact h.elim
theorem s_stA (F : Fx g p s m args c cc nL own) (hY : ∀ pc ls st f a, Y pc ls st f a → Wp g p e (rmL lvl) s m args below meth c nL Qg pc ls st f a) {n : Nat} (hd : (∃ k : Fin 4, k.val = n ∧ decode cc pc = .ok (.astore_n k, 1) ∧ nxt = pc + 1) ∨ (decode cc pc = .ok (.astore n, 2) ∧ nxt = pc + 2)) (h : stA Y n nxt ls st f a) : Wp g p e (rmL lvl) s m args below meth c nL Qg pc ls st f a := by
  intro H locs A hP hS hL hV
  unfold stA at h
  split at h
  · rename_i hno hlt
    rw [frc_eq] at h
    obtain ⟨hlen, lv, hl, hm⟩ := hL
    have hn : n < nL := by
      have h1 : Nat.ble (n + 1) ls.length = true := hlt
      have := Nat.le_of_ble_eq_true h1
      omega
    rcases hd with ⟨k, hk, hd, rfl⟩ | ⟨hd, rfl⟩
    · exact lv_astore_n F.1 F.2.1 hd hk hl hn rfl (fun A' hA' => hY _ _ _ _ _ h H locs A' hP hS (LV.set1 hlen hm hno (va_lt hV).1 hA') (va_lt hV).2)
    · exact lv_astore F.1 F.2.1 hd hl hn rfl (fun A' hA' => hY _ _ _ _ _ h H locs A' hP hS (LV.set1 hlen hm hno (va_lt hV).1 hA') (va_lt hV).2)
  · exact h.elim
theorem s_inc (F : Fx g p s m args c cc nL own) (hY : ∀ pc ls st f a, Y pc ls st f a → Wp g p e (rmL lvl) s m args below meth c nL Qg pc ls st f a) {n : Nat} {z : Int} {iv : Int32} (hd : decode cc pc = .ok (.iinc n z, 3) ∧ nxt = pc + 3) (hz : Int32.ofInt z = iv) (h : incX Y n iv nxt ls st f a) : Wp g p e (rmL lvl) s m args below meth c nL Qg pc ls st f a := by
  intro H locs A hP hS hL hV
  unfold incX at h
  split at h
  · rename_i x hx hno
    rw [frc_eq] at h
    obtain ⟨hlen, lv, hl, hm⟩ := hL
    have hn : n < nL := by
      have := lget_lt hx
      omega
    obtain ⟨k, hk⟩ := List.getElem?_of_mem (hm n _ hx).1
    obtain ⟨hd, rfl⟩ := hd
    exact lv_iinc F.1 F.2.1 hd hl hk (by rw [hz]) hn rfl (fun A' hA' => hY _ _ _ _ _ h H locs A' hP hS (LV.set1 hlen hm hno trivial hA') hV)
  · exact h.elim
theorem s_stL (F : Fx g p s m args c cc nL own) (hY : ∀ pc ls st f a, Y pc ls st f a → Wp g p e (rmL lvl) s m args below meth c nL Qg pc ls st f a) {n : Nat} (hd : decode cc pc = .ok (.lstore n, 2) ∧ nxt = pc + 2) (h : stL Y n nxt ls st f a) : Wp g p e (rmL lvl) s m args below meth c nL Qg pc ls st f a := by
  intro H locs A hP hS hL hV
  unfold stL at h
  split at h
  · rename_i hno hlt
    rw [frc_eq] at h
    obtain ⟨hlen, lv, hl, hm⟩ := hL
    have hn : n + 1 < nL := by
      have h1 : Nat.ble (n + 1 + 1) ls.length = true := hlt
      have := Nat.le_of_ble_eq_true h1
      omega
    obtain ⟨hd, rfl⟩ := hd
    refine lv_lstore F.1 F.2.1 hd hl hn rfl (fun A' hA' => hY _ _ _ _ _ h H locs A' hP hS ?_ (va_lt hV).2)
    refine ⟨by rw [lset_len, lset_len, hlen], _, hA', fun j w hj => ?_⟩
    by_cases h1 : j = n + 1
    · subst h1
      rcases lget_set_eq _ _ _ hj with q | q <;> cases q
    · rw [lget_set_ne _ _ h1] at hj
      by_cases h2 : j = n
      · subst h2
        rcases lget_set_eq _ _ _ hj with q | q
        · cases q
        · cases q
          exact ⟨List.mem_cons_self, trivial⟩
      · rw [lget_set_ne _ _ h2] at hj
        refine ⟨List.mem_cons_of_mem _ (List.mem_filter.mpr ⟨(hm j w hj).1, ?_⟩), (hm j w hj).2⟩
        have h4 : (j + 1 == n && (cv (gAd g) w).category == 2) = false := by
          by_cases hq : j + 1 = n
          · subst hq
            rw [cv_cat]
            have h3 : (match lget ls j with
              | some (.inr (.inl _)) => false
              | _ => true) = true := hno
            rw [hj] at h3
            rcases w with x | x | k
            · simp [cat1]
            · cases h3
            · simp [cat1]
          · simp [hq]
        have h5 : (j == n) = false := by simp [h2]
        have h6 : (j == n + 1) = false := by simp [h1]
        simp only [h4, h5, h6, Bool.not_false, Bool.and_self]
  · exact h.elim
end Steps
end
section
/-! fields, rows, calls, returns; all of it together -/
theorem cl_ty : ∀ (t : Nat) (C : String) (T : u_T) (N : Nat), vwCl[t]? = some (C, T, N) → ∃ ty0 : Nat → FieldType, (∀ k, k < N → parseFieldDescriptor (T k).2.2.1 = some (ty0 k)) ∧ ∀ a, a < N → ∀ b, b < N → a ≠ b → (T a).2.1 ≠ (T b).2.1
  | 0, _, _, _, h => by cases h; exact ⟨_, tyX0_ok, nmX0⟩
  | 1, _, _, _, h => by cases h; exact ⟨_, tyX1_ok, nmX1⟩
  | 2, _, _, _, h => by cases h; exact ⟨_, tyX2_ok, nmX2⟩
  | 3, _, _, _, h => by cases h; exact ⟨_, tyX3_ok, nmX3⟩
  | 4, _, _, _, h => by cases h; exact ⟨_, tyX4_ok, nmX4⟩
  | 5, _, _, _, h => by cases h; exact ⟨_, tyX5_ok, nmX5⟩
  | t + 6, _, _, _, h => by cases h
def fkOK (t : Nat) (T : u_T) (k : Nat) : Bool := (!(Nat.beq (fk t k) 0) || (decide ((T k).2.2.2 = false) && decide (parseFieldDescriptor (T k).2.2.1 = some .int))) && (!(Nat.beq (fk t k) 1) || (decide ((T k).2.2.2 = false) && decide (parseFieldDescriptor (T k).2.2.1 = some .boolean)))
theorem cl_fk0 : ∀ (t : Nat) (C : String) (T : u_T) (N : Nat), vwCl[t]? = some (C, T, N) → ∀ k, k < N → fkOK t T k = true
  | 0, _, _, _, h => by cases h; decide +kernel
  | 1, _, _, _, h => by cases h; decide +kernel
  | 2, _, _, _, h => by cases h; decide +kernel
  | 3, _, _, _, h => by cases h; decide +kernel
  | 4, _, _, _, h => by cases h; decide +kernel
  | 5, _, _, _, h => by cases h; decide +kernel
  | t + 6, _, _, _, h => by cases h
theorem cl_fk {t : Nat} {C : String} {T : u_T} {N k : Nat} (h : vwCl[t]? = some (C, T, N)) (hk : k < N) : (fk t k = 0 → (T k).2.2.2 = false ∧ parseFieldDescriptor (T k).2.2.1 = some .int) ∧ (fk t k = 1 → (T k).2.2.2 = false ∧ parseFieldDescriptor (T k).2.2.1 = some .boolean) := by
  have h1 := cl_fk0 t C T N h k hk
  unfold fkOK at h1
  simp only [Bool.and_eq_true, Bool.or_eq_true, Bool.not_eq_true', decide_eq_true_eq] at h1
  refine ⟨fun hf => ?_, fun hf => ?_⟩
  · rcases h1.1 with q | q
    · rw [hf] at q; cases q
    · exact q
  · rcases h1.2 with q | q
    · rw [hf] at q; cases q
    · exact q
theorem cl_n {t : Nat} {C : String} {T : u_T} {N : Nat} (h : vwCl[t]? = some (C, T, N)) : t < 6 ∧ N = nfl t := by
  have h1 : t < 6 := (List.getElem?_eq_some_iff.mp h).1
  have h2 := ks_nfl t h1
  rw [h] at h2
  exact ⟨h1, Option.some.inj h2⟩
theorem ks_row0 : KS.all (fun q => match q with
    | (t, _, k + 1) => Nat.beq (fk t k) 2 || (Nat.beq (fk t k) 3 || (Nat.beq (fk t k) 4 || Nat.beq (fk t k) 5))
    | _ => true) = true := by decide +kernel
theorem ks_row {t i k : Nat} (h : (t, i, k + 1) ∈ KS) : fk t k = 2 ∨ fk t k = 3 ∨ fk t k = 4 ∨ fk t k = 5 := by
  have h1 := List.all_eq_true.mp ks_row0 _ h
  simp only [Bool.or_eq_true] at h1
  rcases h1 with h | h | h | h
  · exact Or.inl (Nat.eq_of_beq_eq_true h)
  · exact Or.inr (Or.inl (Nat.eq_of_beq_eq_true h))
  · exact Or.inr (Or.inr (Or.inl (Nat.eq_of_beq_eq_true h)))
  · exact Or.inr (Or.inr (Or.inr (Nat.eq_of_beq_eq_true h)))
theorem tyl_raf (cy : Nat → ClassId) (k : Nat) : ∃ C, (tyl cy)[2 + (raf k).1]? = some (cy (2 + (raf k).1), .object C) := by
  unfold raf
  split
  · exact ⟨_, rfl⟩
  · exact ⟨_, rfl⟩
theorem nar_bool {x : Int32} (h : x = 0 ∨ x = 1) : narrow .boolean (.int x) = .int x := by
  rcases h with rfl | rfl <;> decide
section Steps2
variable {g : Gm} {p : Program} {e : Env} {lvl : Nat} {s : State} {m : MethodId} {args : Array Value} {below : List Frame} {meth : Method} {c : Code} {cc : ByteArray} {nL : Nat} {own : String} {Qg : State → Prop} {Y : XT} {pc nxt tgt len : Nat} {ls : Lcs} {st : List AV} {f : FF} {a : AA}
theorem s_getF (hg : GmOK g) (F : Fx g p s m args c cc nL own) (hY : ∀ pc ls st f a, Y pc ls st f a → Wp g p e (rmL lvl) s m args below meth c nL Qg pc ls st f a) {n : Nat} {tk : Option (Nat × Nat)} (hf : ∀ t k, tk = some (t, k) → FldOK own n t k) (hd : decode cc pc = .ok (.getfield n, 3) ∧ nxt = pc + 3) (h : getF Y tk nxt ls st f a) : Wp g p e (rmL lvl) s m args below meth c nL Qg pc ls st f a := by
  intro H locs A hP hS hL hV
  unfold getF at h
  split at h
  · rename_i t k t' i r
    cases hb : Nat.beq t t' with
    | false => rw [hb] at h; exact h.elim
    | true =>
      rw [hb] at h
      have ht := Nat.eq_of_beq_eq_true hb
      subst ht
      obtain ⟨C, T, N, h1, h2, h3, h4⟩ := hf t k rfl
      obtain ⟨ht6, hN⟩ := cl_n h1
      have hks : (t, i, 0) ∈ KS := ks_has (va_lt hV).1 ht6
      obtain ⟨q0, -, hq⟩ := cells_at (ad := gAd g) (cy := gCy g) f a hks
      obtain ⟨hd, rfl⟩ := hd
      have hv : ((List.range (nfl t)).map (fun k => cv (gAd g) (gfv f t i k)))[k]? = some (cv (gAd g) (gfv f t i k)) := by
        rw [List.getElem?_map, List.getElem?_range (by omega)]; rfl
      exact va_get (D := gD g) (Ts := WS) F.1 F.2.1 F.2.2.2.2.1 h4 F.2.2.2.1 (hg.2.2.1 s F.2.2.2.2.2) hP q0 hq h1 k h2 (F.2.2.2.2.1 _ h3) (fun _ q => q) hv hd (hY _ _ _ _ _ h H locs A hP hS hL (va_ad (ks_get f hks (by omega)) (va_lt hV).2))
  · exact h.elim
theorem s_putF (hg : GmOK g) (F : Fx g p s m args c cc nL own) (hY : ∀ pc ls st f a, Y pc ls st f a → Wp g p e (rmL lvl) s m args below meth c nL Qg pc ls st f a) {n : Nat} {tk : Option (Nat × Nat)} (hf : ∀ t k, tk = some (t, k) → FldOK own n t k) (hd : decode cc pc = .ok (.putfield n, 3) ∧ nxt = pc + 3) (h : putF Y tk nxt ls st f a) : Wp g p e (rmL lvl) s m args below meth c nL Qg pc ls st f a := by
  intro H locs A hP hS hL hV
  unfold putF at h
  split at h
  · rename_i t k x t' i r
    cases hb : Nat.beq t t' with
    | false => rw [hb] at h; exact h.elim
    | true =>
      rw [hb] at h
      have ht := Nat.eq_of_beq_eq_true hb
      subst ht
      obtain ⟨C, T, N, h1, h2, h3, h4⟩ := hf t k rfl
      obtain ⟨ht6, hN⟩ := cl_n h1
      have hks : (t, i, 0) ∈ KS := ks_has (va_lt (va_lt hV).2).1 ht6
      obtain ⟨q0, hq0, hq⟩ := cells_at (ad := gAd g) (cy := gCy g) f a hks
      obtain ⟨hd, rfl⟩ := hd
      obtain ⟨ty0, hty, hnm⟩ := cl_ty t C T N h1
      have hl : k < ((List.range (nfl t)).map (fun k => cv (gAd g) (gfv f t i k))).length := by
        rw [List.length_map, List.length_range]; omega
      obtain ⟨hf0, hf1⟩ := cl_fk h1 h2
      have key : (fk t k = 0 ∨ fk t k = 1) → Y (pc + 3) ls r (upf f t i k x) a → ∀ (H1 : Heap) (locs1 : List Loc), va_P (gD g) vwCl ((cells (gAd g) (gCy g) f a).set q0 (gAd g (t, i, 0), .inr (t, ((List.range (nfl t)).map (fun k => cv (gAd g) (gfv f t i k))).set k (.int x)))) H1 → va_S (gA g) s.heap H1 locs1 → W p (gL g) e (rmL lvl) s m args below meth c H1 locs1 0 0 Qg (F0 m (pc + 3) A (r.map (cv (gAd g)))) := by
        intro hfk hh H1 locs1 hP1 hS1
        rw [cells_set (f' := upf f t i k x) (a' := a) hq0 (el_upf hfk) (fun q' hq' => el_upf' q' hq')] at hP1
        exact hY _ _ _ _ _ hh H1 locs1 A hP1 hS1 hL (va_lt (va_lt hV).2).2
      simp only [cond_true] at h
      split at h
      · rename_i hfk
        exact va_put (D := gD g) (Ts := WS) (v := .int x) F.1 F.2.1 F.2.2.2.2.1 h4 ty0 hty hnm F.2.2.2.1 (hg.2.2.1 s F.2.2.2.2.2) hP (gD_ok hg f a) hS q0 hq h1 k h2 (F.2.2.2.2.1 _ h3) (fun _ q => q) (hf0 hfk).1 (hf0 hfk).2 rfl rfl hl hd (fun H1 locs1 hP1 _ hS1 => key (Or.inl hfk) h H1 locs1 hP1 hS1)
      · rename_i hfk
        exact va_put (D := gD g) (Ts := WS) (v := .int x) F.1 F.2.1 F.2.2.2.2.1 h4 ty0 hty hnm F.2.2.2.1 (hg.2.2.1 s F.2.2.2.2.2) hP (gD_ok hg f a) hS q0 hq h1 k h2 (F.2.2.2.2.1 _ h3) (fun _ q => q) (hf1 hfk).1 (hf1 hfk).2 (nar_bool h.1) (by rcases h.1 with rfl | rfl <;> rfl) hl hd (fun H1 locs1 hP1 _ hS1 => key (Or.inr hfk) h.2 H1 locs1 hP1 hS1)
      · exact h.elim
  · exact h.elim
theorem s_iald (hg : GmOK g) (F : Fx g p s m args c cc nL own) (hY : ∀ pc ls st f a, Y pc ls st f a → Wp g p e (rmL lvl) s m args below meth c nL Qg pc ls st f a) (hd : decode cc pc = .ok (.iaload, 1) ∧ nxt = pc + 1) (h : ldX Y (fun n => Nat.beq n 2) nxt ls st f a) : Wp g p e (rmL lvl) s m args below meth c nL Qg pc ls st f a := by
  intro H locs A hP hS hL hV
  unfold ldX at h
  split at h
  · rename_i j t i k r
    dsimp only at h
    cases hb : Nat.beq (fk t k) 2 with
    | false => rw [hb] at h; exact h.elim
    | true =>
      rw [hb] at h
      have hks := ks_has1 (va_lt (va_lt hV).2).1
      obtain ⟨q0, -, hq⟩ := cells_at (ad := gAd g) (cy := gCy g) f a hks
      rw [el_row.1 (Nat.eq_of_beq_eq_true hb)] at hq
      obtain ⟨hd, rfl⟩ := hd
      exact va_iald (D := gD g) F.1 F.2.1 (hg.2.2.1 s F.2.2.2.2.2) hP q0 0 hq rfl h.1 hd (hY _ _ _ _ _ h.2 H locs A hP hS hL (va_ad trivial (va_lt (va_lt hV).2).2))
  · exact h.elim
theorem s_bald (hg : GmOK g) (F : Fx g p s m args c cc nL own) (hY : ∀ pc ls st f a, Y pc ls st f a → Wp g p e (rmL lvl) s m args below meth c nL Qg pc ls st f a) (hd : decode cc pc = .ok (.baload, 1) ∧ nxt = pc + 1) (h : ldX Y (fun n => Nat.beq n 3 || Nat.beq n 4) nxt ls st f a) : Wp g p e (rmL lvl) s m args below meth c nL Qg pc ls st f a := by
  intro H locs A hP hS hL hV
  unfold ldX at h
  split at h
  · rename_i j t i k r
    dsimp only at h
    have hks := ks_has1 (va_lt (va_lt hV).2).1
    obtain ⟨q0, -, hq⟩ := cells_at (ad := gAd g) (cy := gCy g) f a hks
    obtain ⟨hd, rfl⟩ := hd
    cases hb : Nat.beq (fk t k) 3 with
    | true =>
      rw [hb] at h
      rw [el_row.2.1 (Nat.eq_of_beq_eq_true hb)] at hq
      exact va_bald (D := gD g) F.1 F.2.1 (hg.2.2.1 s F.2.2.2.2.2) hP q0 1 hq rfl h.1 hd (hY _ _ _ _ _ h.2 H locs A hP hS hL (va_ad trivial (va_lt (va_lt hV).2).2))
    | false =>
      cases hb2 : Nat.beq (fk t k) 4 with
      | true =>
        rw [hb, hb2] at h
        rw [el_row.2.2.1 (Nat.eq_of_beq_eq_true hb2)] at hq
        exact va_zald (D := gD g) F.1 F.2.1 (hg.2.2.1 s F.2.2.2.2.2) hP q0 2 hq rfl h.1 hd (hY _ _ _ _ _ h.2 H locs A hP hS hL (va_ad trivial (va_lt (va_lt hV).2).2))
      | false => rw [hb, hb2] at h; exact h.elim
  · exact h.elim
theorem s_aald (hg : GmOK g) (F : Fx g p s m args c cc nL own) (hY : ∀ pc ls st f a, Y pc ls st f a → Wp g p e (rmL lvl) s m args below meth c nL Qg pc ls st f a) (hd : decode cc pc = .ok (.aaload, 1) ∧ nxt = pc + 1) (h : ldR Y nxt ls st f a) : Wp g p e (rmL lvl) s m args below meth c nL Qg pc ls st f a := by
  intro H locs A hP hS hL hV
  unfold ldR at h
  split at h
  · rename_i j t i k r
    cases hb : (Nat.beq (fk t k) 5 && Nat.beq t 4) with
    | false => rw [hb] at h; exact h.elim
    | true =>
      rw [hb] at h
      simp only [Bool.and_eq_true] at hb
      have h5 := Nat.eq_of_beq_eq_true hb.1
      have h4 := Nat.eq_of_beq_eq_true hb.2
      subst h4
      have hks := ks_has1 (va_lt (va_lt hV).2).1
      obtain ⟨q0, -, hq⟩ := cells_at (ad := gAd g) (cy := gCy g) f a hks
      rw [el_row.2.2.2 h5] at hq
      obtain ⟨hd, rfl⟩ := hd
      obtain ⟨C, hC⟩ := tyl_raf (gCy g) k
      have hlt : j.toNatClampNeg < al 4 k := Nat.not_le.mp fun q => h.1 (Or.inr q)
      exact va_aldq (D := gD g) F.1 F.2.1 (hg.2.2.1 s F.2.2.2.2.2) hP q0 _ hq hC h.1 hd (hY _ _ _ _ _ h.2 H locs A hP hS hL (va_ad (Or.inl (ks_ref hks h5 hlt)) (va_lt (va_lt hV).2).2))
  · exact h.elim
theorem s_alen (hg : GmOK g) (F : Fx g p s m args c cc nL own) (hY : ∀ pc ls st f a, Y pc ls st f a → Wp g p e (rmL lvl) s m args below meth c nL Qg pc ls st f a) (hd : decode cc pc = .ok (.arraylength, 1) ∧ nxt = pc + 1) (h : alN Y nxt ls st f a) : Wp g p e (rmL lvl) s m args below meth c nL Qg pc ls st f a := by
  intro H locs A hP hS hL hV
  unfold alN at h
  split at h
  · rename_i t i k r
    have hks := ks_has1 (va_lt hV).1
    obtain ⟨q0, -, hq⟩ := cells_at (ad := gAd g) (cy := gCy g) f a hks
    obtain ⟨hd, rfl⟩ := hd
    have K := hY _ _ _ _ _ h H locs A hP hS hL (va_ad trivial (va_lt hV).2)
    rcases ks_row hks with q | q | q | q
    · rw [el_row.1 q] at hq
      exact va_alen (D := gD g) F.1 F.2.1 (hg.2.2.1 s F.2.2.2.2.2) hP q0 0 hq rfl rfl hd K
    · rw [el_row.2.1 q] at hq
      exact va_alen (D := gD g) F.1 F.2.1 (hg.2.2.1 s F.2.2.2.2.2) hP q0 1 hq rfl rfl hd K
    · rw [el_row.2.2.1 q] at hq
      exact va_alen (D := gD g) F.1 F.2.1 (hg.2.2.1 s F.2.2.2.2.2) hP q0 2 hq rfl rfl hd K
    · rw [el_row.2.2.2 q] at hq
      obtain ⟨C, hC⟩ := tyl_raf (gCy g) k
      exact va_alen (D := gD g) F.1 F.2.1 (hg.2.2.1 s F.2.2.2.2.2) hP q0 _ hq hC rfl hd K
  · exact h.elim
theorem s_iast (hg : GmOK g) (F : Fx g p s m args c cc nL own) (hY : ∀ pc ls st f a, Y pc ls st f a → Wp g p e (rmL lvl) s m args below meth c nL Qg pc ls st f a) (hd : decode cc pc = .ok (.iastore, 1) ∧ nxt = pc + 1) (h : stX Y nxt ls st f a) : Wp g p e (rmL lvl) s m args below meth c nL Qg pc ls st f a := by
  intro H locs A hP hS hL hV
  unfold stX at h
  split at h
  · rename_i x j t i k r
    cases hb : Nat.beq (fk t k) 2 with
    | false => rw [hb] at h; exact h.elim
    | true =>
      rw [hb] at h
      have hks := ks_has1 (va_lt (va_lt (va_lt hV).2).2).1
      obtain ⟨q0, hq0, hq⟩ := cells_at (ad := gAd g) (cy := gCy g) f a hks
      have hfk := Nat.eq_of_beq_eq_true hb
      rw [el_row.1 hfk] at hq
      obtain ⟨hd, rfl⟩ := hd
      refine va_iast (D := gD g) F.1 F.2.1 (hg.2.2.1 s F.2.2.2.2.2) hP (gD_ok hg f a) hS q0 0 hq rfl h.1 hd (fun H1 locs1 hP1 _ hS1 => ?_)
      rw [cells_set (f' := f) (a' := upa a t i k j.toNatClampNeg x) hq0 (by rw [el_row.1 hfk, upa, upA_eq]) (fun q' hq' => el_upA' q' hq')] at hP1
      exact hY _ _ _ _ _ h.2 H1 locs1 A hP1 hS1 hL (va_lt (va_lt (va_lt hV).2).2).2
  · exact h.elim
theorem s_bast (hg : GmOK g) (F : Fx g p s m args c cc nL own) (hY : ∀ pc ls st f a, Y pc ls st f a → Wp g p e (rmL lvl) s m args below meth c nL Qg pc ls st f a) (hd : decode cc pc = .ok (.bastore, 1) ∧ nxt = pc + 1) (h : stB Y nxt ls st f a) : Wp g p e (rmL lvl) s m args below meth c nL Qg pc ls st f a := by
  intro H locs A hP hS hL hV
  unfold stB at h
  split at h
  · rename_i x j t i k r
    have hks := ks_has1 (va_lt (va_lt (va_lt hV).2).2).1
    obtain ⟨q0, hq0, hq⟩ := cells_at (ad := gAd g) (cy := gCy g) f a hks
    obtain ⟨hd, rfl⟩ := hd
    split at h
    · rename_i hfk
      rw [el_row.2.1 hfk] at hq
      refine va_bast (D := gD g) F.1 F.2.1 (hg.2.2.1 s F.2.2.2.2.2) hP (gD_ok hg f a) hS q0 1 hq rfl h.1 hd (fun H1 locs1 hP1 _ hS1 => ?_)
      rw [cells_set (f' := f) (a' := upa a t i k j.toNatClampNeg (vp_nar .byte x)) hq0 (by rw [el_row.2.1 hfk, upa, upA_eq]) (fun q' hq' => el_upA' q' hq')] at hP1
      exact hY _ _ _ _ _ h.2 H1 locs1 A hP1 hS1 hL (va_lt (va_lt (va_lt hV).2).2).2
    · rename_i hfk
      rw [el_row.2.2.1 hfk] at hq
      refine va_zast (D := gD g) F.1 F.2.1 (hg.2.2.1 s F.2.2.2.2.2) hP (gD_ok hg f a) hS q0 2 hq rfl h.1 hd (fun H1 locs1 hP1 _ hS1 => ?_)
      rw [cells_set (f' := f) (a' := upa a t i k j.toNatClampNeg (vp_nar .boolean x)) hq0 (by rw [el_row.2.2.1 hfk, upa, upA_eq]) (fun q' hq' => el_upA' q' hq')] at hP1
      exact hY _ _ _ _ _ h.2 H1 locs1 A hP1 hS1 hL (va_lt (va_lt (va_lt hV).2).2).2
    · exact h.elim
  · exact h.elim
theorem s_call (F : Fx g p s m args c cc nL own) (hY : ∀ pc ls st f a, Y pc ls st f a → Wp g p e (rmL lvl) s m args below meth c nL Qg pc ls st f a) {n : Nat} {b : Bool} {ns : Option (Bool × Nat × SP)} (hc : ∀ b k sp, ns = some (b, k, sp) → CallOK g lvl own n b k sp) (hd : decode cc pc = .ok (bif b then .invokestatic n else .invokevirtual n, 3) ∧ nxt = pc + 3) (h : callX Y b ns nxt ls st f a) : Wp g p e (rmL lvl) s m args below meth c nL Qg pc ls st f a := by
  intro H locs A hP hS hL hV
  have key : ∀ (k : Nat) (sp : SP), CallOK g lvl own n b k sp → popA k [] st (fun As r => bif Nat.ble (cats r) 8 then sp As f a (fun v f' a' => Y nxt ls (v.toList ++ r) f' a') else False) → W p (gL g) e (rmL lvl) s m args below meth c H locs 0 0 Qg (F0 m pc A (st.map (cv (gAd g)))) := by
    intro k sp hc h
    obtain ⟨As, r, h1, h2, h3⟩ := popA_ok h
    rw [List.append_nil] at h1
    cases hb : Nat.ble (cats r) 8 with
    | false => rw [hb] at h1; exact h1.elim
    | true =>
      rw [hb] at h1
      obtain ⟨hd, rfl⟩ := hd
      subst h2
      refine hc p e s m args below meth c cc nL Qg H locs A pc As r f a _ F.1 F.2.1 F.2.2.1 F.2.2.2.1 F.2.2.2.2.1 F.2.2.2.2.2 hP hS ?_ (Nat.le_of_ble_eq_true hb) h3 (fun v hv => hV v (List.mem_append_left _ (List.mem_reverse.mpr hv))) hd h1 ?_
      · obtain ⟨-, lv, hl, -⟩ := hL
        exact hl.1
      · intro v f' a' H1 locs1 hh hv hP1 hS1
        refine hY _ _ _ _ _ hh H1 locs1 A hP1 hS1 hL (fun w hw => ?_)
        rcases List.mem_append.mp hw with q | q
        · exact hv w (Option.mem_toList.mp q)
        · exact hV w (List.mem_append_right _ q)
  unfold callX at h
  split at h
  · exact key _ _ (hc _ _ _ rfl) h
  · exact key _ _ (hc _ _ _ rfl) h
  · exact h.elim
end Steps2
end
section
section Sound
variable {g : Gm} {p : Program} {e : Env} {lvl : Nat} {s : State} {m : MethodId} {args : Array Value} {below : List Frame} {meth : Method} {c : Code} {cc : ByteArray} {nL : Nat} {own : String} {ret : Option FieldType} {E : En} {post : PT} {Y : XT} {pc : Nat} {ls : Lcs} {st : List AV} {f : FF} {a : AA}
theorem allT_ok {x : Int32} {P : Nat → Prop} : ∀ {ts : List Nat} {j : Nat} {lo : Int}, allT x P ts j lo → ∀ (k t : Nat), ts[k]? = some t → x.toInt = lo + ((j + k : Nat) : Int) → P t
  | [], _, _, _, _, _, h, _ => by cases h
  | t :: ts, j, lo, h, 0, t', hk, hx => by
    cases hk
    exact h.1 hx
  | t :: ts, j, lo, h, k + 1, t', hk, hx => allT_ok (ts := ts) h.2 k t' hk (by rw [hx]; congr 1; omega)
set_option maxHeartbeats 4000000 in
theorem ins_ok (hg : GmOK g) (F : Fx g p s m args c cc nL own) (hE : EnvOK g lvl own cc ret E) (hr : meth.sig.returnType = ret) (hlocks : meth.locks = false)
    (hY : ∀ pc ls st f a, Y pc ls st f a → Wp g p e (rmL lvl) s m args below meth c nL (MQ below (PostC g post) args s 0 0 (gA g)) pc ls st f a)
    {i : Instr} {len nxt tgt : Nat} {ts : List Nat} {iv : Int32} (hd : decode cc pc = .ok (i, len)) (hlen : lenI i = 0 ∨ lenI i = len) (hn : nxt = pc + len) (hj : ∀ o, jmpI i = some o → (pc : Int) + o = (tgt : Int)) (hnum : ∀ v, numI i = some v → v = iv) (hsz : szI i = true) (hsw : (swI i).map (fun o => (pc : Int) + o) = ts.map (fun (t : Nat) => (t : Int)))
    (h : ins E post Y i nxt tgt ts iv ls st f a) : Wp g p e (rmL lvl) s m args below meth c nL (MQ below (PostC g post) args s 0 0 (gA g)) pc ls st f a := by
  have L1 : ∀ n, lenI i = n + 1 → len = n + 1 := fun n hn1 => hlen.elim (fun q => by omega) (fun q => by omega)
  cases i with
  | iconst n =>
    obtain rfl := L1 0 rfl
    subst hn
    intro H locs A hP hS hL hV
    exact lv_iconst F.1 F.2.1 hd (hnum _ rfl) (hY _ _ _ _ _ h H locs A hP hS hL (va_ad trivial hV))
  | bipush n =>
    obtain rfl := L1 1 rfl
    subst hn
    intro H locs A hP hS hL hV
    exact lv_bipush F.1 F.2.1 hd (hnum _ rfl) (hY _ _ _ _ _ h H locs A hP hS hL (va_ad trivial hV))
  | sipush n =>
    obtain rfl := L1 2 rfl
    subst hn
    intro H locs A hP hS hL hV
    exact lv_sipush F.1 F.2.1 hd (hnum _ rfl) (hY _ _ _ _ _ h H locs A hP hS hL (va_ad trivial hV))
  | lconst n =>
    obtain rfl := L1 0 rfl
    subst hn
    intro H locs A hP hS hL hV
    exact lv_lconst F.1 F.2.1 hd rfl (hY _ _ _ _ _ h H locs A hP hS hL (va_ad trivial hV))
  | ldc n =>
    intro H locs A hP hS hL hV
    subst hn
    have hc := hE.2.2.2.1 n
    simp only [ins, ldcX] at h
    split at h
    · rename_i x hx
      exact (hc _ hx).1 p e _ s m args below meth c cc _ H locs A pc len _ _ F.1 F.2.1 F.2.2.2.1 F.2.2.2.2.1 F.2.2.2.2.2 hS hd (L1 1 rfl) (Or.inl rfl) (hY _ _ _ _ _ h H locs A hP hS hL (va_ad (hc _ hx).2 hV))
    · rename_i x hx
      exact (hc _ hx).1 p e _ s m args below meth c cc _ H locs A pc len _ _ F.1 F.2.1 F.2.2.2.1 F.2.2.2.2.1 F.2.2.2.2.2 hS hd (L1 1 rfl) rfl (hY _ _ _ _ _ h H locs A hP hS hL (va_ad (hc _ hx).2 hV))
    · exact h.elim
  | ldc_w n =>
    intro H locs A hP hS hL hV
    subst hn
    have hc := hE.2.2.2.1 n
    simp only [ins, ldwX] at h
    split at h
    · rename_i x hx
      exact (hc _ hx).1 p e _ s m args below meth c cc _ H locs A pc len _ _ F.1 F.2.1 F.2.2.2.1 F.2.2.2.2.1 F.2.2.2.2.2 hS hd (L1 2 rfl) (Or.inr rfl) (hY _ _ _ _ _ h H locs A hP hS hL (va_ad (hc _ hx).2 hV))
    · exact h.elim
  | ldc2_w n =>
    intro H locs A hP hS hL hV
    subst hn
    have hc := hE.2.2.2.1 n
    simp only [ins, ld2X] at h
    split at h
    · rename_i x hx
      exact (hc _ hx).1 p e _ s m args below meth c cc _ H locs A pc len _ _ F.1 F.2.1 F.2.2.2.1 F.2.2.2.2.1 F.2.2.2.2.2 hS hd (L1 2 rfl) rfl (hY _ _ _ _ _ h H locs A hP hS hL (va_ad (hc _ hx).2 hV))
    · exact h.elim
  | iload_n n => obtain rfl := L1 0 rfl; exact s_ldI F hY (Or.inl ⟨n, rfl, hd, hn⟩) h
  | iload n => obtain rfl := L1 1 rfl; exact s_ldI F hY (Or.inr ⟨hd, hn⟩) h
  | lload_n n => obtain rfl := L1 0 rfl; exact s_ldL F hY (Or.inl ⟨n, rfl, hd, hn⟩) h
  | lload n => obtain rfl := L1 1 rfl; exact s_ldL F hY (Or.inr ⟨hd, hn⟩) h
  | aload_n n => obtain rfl := L1 0 rfl; exact s_ldA F hY (Or.inl ⟨n, rfl, hd, hn⟩) h
  | aload n => obtain rfl := L1 1 rfl; exact s_ldA F hY (Or.inr ⟨hd, hn⟩) h
  | istore_n n => obtain rfl := L1 0 rfl; exact s_stI F hY (Or.inl ⟨n, rfl, hd, hn⟩) h
  | istore n => obtain rfl := L1 1 rfl; exact s_stI F hY (Or.inr ⟨hd, hn⟩) h
  | astore_n n => obtain rfl := L1 0 rfl; exact s_stA F hY (Or.inl ⟨n, rfl, hd, hn⟩) h
  | astore n => obtain rfl := L1 1 rfl; exact s_stA F hY (Or.inr ⟨hd, hn⟩) h
  | lstore n => obtain rfl := L1 1 rfl; exact s_stL F hY ⟨hd, hn⟩ h
  | iinc n z => obtain rfl := L1 2 rfl; exact s_inc F hY ⟨hd, hn⟩ (hnum _ rfl) h
  | getfield n => obtain rfl := L1 2 rfl; exact s_getF hg F hY (fun t k q => hE.2.2.1 n t k q) ⟨hd, hn⟩ h
  | putfield n => obtain rfl := L1 2 rfl; exact s_putF hg F hY (fun t k q => hE.2.2.1 n t k q) ⟨hd, hn⟩ h
  | iaload => obtain rfl := L1 0 rfl; exact s_iald hg F hY ⟨hd, hn⟩ h
  | baload => obtain rfl := L1 0 rfl; exact s_bald hg F hY ⟨hd, hn⟩ h
  | aaload => obtain rfl := L1 0 rfl; exact s_aald hg F hY ⟨hd, hn⟩ h
  | arraylength => obtain rfl := L1 0 rfl; exact s_alen hg F hY ⟨hd, hn⟩ h
  | iastore => obtain rfl := L1 0 rfl; exact s_iast hg F hY ⟨hd, hn⟩ h
  | bastore => obtain rfl := L1 0 rfl; exact s_bast hg F hY ⟨hd, hn⟩ h
  | invokevirtual n => obtain rfl := L1 2 rfl; exact s_call (b := false) F hY (fun b k sp q => hE.2.1 n b k sp q) ⟨hd, hn⟩ h
  | invokestatic n => obtain rfl := L1 2 rfl; exact s_call (b := true) F hY (fun b k sp q => hE.2.1 n b k sp q) ⟨hd, hn⟩ h
  | goto o =>
    intro H locs A hP hS hL hV
    obtain rfl := L1 2 rfl
    exact lv_goto F.1 F.2.1 hd (hj _ rfl) (hY _ _ _ _ _ h H locs A hP hS hL hV)
  | ifCond cn o =>
    intro H locs A hP hS hL hV
    obtain rfl := L1 2 rfl
    subst hn
    simp only [ins, br1] at h
    split at h
    · exact lv_if_eq F.1 F.2.1 hd (hj _ rfl) (fun q => hY _ _ _ _ _ (h.1 q) H locs A hP hS hL (va_lt hV).2) (fun q => hY _ _ _ _ _ (h.2 q) H locs A hP hS hL (va_lt hV).2)
    · exact lv_if_ne F.1 F.2.1 hd (hj _ rfl) (fun q => hY _ _ _ _ _ (h.1 q) H locs A hP hS hL (va_lt hV).2) (fun q => hY _ _ _ _ _ (h.2 q) H locs A hP hS hL (va_lt hV).2)
    · exact lv_if_lt F.1 F.2.1 hd (hj _ rfl) (fun q => hY _ _ _ _ _ (h.1 q) H locs A hP hS hL (va_lt hV).2) (fun q => hY _ _ _ _ _ (h.2 q) H locs A hP hS hL (va_lt hV).2)
    · exact lv_if_ge F.1 F.2.1 hd (hj _ rfl) (fun q => hY _ _ _ _ _ (h.1 q) H locs A hP hS hL (va_lt hV).2) (fun q => hY _ _ _ _ _ (h.2 q) H locs A hP hS hL (va_lt hV).2)
    · exact lv_if_gt F.1 F.2.1 hd (hj _ rfl) (fun q => hY _ _ _ _ _ (h.1 q) H locs A hP hS hL (va_lt hV).2) (fun q => hY _ _ _ _ _ (h.2 q) H locs A hP hS hL (va_lt hV).2)
    · exact lv_if_le F.1 F.2.1 hd (hj _ rfl) (fun q => hY _ _ _ _ _ (h.1 q) H locs A hP hS hL (va_lt hV).2) (fun q => hY _ _ _ _ _ (h.2 q) H locs A hP hS hL (va_lt hV).2)
    · exact h.elim
  | if_icmp cn o =>
    intro H locs A hP hS hL hV
    obtain rfl := L1 2 rfl
    subst hn
    simp only [ins, br2] at h
    split at h
    · exact lv_icmp_eq F.1 F.2.1 hd (hj _ rfl) (fun q => hY _ _ _ _ _ (h.1 q) H locs A hP hS hL (va_lt (va_lt hV).2).2) (fun q => hY _ _ _ _ _ (h.2 q) H locs A hP hS hL (va_lt (va_lt hV).2).2)
    · exact lv_icmp_ne F.1 F.2.1 hd (hj _ rfl) (fun q => hY _ _ _ _ _ (h.1 q) H locs A hP hS hL (va_lt (va_lt hV).2).2) (fun q => hY _ _ _ _ _ (h.2 q) H locs A hP hS hL (va_lt (va_lt hV).2).2)
    · exact lv_icmp_lt F.1 F.2.1 hd (hj _ rfl) (fun q => hY _ _ _ _ _ (h.1 q) H locs A hP hS hL (va_lt (va_lt hV).2).2) (fun q => hY _ _ _ _ _ (h.2 q) H locs A hP hS hL (va_lt (va_lt hV).2).2)
    · exact lv_icmp_ge F.1 F.2.1 hd (hj _ rfl) (fun q => hY _ _ _ _ _ (h.1 q) H locs A hP hS hL (va_lt (va_lt hV).2).2) (fun q => hY _ _ _ _ _ (h.2 q) H locs A hP hS hL (va_lt (va_lt hV).2).2)
    · exact lv_icmp_gt F.1 F.2.1 hd (hj _ rfl) (fun q => hY _ _ _ _ _ (h.1 q) H locs A hP hS hL (va_lt (va_lt hV).2).2) (fun q => hY _ _ _ _ _ (h.2 q) H locs A hP hS hL (va_lt (va_lt hV).2).2)
    · exact lv_icmp_le F.1 F.2.1 hd (hj _ rfl) (fun q => hY _ _ _ _ _ (h.1 q) H locs A hP hS hL (va_lt (va_lt hV).2).2) (fun q => hY _ _ _ _ _ (h.2 q) H locs A hP hS hL (va_lt (va_lt hV).2).2)
    · exact h.elim
  | tableswitch d lo hi o =>
    intro H locs A hP hS hL hV
    simp only [ins] at h
    split at h
    · rename_i x r
      have V := (va_lt hV).2
      by_cases h1 : x.toInt < lo ∨ hi < x.toInt
      · exact lv_tableOut F.1 F.2.1 hd h1 (hj _ rfl) (hY _ _ _ _ _ (h.2 h1) H locs A hP hS hL V)
      · have e1 : ¬ x.toInt < lo := fun q => h1 (Or.inl q)
        have e2 : ¬ hi < x.toInt := fun q => h1 (Or.inr q)
        have e3 : hi - lo + 1 = (o.toList.length : Int) := of_decide_eq_true hsz
        have hk : (x.toInt - lo).toNat < o.toList.length := by omega
        have ho : o[(x.toInt - lo).toNat]? = some o.toList[(x.toInt - lo).toNat] := by
          rw [← Array.getElem?_toList, List.getElem?_eq_getElem hk]
        have hsw' : o.toList.map (fun o => (pc : Int) + o) = ts.map (fun (t : Nat) => (t : Int)) := hsw
        have e4 : (o.toList.map (fun o => (pc : Int) + o))[(x.toInt - lo).toNat]? = some ((pc : Int) + o.toList[(x.toInt - lo).toNat]) := by
          rw [List.getElem?_map, List.getElem?_eq_getElem hk]; rfl
        rw [hsw', List.getElem?_map] at e4
        cases hts : ts[(x.toInt - lo).toNat]? with
        | none => rw [hts] at e4; cases e4
        | some t =>
          rw [hts] at e4
          have e5 : (pc : Int) + o.toList[(x.toInt - lo).toNat] = (t : Int) := (Option.some.inj e4).symm
          exact lv_tableIn F.1 F.2.1 hd e1 e2 ho e5 (hY _ _ _ _ _ (allT_ok h.1 _ t hts (by rw [Nat.zero_add]; omega)) H locs A hP hS hL V)
    · exact h.elim
  | ireturn =>
    intro H locs A hP hS hL hV
    obtain rfl := L1 0 rfl
    have hro := hE.2.2.2.2
    simp only [ins, retI] at h
    split at h
    · rename_i x hrt
      rw [hrt] at hro
      exact W.iret F.1 F.2.1 (hr.trans hro) (fun t ht hW => ⟨⟨some (.inl x), f, a, rfl, h, fun v hv => by cases hv; trivial, by rw [ht]; exact hP⟩, hS.F ht⟩) hS.2.2 hd hlocks
    · rename_i x hrt
      rw [hrt] at hro
      exact W.zret F.1 F.2.1 (hr.trans hro) (nar_bool h.1) (fun t ht hW => ⟨⟨some (.inl x), f, a, rfl, h.2, fun v hv => by cases hv; trivial, by rw [ht]; exact hP⟩, hS.F ht⟩) hS.2.2 hd hlocks
    · exact h.elim
  | return_ =>
    intro H locs A hP hS hL hV
    obtain rfl := L1 0 rfl
    have hro := hE.2.2.2.2
    simp only [ins, retV] at h
    split at h
    · rename_i hrt
      rw [hrt] at hro
      exact W.vret F.1 F.2.1 (hr.trans hro) (fun t ht hW => ⟨⟨none, f, a, rfl, h, (fun v hv => by cases hv), by rw [ht]; exact hP⟩, hS.F ht⟩) hS.2.2 hd hlocks
    · exact h.elim
  | areturn =>
    intro H locs A hP hS hL hV
    obtain rfl := L1 0 rfl
    have hro := hE.2.2.2.2
    simp only [ins, retA] at h
    split at h
    · rename_i k hrt
      rw [hrt] at hro
      obtain ⟨C, hC⟩ := hro
      exact W.aret F.1 F.2.1 (hr.trans hC) (Or.inl ⟨C, rfl⟩) (Or.inr ⟨_, rfl⟩) (fun t ht hW => ⟨⟨some (.inr (.inr k)), f, a, rfl, h, fun v hv => by cases hv; exact (va_lt hV).1, by rw [ht]; exact hP⟩, hS.F ht⟩) hS.2.2 hd hlocks
    · exact h.elim
  | iadd | isub | imul | iand | ior | ixor | ishl | ishr | iushr =>
    intro H locs A hP hS hL hV
    obtain rfl := L1 0 rfl
    subst hn
    simp only [ins, op2] at h
    split at h
    · have K := hY _ _ _ _ _ h H locs A hP hS hL (va_ad trivial (va_lt (va_lt hV).2).2)
      first
        | exact lv_iadd F.1 F.2.1 hd K
        | exact lv_isub F.1 F.2.1 hd K
        | exact lv_imul F.1 F.2.1 hd K
        | exact lv_iand F.1 F.2.1 hd K
        | exact lv_ior F.1 F.2.1 hd K
        | exact lv_ixor F.1 F.2.1 hd K
        | exact lv_ishl F.1 F.2.1 hd K
        | exact lv_ishr F.1 F.2.1 hd K
        | exact lv_iushr F.1 F.2.1 hd rfl K
    · exact h.elim
  | idiv | irem =>
    intro H locs A hP hS hL hV
    obtain rfl := L1 0 rfl
    subst hn
    simp only [ins, dv2] at h
    split at h
    · have K := hY _ _ _ _ _ h.2 H locs A hP hS hL (va_ad trivial (va_lt (va_lt hV).2).2)
      first
        | exact lv_idiv F.1 F.2.1 hd h.1 K
        | exact lv_irem F.1 F.2.1 hd h.1 K
    · exact h.elim
  | i2b | i2s =>
    intro H locs A hP hS hL hV
    obtain rfl := L1 0 rfl
    subst hn
    simp only [ins, op1] at h
    split at h
    · have K := hY _ _ _ _ _ h H locs A hP hS hL (va_ad trivial (va_lt hV).2)
      first
        | exact lv_i2b F.1 F.2.1 hd rfl K
        | exact lv_i2s F.1 F.2.1 hd rfl K
    · exact h.elim
  | i2l =>
    intro H locs A hP hS hL hV
    obtain rfl := L1 0 rfl
    subst hn
    simp only [ins] at h
    split at h
    · exact lv_i2l F.1 F.2.1 hd rfl (hY _ _ _ _ _ h H locs A hP hS hL (va_ad trivial (va_lt hV).2))
    · exact h.elim
  | ladd =>
    intro H locs A hP hS hL hV
    obtain rfl := L1 0 rfl
    subst hn
    simp only [ins] at h
    split at h
    · exact lv_ladd F.1 F.2.1 hd (hY _ _ _ _ _ h H locs A hP hS hL (va_ad trivial (va_lt (va_lt hV).2).2))
    · exact h.elim
  | lcmp =>
    intro H locs A hP hS hL hV
    obtain rfl := L1 0 rfl
    subst hn
    simp only [ins] at h
    split at h
    · exact W.lcmp F.1 F.2.1 hd (hY _ _ _ _ _ h H locs A hP hS hL (va_ad trivial (va_lt (va_lt hV).2).2))
    · exact h.elim
  | dup =>
    intro H locs A hP hS hL hV
    obtain rfl := L1 0 rfl
    subst hn
    simp only [ins, dupX] at h
    split at h
    · exact lv_dup F.1 F.2.1 hd rfl (hY _ _ _ _ _ h H locs A hP hS hL (va_ad trivial hV))
    · exact lv_dup F.1 F.2.1 hd rfl (hY _ _ _ _ _ h H locs A hP hS hL (va_ad (va_lt hV).1 hV))
    · exact h.elim
  | dup2 =>
    intro H locs A hP hS hL hV
    obtain rfl := L1 0 rfl
    subst hn
    simp only [ins, dp2X] at h
    split at h
    · exact lv_dup2_11 F.1 F.2.1 hd rfl rfl (hY _ _ _ _ _ h H locs A hP hS hL (va_ad trivial (va_ad (va_lt (va_lt hV).2).1 hV)))
    · exact h.elim
  | pop =>
    intro H locs A hP hS hL hV
    obtain rfl := L1 0 rfl
    subst hn
    simp only [ins] at h
    split at h
    · exact lv_pop F.1 F.2.1 hd rfl (hY _ _ _ _ _ h H locs A hP hS hL (va_lt hV).2)
    · exact h.elim
  | _ => exact False.elim h
theorem stp_ok (hg : GmOK g) (F : Fx g p s m args c cc nL own) (hE : EnvOK g lvl own cc ret E) (hr : meth.sig.returnType = ret) (hlocks : meth.locks = false)
    (hY : ∀ pc ls st f a, Y pc ls st f a → Wp g p e (rmL lvl) s m args below meth c nL (MQ below (PostC g post) args s 0 0 (gA g)) pc ls st f a)
    (h : stp E post Y pc ls st f a) : Wp g p e (rmL lvl) s m args below meth c nL (MQ below (PostC g post) args s 0 0 (gA g)) pc ls st f a := by
  unfold stp at h
  split at h
  · rename_i pc' i len nxt tgt ts iv hen
    obtain ⟨ch, h1, h2, h3⟩ := lk_mem hen
    have h4 := List.all_eq_true.mp (List.all_eq_true.mp hE.1 ch h1) _ h2
    dsimp only at h3
    unfold okE at h4
    simp only [Bool.and_eq_true, Bool.or_eq_true, decide_eq_true_eq] at h4
    obtain ⟨⟨⟨⟨⟨⟨a1, a2⟩, a3⟩, a4⟩, a5⟩, a6⟩, a7⟩ := h4
    rw [h3] at a1 a3 a4 a6
    refine ins_ok hg F hE hr hlocks hY a1 (a2.elim (fun q => Or.inl (Nat.eq_of_beq_eq_true q)) (fun q => Or.inr (Nat.eq_of_beq_eq_true q))) (Nat.eq_of_beq_eq_true a3) (fun o ho => ?_) (fun v hv => ?_) a7 a6 h
    · rw [ho] at a4
      exact of_decide_eq_true a4
    · rw [hv] at a5
      exact of_decide_eq_true a5
  · exact h.elim
theorem sym_ok (hg : GmOK g) (F : Fx g p s m args c cc nL own) (hE : EnvOK g lvl own cc ret E) (hr : meth.sig.returnType = ret) (hlocks : meth.locks = false) (B : List Nat) :
    ∀ (n pc : Nat) (ls : Lcs) (st : List AV) (f : FF) (a : AA), sym E post (Wp g p e (rmL lvl) s m args below meth c nL (MQ below (PostC g post) args s 0 0 (gA g))) B n pc ls st f a → Wp g p e (rmL lvl) s m args below meth c nL (MQ below (PostC g post) args s 0 0 (gA g)) pc ls st f a
  | 0, _, _, _, _, _, h => h
  | n + 1, pc, ls, st, f, a, h => by
    refine stp_ok hg F hE hr hlocks (fun pc' ls' st' f' a' q => ?_) h
    cases hb : inB B pc' with
    | true => rw [hb] at q; exact q
    | false => rw [hb] at q; exact sym_ok hg F hE hr hlocks B n pc' ls' st' f' a' q
end Sound
theorem ent_args (ad : Ky → Nat) : ∀ (av : List AV) (k j : Nat) (v : AV), lget (ent av) j = some v → (k + j, cv ad v) ∈ lv_args k (av.map (cv ad)) ∧ v ∈ av
  | [], _, _, _, h => by cases h
  | .inl x :: r, k, 0, v, h => by
    cases h
    exact ⟨List.mem_cons_self, List.mem_cons_self⟩
  | .inl x :: r, k, j + 1, v, h => by
    obtain ⟨h1, h2⟩ := ent_args ad r (k + 1) j v h
    refine ⟨?_, List.mem_cons_of_mem _ h2⟩
    rw [show k + (j + 1) = k + 1 + j by omega]
    exact List.mem_cons_of_mem _ h1
  | .inr (.inr x) :: r, k, 0, v, h => by
    cases h
    exact ⟨List.mem_cons_self, List.mem_cons_self⟩
  | .inr (.inr x) :: r, k, j + 1, v, h => by
    obtain ⟨h1, h2⟩ := ent_args ad r (k + 1) j v h
    refine ⟨?_, List.mem_cons_of_mem _ h2⟩
    rw [show k + (j + 1) = k + 1 + j by omega]
    exact List.mem_cons_of_mem _ h1
  | .inr (.inl x) :: r, k, 0, v, h => by
    cases h
    exact ⟨List.mem_cons_self, List.mem_cons_self⟩
  | .inr (.inl x) :: r, k, 1, v, h => by cases h
  | .inr (.inl x) :: r, k, j + 2, v, h => by
    obtain ⟨h1, h2⟩ := ent_args ad r (k + 2) j v h
    refine ⟨?_, List.mem_cons_of_mem _ h2⟩
    rw [show k + (j + 2) = k + 2 + j by omega]
    exact List.mem_cons_of_mem _ h1
theorem padL_len : ∀ (n : Nat) (ls : Lcs), (padL n ls).length = n
  | 0, _ => rfl
  | n + 1, [] => congrArg (· + 1) (padL_len n [])
  | n + 1, _ :: r => congrArg (· + 1) (padL_len n r)
theorem padL_get : ∀ (n : Nat) (ls : Lcs) (j : Nat) (v : AV), lget (padL n ls) j = some v → lget ls j = some v
  | 0, _, _, _, h => by cases h
  | n + 1, [], 0, _, h => by cases h
  | n + 1, [], j + 1, v, h => padL_get n [] j v h
  | n + 1, _ :: _, 0, _, h => h
  | n + 1, _ :: r, j + 1, v, h => padL_get n r j v h
theorem ws_good : ∀ w ∈ WS, (w.onTables && w.keeps) = true ∨ ∃ ty, w = .arrayClass ty := fun w h => good_of_word (List.mem_filter.mp h).2
/-- a contract out of a run of the abstract machine -/
theorem MetC_of {g : Gm} (hg : GmOK g) {y : MethodName} {cc : ByteArray} {maxL : Nat} {ret : Option FieldType} {lvl : Nat} {sp : SP} (E : En) (hE : EnvOK g lvl y.cls cc ret E) (hy : plainName y.cls = true) (hsl : ∀ av f a post, sp av f a post → (lg_sl (av.map (cv (gAd g)))).length ≤ maxL)
    (h : ∀ (av : List AV) (f : FF) (a : AA) (post : PT), sp av f a post → ∀ X : XT, Clo E post X → X 0 (padL maxL (ent av)) [] f a) : MetC g y cc maxL ret lvl sp := by
  intro av f a post hav hsp
  refine Met.ofW (cc := cc) (maxL := maxL) (ret := ret) hy rfl ?_
  intro p e s m args below meth c s₁ B hml hv
  obtain ⟨rfl, hP, hG⟩ := hv
  have hts := atoms_spec (ws := Cond.code y cc maxL ret :: WS) B.pre
  have F : Fx g p s m (av.map (cv (gAd g))).toArray c cc maxL y.cls := ⟨B.exec, B.bytes, hml, findClass_of_methodNamed B.named, fun w hw => hts w (List.mem_cons_of_mem _ hw), hG⟩
  have hl := lv_entry (av.map (cv (gAd g))) (n := maxL) (hsl av f a post hsp)
  rw [lg_entry_eq]
  refine h av f a post hsp (Wp g p e (rmL lvl) s m _ below meth c maxL (MQ below (PostC g post) _ s 0 0 (gA g))) (fun Bs n pc ls st f a hh => sym_ok hg F hE B.returns B.notSynchronized Bs n pc ls st f a hh) s.heap [] _ hP va_S.rf ?_ (fun v hv => by cases hv)
  refine ⟨padL_len _ _, _, hl, fun j v hj => ?_⟩
  obtain ⟨h1, h2⟩ := ent_args (gAd g) av 0 j v (padL_get _ _ _ _ hj)
  rw [Nat.zero_add] at h1
  exact ⟨h1, hav v h2⟩
theorem PreC_blind {g : Gm} (hg : GmOK g) (av : List AV) (f : FF) (a : AA) : FrameBlind (PreC g av f a) := fun _ U fr mk q => ⟨q.1, q.2.1, hg.2.2.2.1 U (U.calling fr mk _) (State.WarmedH.refl U) (Nat.le_refl _) (fun _ _ _ => rfl) q.2.2⟩
section Calls2
variable {g : Gm} {p : Program} {e : Env} {lvl : Nat} {s : State} {m : MethodId} {args : Array Value} {below : List Frame} {meth : Method} {c : Code} {cc : ByteArray} {nL : Nat} {own : String} {Qg : State → Prop}
/-- behind a call that keeps a contract -/
theorem callC {H : Heap} {locs : List Loc} {ls : Array Slot} {pc : Nat} {st0 : List Value} {rest : List Value} {Q : PT} {av : Array Value}
    (hr : va_Run p (gL g) e (rmL lvl) s m args below meth c H locs 0 0 0 0 (F0 m pc ls st0) rest (PostC g Q av) (gA g)) (hS : va_S (gA g) s.heap H locs)
    (kk : ∀ (r : Option AV) (f' : FF) (a' : AA) (H1 : Heap) (locs1 : List Loc), Q r f' a' → (∀ v, r = some v → vld v) → gW g f' a' H1 → va_S (gA g) s.heap H1 locs1 → W p (gL g) e (rmL lvl) s m args below meth c H1 locs1 0 0 Qg (F0 m (pc + 3) ls ((r.map (cv (gAd g))).toList ++ rest))) : W p (gL g) e (rmL lvl) s m args below meth c H locs 0 0 Qg (F0 m pc ls st0) := by
  intro T hT X
  obtain ⟨v, st₀, t, T', L, h0, X', hL, e1, e2, ⟨⟨r, f', a', hv, hq, hr, hw⟩, hz, hk⟩, st⟩ := hr T hT X
  cases hv
  rw [h0] at hz hk
  rw [← e1] at hw
  obtain ⟨t2, a1, b1⟩ := kk r f' a' T'.heap (locs ++ L) hq hr hw
    ⟨Nat.le_trans hS.1 (by rw [e1]; exact hz), fun q h1 h2 => by rw [e1, hk q (Nat.lt_of_lt_of_le h1 hS.1) h2]; exact hS.2.1 q h1 h2, fun q hq => by
      rcases List.mem_append.mp hq with h | h
      · exact hS.2.2 q h
      · exact hL q h⟩ T' rfl X'
  exact ⟨t2, st t2 a1, b1⟩
end Calls2
/-- what the tables say of a method that is called -/
def LnkOK (y : MethodName) (cc : ByteArray) (maxL : Nat) (ret : Option FieldType) (n : Nat) : Prop := Cond.code y cc maxL ret ∈ WS ∧ Cond.initialized y.cls ∈ WS ∧ (y.cls ≠ "java/lang/invoke/MethodHandle" ∧ y.cls ≠ "java/lang/invoke/VarHandle") ∧ (parseMethodDescriptor y.desc).map (fun d => d.parameters.length) = some n
theorem callB_w {lvl lvc : Nat} {s : State} {args : Array Value} {own : String} {idx n maxL : Nat} {y : MethodName} {cc : ByteArray} {ret : Option FieldType} (hk : LnkOK y cc maxL ret n) (hts : ∀ w ∈ WS, w.before args s = true) (hl : Cond.methodLink own idx y ∈ WS) (hR : lvc + 1 ≤ lvl ∧ maxL ≤ 16) : CallB (rmL lvl) s args own idx y cc maxL ret (Cond.code y cc maxL ret :: WS) (rmL lvc) 0 0 n := by
  refine callB_of (Ts := WS) n hts (fun w hw => ?_) rfl rfl rfl (hts _ hk.2.1) (hts _ hl) ⟨hk.2.2.1.1, hk.2.2.1.2, hk.2.2.2⟩ ⟨hR.1, ?_⟩
  · rcases List.mem_cons.mp hw with rfl | h
    · exact ⟨hk.1, ws_good _ hk.1⟩
    · exact ⟨h, ws_good _ h⟩
  · show 8 + (maxL + 11) + 35 * lvc ≤ 35 * lvl
    omega
theorem revmap (ad : Ky → Nat) (As rest : List AV) : (As.reverse ++ rest).map (cv ad) = (As.map (cv ad)).reverse ++ rest.map (cv ad) := by
  rw [List.map_append, List.map_reverse]
theorem optmap (ad : Ky → Nat) (r : Option AV) (rest : List AV) : (r.toList ++ rest).map (cv ad) = (r.map (cv ad)).toList ++ rest.map (cv ad) := by
  cases r <;> rfl
/-- an own method, not static -/
theorem callV_ok {g : Gm} (hg : GmOK g) {lvl lvc : Nat} {own : String} {idx n maxL t : Nat} {y : MethodName} {cc : ByteArray} {ret : Option FieldType} {sp : SP} (hM : MetC g y cc maxL ret lvc sp) (hk : LnkOK y cc maxL ret n) (hl : Cond.methodLink own idx y ∈ WS) (hi : Cond.instanceMethod y ∈ WS) (hs : Cond.selects y.cls y y ∈ WS) (hR : lvc + 1 ≤ lvl ∧ maxL ≤ 16)
    (hcl : ∃ T N, vwCl[t]? = some (y.cls, T, N)) (hsp : ∀ As f a Q, sp As f a Q → ∃ i r, As = .inr (.inr (t, i, 0)) :: r) : CallOK g lvl own idx false (n + 1) sp := by
  intro p e s m args below meth c cc' nL Qg H locs ls pc As rest f a Q hx hb hml hown hts hG hP hS hsz hc hlen hV hd hq kk
  obtain ⟨i, r, rfl⟩ := hsp As f a Q hq
  obtain ⟨T, N, hcl⟩ := hcl
  have hks : (t, i, 0) ∈ KS := ks_has (hV _ List.mem_cons_self) (cl_n hcl).1
  obtain ⟨q0, -, hq0⟩ := cells_at (ad := gAd g) (cy := gCy g) f a hks
  have hrec := va_recv (hg.2.2.1 s hG) hP hcl hq0
  have cw : CallW (rmL lvl) s args own y.cls idx y cc maxL ret (Cond.code y cc maxL ret :: WS) (rmL lvc) 0 0 n := ⟨callB_w hk hts hl hR, hts _ hi, hts _ hs⟩
  have hp : PreV s H y.cls (gAd g (t, i, 0)) (PreC g (.inr (.inr (t, i, 0)) :: r) f a) (r.map (cv (gAd g))) := ⟨PreC_blind hg _ f a, hrec, fun U hU hW => ⟨rfl, by rw [hU]; exact hP, hg.2.2.2.1 s U hW (by rw [hU]; exact hS.1) (fun q h1 h2 => by rw [hU]; exact hS.2.1 q h1 h2) hG⟩⟩
  have hM1 := hM _ f a Q hV hq
  have hst : (F0 m pc ls ((((Sum.inr (Sum.inr (t, i, 0)) : AV) :: r).reverse ++ rest).map (cv (gAd g)))).stack = (r.map (cv (gAd g))).reverse ++ .ref (gAd g (t, i, 0)) :: rest.map (cv (gAd g)) := by
    show List.map (cv (gAd g)) ((((Sum.inr (Sum.inr (t, i, 0)) : AV) :: r).reverse ++ rest)) = _
    rw [List.reverse_cons, List.append_assoc, List.map_append, List.map_reverse]
    rfl
  refine callC (va_runV (As := r.map (cv (gAd g))) (rest := rest.map (cv (gAd g))) ⟨hx, hb, hml, hown, hts⟩ hM1 cw hp rfl ?_ hsz hst (lv_room (by rw [cats_sum]; exact hc)) hd ⟨Nat.zero_le _, Nat.zero_le _⟩) hS ?_
  · rw [List.length_map]
    exact Nat.succ.inj hlen
  · intro r' f' a' H1 locs1 h1 h2 h3 h4
    rw [← optmap]
    exact kk r' f' a' H1 locs1 h1 h2 h3 h4
/-- an own static method -/
theorem callS_ok {g : Gm} (hg : GmOK g) {lvl lvc : Nat} {own : String} {idx n maxL : Nat} {y : MethodName} {cc : ByteArray} {ret : Option FieldType} {sp : SP} (hM : MetC g y cc maxL ret lvc sp) (hk : LnkOK y cc maxL ret n) (hl : Cond.methodLink own idx y ∈ WS) (hs : Cond.static y ∈ WS) (hR : lvc + 1 ≤ lvl ∧ maxL ≤ 16) : CallOK g lvl own idx true n sp := by
  intro p e s m args below meth c cc' nL Qg H locs ls pc As rest f a Q hx hb hml hown hts hG hP hS hsz hc hlen hV hd hq kk
  have hp : PreS s H (PreC g As f a) (As.map (cv (gAd g))) := ⟨PreC_blind hg _ f a, fun U hU hW => ⟨rfl, by rw [hU]; exact hP, hg.2.2.2.1 s U hW (by rw [hU]; exact hS.1) (fun q h1 h2 => by rw [hU]; exact hS.2.1 q h1 h2) hG⟩⟩
  refine callC (va_runS (As := As.map (cv (gAd g))) (rest := rest.map (cv (gAd g))) ⟨hx, hb, hml, hown, hts⟩ (hM _ f a Q hV hq) ⟨callB_w hk hts hl hR, hts _ hs⟩ hp rfl ?_ hsz (revmap _ _ _) (lv_room (by rw [cats_sum]; exact hc)) hd ⟨Nat.zero_le _, Nat.zero_le _⟩) hS ?_
  · rw [List.length_map]
    exact hlen
  · intro r' f' a' H1 locs1 h1 h2 h3 h4
    rw [← optmap]
    exact kk r' f' a' H1 locs1 h1 h2 h3 h4
/-- a static method of a nest mate -/
theorem callN_ok {g : Gm} (hg : GmOK g) {lvl lvc : Nat} {own host : String} {idx n maxL : Nat} {y : MethodName} {cc : ByteArray} {ret : Option FieldType} {sp : SP} (hM : MetC g y cc maxL ret lvc sp) (hk : LnkOK y cc maxL ret n) (hl : ∀ U, gG g U → va_Nw (.methodLinkNest own idx y host) U) (hs : Cond.static y ∈ WS) (hR : lvc + 1 ≤ lvl ∧ maxL ≤ 16) : CallOK g lvl own idx true n sp := by
  intro p e s m args below meth c cc' nL Qg H locs ls pc As rest f a Q hx hb hml hown hts hG hP hS hsz hc hlen hV hd hq kk
  have hp : PreS s H (PreC g As f a) (As.map (cv (gAd g))) := ⟨PreC_blind hg _ f a, fun U hU hW => ⟨rfl, by rw [hU]; exact hP, hg.2.2.2.1 s U hW (by rw [hU]; exact hS.1) (fun q h1 h2 => by rw [hU]; exact hS.2.1 q h1 h2) hG⟩⟩
  have cn : va_CN (rmL lvl) s args own idx y host cc maxL ret (Cond.code y cc maxL ret :: WS) (rmL lvc) 0 0 n := by
    refine va_cnB (Ts := WS) n hts (fun w hw => ?_) rfl rfl rfl (hl s hG) (hts _ hk.2.1) ⟨hk.2.2.1.1, hk.2.2.1.2, hk.2.2.2⟩ ⟨hR.1, ?_⟩
    · rcases List.mem_cons.mp hw with rfl | h
      · exact ⟨hk.1, ws_good _ hk.1⟩
      · exact ⟨h, ws_good _ h⟩
    · show 8 + (maxL + 11) + 35 * lvc ≤ 35 * lvl
      omega
  refine callC (va_runSN (As := As.map (cv (gAd g))) (rest := rest.map (cv (gAd g))) ⟨hx, hb, hml, hown, hts⟩ (hM _ f a Q hV hq) ⟨cn, hts _ hs, trivial⟩ hp rfl ?_ hsz (revmap _ _ _) (lv_room (by rw [cats_sum]; exact hc)) hd ⟨Nat.zero_le _, Nat.zero_le _⟩) hS ?_
  · rw [List.length_map]
    exact hlen
  · intro r' f' a' H1 locs1 h1 h2 h3 h4
    rw [← optmap]
    exact kk r' f' a' H1 locs1 h1 h2 h3 h4
end
