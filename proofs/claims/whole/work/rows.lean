section
/-- a private method of a class that the tables say can be made, by its rows of tables_1 -/
def lw_okq (q : MethodName × Nat) : Prop := (q.1.cls ≠ "java/lang/invoke/MethodHandle" ∧ q.1.cls ≠ "java/lang/invoke/VarHandle") ∧ Cond.instantiable q.1.cls q.2 ∈ tables_1 ∧ Cond.privateMethod q.1 ∈ tables_1 ∧ Cond.instanceMethod q.1 ∈ tables_1
theorem lw_p0 : lw_okq (⟨"FallingCalls$Teller", "step", "()V"⟩, 6) := ⟨⟨by decide +kernel, by decide +kernel⟩, List.mem_of_getElem? (i := 23) (by decide +kernel), List.mem_of_getElem? (i := 206) (by decide +kernel), List.mem_of_getElem? (i := 207) (by decide +kernel)⟩
theorem lw_p1 : lw_okq (⟨"FallingCalls$Teller", "refuse", "(I)V"⟩, 6) := ⟨⟨by decide +kernel, by decide +kernel⟩, List.mem_of_getElem? (i := 23) (by decide +kernel), List.mem_of_getElem? (i := 213) (by decide +kernel), List.mem_of_getElem? (i := 214) (by decide +kernel)⟩
theorem lw_p2 : lw_okq (⟨"FallingCalls$Teller", "isName", "(Ljava/lang/String;)Z"⟩, 6) := ⟨⟨by decide +kernel, by decide +kernel⟩, List.mem_of_getElem? (i := 23) (by decide +kernel), List.mem_of_getElem? (i := 218) (by decide +kernel), List.mem_of_getElem? (i := 219) (by decide +kernel)⟩
theorem lw_p3 : lw_okq (⟨"FallingCalls$Teller", "tellFunction", "(LFallingCalls$Program;)V"⟩, 6) := ⟨⟨by decide +kernel, by decide +kernel⟩, List.mem_of_getElem? (i := 23) (by decide +kernel), List.mem_of_getElem? (i := 270) (by decide +kernel), List.mem_of_getElem? (i := 271) (by decide +kernel)⟩
theorem lw_p4 : lw_okq (⟨"FallingCalls$Teller", "takeNumber", "(II)I"⟩, 6) := ⟨⟨by decide +kernel, by decide +kernel⟩, List.mem_of_getElem? (i := 23) (by decide +kernel), List.mem_of_getElem? (i := 274) (by decide +kernel), List.mem_of_getElem? (i := 275) (by decide +kernel)⟩
theorem lw_p5 : lw_okq (⟨"FallingCalls$Teller", "numberRead", "()I"⟩, 6) := ⟨⟨by decide +kernel, by decide +kernel⟩, List.mem_of_getElem? (i := 23) (by decide +kernel), List.mem_of_getElem? (i := 278) (by decide +kernel), List.mem_of_getElem? (i := 279) (by decide +kernel)⟩
theorem lw_p6 : lw_okq (⟨"FallingCalls$Teller", "takeLineEnd", "()V"⟩, 6) := ⟨⟨by decide +kernel, by decide +kernel⟩, List.mem_of_getElem? (i := 23) (by decide +kernel), List.mem_of_getElem? (i := 282) (by decide +kernel), List.mem_of_getElem? (i := 283) (by decide +kernel)⟩
theorem lw_p7 : lw_okq (⟨"FallingCalls$Teller", "isSign", "(C)Z"⟩, 6) := ⟨⟨by decide +kernel, by decide +kernel⟩, List.mem_of_getElem? (i := 23) (by decide +kernel), List.mem_of_getElem? (i := 286) (by decide +kernel), List.mem_of_getElem? (i := 287) (by decide +kernel)⟩
theorem lw_p8 : lw_okq (⟨"FallingCalls$Teller", "tellCall", "(LFallingCalls$Program;)V"⟩, 6) := ⟨⟨by decide +kernel, by decide +kernel⟩, List.mem_of_getElem? (i := 23) (by decide +kernel), List.mem_of_getElem? (i := 295) (by decide +kernel), List.mem_of_getElem? (i := 296) (by decide +kernel)⟩
theorem lw_p9 : lw_okq (⟨"FallingCalls$Teller", "takeArgument", "(I)I"⟩, 6) := ⟨⟨by decide +kernel, by decide +kernel⟩, List.mem_of_getElem? (i := 23) (by decide +kernel), List.mem_of_getElem? (i := 307) (by decide +kernel), List.mem_of_getElem? (i := 308) (by decide +kernel)⟩
theorem lw_p10 : lw_okq (⟨"FallingCalls$Teller", "takeValue", "(I)I"⟩, 6) := ⟨⟨by decide +kernel, by decide +kernel⟩, List.mem_of_getElem? (i := 23) (by decide +kernel), List.mem_of_getElem? (i := 314) (by decide +kernel), List.mem_of_getElem? (i := 315) (by decide +kernel)⟩
theorem lw_p11 : lw_okq (⟨"FallingCalls", "fresh", "()LFallingCalls$Graphs;"⟩, 9) := ⟨⟨by decide +kernel, by decide +kernel⟩, List.mem_of_getElem? (i := 15) (by decide +kernel), List.mem_of_getElem? (i := 339) (by decide +kernel), List.mem_of_getElem? (i := 340) (by decide +kernel)⟩
theorem lw_p12 : lw_okq (⟨"FallingCalls$Graphs", "forget", "()V"⟩, 11) := ⟨⟨by decide +kernel, by decide +kernel⟩, List.mem_of_getElem? (i := 90) (by decide +kernel), List.mem_of_getElem? (i := 347) (by decide +kernel), List.mem_of_getElem? (i := 348) (by decide +kernel)⟩
theorem lw_p13 : lw_okq (⟨"FallingCalls$Graphs", "meet", "(IIIII)I"⟩, 11) := ⟨⟨by decide +kernel, by decide +kernel⟩, List.mem_of_getElem? (i := 90) (by decide +kernel), List.mem_of_getElem? (i := 375) (by decide +kernel), List.mem_of_getElem? (i := 376) (by decide +kernel)⟩
theorem lw_p14 : lw_okq (⟨"FallingCalls$Graphs", "firstOfComponent", "(I)I"⟩, 11) := ⟨⟨by decide +kernel, by decide +kernel⟩, List.mem_of_getElem? (i := 90) (by decide +kernel), List.mem_of_getElem? (i := 420) (by decide +kernel), List.mem_of_getElem? (i := 421) (by decide +kernel)⟩
theorem lw_p15 : lw_okq (⟨"FallingCalls$Graphs", "isTogether", "(II)Z"⟩, 11) := ⟨⟨by decide +kernel, by decide +kernel⟩, List.mem_of_getElem? (i := 90) (by decide +kernel), List.mem_of_getElem? (i := 424) (by decide +kernel), List.mem_of_getElem? (i := 425) (by decide +kernel)⟩
def lw_privs_1 : List (MethodName × Nat) := [(⟨"FallingCalls$Teller", "step", "()V"⟩, 6), (⟨"FallingCalls$Teller", "refuse", "(I)V"⟩, 6), (⟨"FallingCalls$Teller", "isName", "(Ljava/lang/String;)Z"⟩, 6), (⟨"FallingCalls$Teller", "tellFunction", "(LFallingCalls$Program;)V"⟩, 6), (⟨"FallingCalls$Teller", "takeNumber", "(II)I"⟩, 6), (⟨"FallingCalls$Teller", "numberRead", "()I"⟩, 6), (⟨"FallingCalls$Teller", "takeLineEnd", "()V"⟩, 6), (⟨"FallingCalls$Teller", "isSign", "(C)Z"⟩, 6), (⟨"FallingCalls$Teller", "tellCall", "(LFallingCalls$Program;)V"⟩, 6), (⟨"FallingCalls$Teller", "takeArgument", "(I)I"⟩, 6), (⟨"FallingCalls$Teller", "takeValue", "(I)I"⟩, 6), (⟨"FallingCalls", "fresh", "()LFallingCalls$Graphs;"⟩, 9), (⟨"FallingCalls$Graphs", "forget", "()V"⟩, 11), (⟨"FallingCalls$Graphs", "meet", "(IIIII)I"⟩, 11), (⟨"FallingCalls$Graphs", "firstOfComponent", "(I)I"⟩, 11), (⟨"FallingCalls$Graphs", "isTogether", "(II)Z"⟩, 11)]
theorem lw_r1 : ∀ q ∈ lw_privs_1, lw_okq q := List.forall_mem_cons.mpr ⟨lw_p0, List.forall_mem_cons.mpr ⟨lw_p1, List.forall_mem_cons.mpr ⟨lw_p2, List.forall_mem_cons.mpr ⟨lw_p3, List.forall_mem_cons.mpr ⟨lw_p4, List.forall_mem_cons.mpr ⟨lw_p5, List.forall_mem_cons.mpr ⟨lw_p6, List.forall_mem_cons.mpr ⟨lw_p7, List.forall_mem_cons.mpr ⟨lw_p8, List.forall_mem_cons.mpr ⟨lw_p9, List.forall_mem_cons.mpr ⟨lw_p10, List.forall_mem_cons.mpr ⟨lw_p11, List.forall_mem_cons.mpr ⟨lw_p12, List.forall_mem_cons.mpr ⟨lw_p13, List.forall_mem_cons.mpr ⟨lw_p14, List.forall_mem_cons.mpr ⟨lw_p15, fun _ h => absurd h List.not_mem_nil⟩⟩⟩⟩⟩⟩⟩⟩⟩⟩⟩⟩⟩⟩⟩⟩
theorem lw_p16 : lw_okq (⟨"FallingCalls", "trialEnds", "()Z"⟩, 9) := ⟨⟨by decide +kernel, by decide +kernel⟩, List.mem_of_getElem? (i := 15) (by decide +kernel), List.mem_of_getElem? (i := 559) (by decide +kernel), List.mem_of_getElem? (i := 560) (by decide +kernel)⟩
theorem lw_p17 : lw_okq (⟨"FallingCallsModel", "reads", "()V"⟩, 28) := ⟨⟨by decide +kernel, by decide +kernel⟩, List.mem_of_getElem? (i := 662) (by decide +kernel), List.mem_of_getElem? (i := 769) (by decide +kernel), List.mem_of_getElem? (i := 770) (by decide +kernel)⟩
theorem lw_p18 : lw_okq (⟨"FallingCallsModel", "byteAt", "(I)I"⟩, 28) := ⟨⟨by decide +kernel, by decide +kernel⟩, List.mem_of_getElem? (i := 662) (by decide +kernel), List.mem_of_getElem? (i := 773) (by decide +kernel), List.mem_of_getElem? (i := 774) (by decide +kernel)⟩
theorem lw_p19 : lw_okq (⟨"FallingCallsModel", "requires", "(ZI)V"⟩, 28) := ⟨⟨by decide +kernel, by decide +kernel⟩, List.mem_of_getElem? (i := 662) (by decide +kernel), List.mem_of_getElem? (i := 781) (by decide +kernel), List.mem_of_getElem? (i := 782) (by decide +kernel)⟩
theorem lw_p20 : lw_okq (⟨"FallingCallsModel", "readLine", "()V"⟩, 28) := ⟨⟨by decide +kernel, by decide +kernel⟩, List.mem_of_getElem? (i := 662) (by decide +kernel), List.mem_of_getElem? (i := 788) (by decide +kernel), List.mem_of_getElem? (i := 789) (by decide +kernel)⟩
theorem lw_p21 : lw_okq (⟨"FallingCallsModel", "wordNow", "()I"⟩, 28) := ⟨⟨by decide +kernel, by decide +kernel⟩, List.mem_of_getElem? (i := 662) (by decide +kernel), List.mem_of_getElem? (i := 792) (by decide +kernel), List.mem_of_getElem? (i := 793) (by decide +kernel)⟩
theorem lw_p22 : lw_okq (⟨"FallingCallsModel", "readNumber", "(II)I"⟩, 28) := ⟨⟨by decide +kernel, by decide +kernel⟩, List.mem_of_getElem? (i := 662) (by decide +kernel), List.mem_of_getElem? (i := 796) (by decide +kernel), List.mem_of_getElem? (i := 797) (by decide +kernel)⟩
theorem lw_p23 : lw_okq (⟨"FallingCallsModel", "readCall", "()V"⟩, 28) := ⟨⟨by decide +kernel, by decide +kernel⟩, List.mem_of_getElem? (i := 662) (by decide +kernel), List.mem_of_getElem? (i := 800) (by decide +kernel), List.mem_of_getElem? (i := 801) (by decide +kernel)⟩
theorem lw_p24 : lw_okq (⟨"FallingCallsModel", "readArgument", "(II)V"⟩, 28) := ⟨⟨by decide +kernel, by decide +kernel⟩, List.mem_of_getElem? (i := 662) (by decide +kernel), List.mem_of_getElem? (i := 804) (by decide +kernel), List.mem_of_getElem? (i := 805) (by decide +kernel)⟩
theorem lw_p25 : lw_okq (⟨"FallingCallsModel", "readValue", "(I)I"⟩, 28) := ⟨⟨by decide +kernel, by decide +kernel⟩, List.mem_of_getElem? (i := 662) (by decide +kernel), List.mem_of_getElem? (i := 808) (by decide +kernel), List.mem_of_getElem? (i := 809) (by decide +kernel)⟩
theorem lw_p26 : lw_okq (⟨"FallingCallsModel", "findGraphs", "()V"⟩, 28) := ⟨⟨by decide +kernel, by decide +kernel⟩, List.mem_of_getElem? (i := 662) (by decide +kernel), List.mem_of_getElem? (i := 820) (by decide +kernel), List.mem_of_getElem? (i := 821) (by decide +kernel)⟩
theorem lw_p27 : lw_okq (⟨"FallingCallsModel", "of", "(II)I"⟩, 28) := ⟨⟨by decide +kernel, by decide +kernel⟩, List.mem_of_getElem? (i := 662) (by decide +kernel), List.mem_of_getElem? (i := 824) (by decide +kernel), List.mem_of_getElem? (i := 825) (by decide +kernel)⟩
theorem lw_p28 : lw_okq (⟨"FallingCallsModel", "codeOf", "(I)I"⟩, 28) := ⟨⟨by decide +kernel, by decide +kernel⟩, List.mem_of_getElem? (i := 662) (by decide +kernel), List.mem_of_getElem? (i := 828) (by decide +kernel), List.mem_of_getElem? (i := 829) (by decide +kernel)⟩
theorem lw_p29 : lw_okq (⟨"FallingCallsModel", "relationOf", "(III)I"⟩, 28) := ⟨⟨by decide +kernel, by decide +kernel⟩, List.mem_of_getElem? (i := 662) (by decide +kernel), List.mem_of_getElem? (i := 835) (by decide +kernel), List.mem_of_getElem? (i := 836) (by decide +kernel)⟩
theorem lw_p30 : lw_okq (⟨"FallingCallsModel", "ofArgument", "(III)I"⟩, 28) := ⟨⟨by decide +kernel, by decide +kernel⟩, List.mem_of_getElem? (i := 662) (by decide +kernel), List.mem_of_getElem? (i := 839) (by decide +kernel), List.mem_of_getElem? (i := 840) (by decide +kernel)⟩
theorem lw_p31 : lw_okq (⟨"FallingCallsModel", "comes", "(IIIII)V"⟩, 28) := ⟨⟨by decide +kernel, by decide +kernel⟩, List.mem_of_getElem? (i := 662) (by decide +kernel), List.mem_of_getElem? (i := 843) (by decide +kernel), List.mem_of_getElem? (i := 844) (by decide +kernel)⟩
def lw_privs_2 : List (MethodName × Nat) := [(⟨"FallingCalls", "trialEnds", "()Z"⟩, 9), (⟨"FallingCallsModel", "reads", "()V"⟩, 28), (⟨"FallingCallsModel", "byteAt", "(I)I"⟩, 28), (⟨"FallingCallsModel", "requires", "(ZI)V"⟩, 28), (⟨"FallingCallsModel", "readLine", "()V"⟩, 28), (⟨"FallingCallsModel", "wordNow", "()I"⟩, 28), (⟨"FallingCallsModel", "readNumber", "(II)I"⟩, 28), (⟨"FallingCallsModel", "readCall", "()V"⟩, 28), (⟨"FallingCallsModel", "readArgument", "(II)V"⟩, 28), (⟨"FallingCallsModel", "readValue", "(I)I"⟩, 28), (⟨"FallingCallsModel", "findGraphs", "()V"⟩, 28), (⟨"FallingCallsModel", "of", "(II)I"⟩, 28), (⟨"FallingCallsModel", "codeOf", "(I)I"⟩, 28), (⟨"FallingCallsModel", "relationOf", "(III)I"⟩, 28), (⟨"FallingCallsModel", "ofArgument", "(III)I"⟩, 28), (⟨"FallingCallsModel", "comes", "(IIIII)V"⟩, 28)]
theorem lw_r2 : ∀ q ∈ lw_privs_2, lw_okq q := List.forall_mem_cons.mpr ⟨lw_p16, List.forall_mem_cons.mpr ⟨lw_p17, List.forall_mem_cons.mpr ⟨lw_p18, List.forall_mem_cons.mpr ⟨lw_p19, List.forall_mem_cons.mpr ⟨lw_p20, List.forall_mem_cons.mpr ⟨lw_p21, List.forall_mem_cons.mpr ⟨lw_p22, List.forall_mem_cons.mpr ⟨lw_p23, List.forall_mem_cons.mpr ⟨lw_p24, List.forall_mem_cons.mpr ⟨lw_p25, List.forall_mem_cons.mpr ⟨lw_p26, List.forall_mem_cons.mpr ⟨lw_p27, List.forall_mem_cons.mpr ⟨lw_p28, List.forall_mem_cons.mpr ⟨lw_p29, List.forall_mem_cons.mpr ⟨lw_p30, List.forall_mem_cons.mpr ⟨lw_p31, fun _ h => absurd h List.not_mem_nil⟩⟩⟩⟩⟩⟩⟩⟩⟩⟩⟩⟩⟩⟩⟩⟩
theorem lw_p32 : lw_okq (⟨"FallingCallsModel", "graphsThat", "(I)I"⟩, 28) := ⟨⟨by decide +kernel, by decide +kernel⟩, List.mem_of_getElem? (i := 662) (by decide +kernel), List.mem_of_getElem? (i := 856) (by decide +kernel), List.mem_of_getElem? (i := 857) (by decide +kernel)⟩
theorem lw_p33 : lw_okq (⟨"FallingCallsModel", "isIdle", "(I)Z"⟩, 28) := ⟨⟨by decide +kernel, by decide +kernel⟩, List.mem_of_getElem? (i := 662) (by decide +kernel), List.mem_of_getElem? (i := 860) (by decide +kernel), List.mem_of_getElem? (i := 861) (by decide +kernel)⟩
theorem lw_p34 : lw_okq (⟨"FallingCallsModel", "isLoop", "(I)Z"⟩, 28) := ⟨⟨by decide +kernel, by decide +kernel⟩, List.mem_of_getElem? (i := 662) (by decide +kernel), List.mem_of_getElem? (i := 864) (by decide +kernel), List.mem_of_getElem? (i := 865) (by decide +kernel)⟩
theorem lw_p35 : lw_okq (⟨"FallingCallsModel", "fallsOf", "(I)I"⟩, 28) := ⟨⟨by decide +kernel, by decide +kernel⟩, List.mem_of_getElem? (i := 662) (by decide +kernel), List.mem_of_getElem? (i := 868) (by decide +kernel), List.mem_of_getElem? (i := 869) (by decide +kernel)⟩
theorem lw_p36 : lw_okq (⟨"FallingCallsModel", "isNeedless", "(I)Z"⟩, 28) := ⟨⟨by decide +kernel, by decide +kernel⟩, List.mem_of_getElem? (i := 662) (by decide +kernel), List.mem_of_getElem? (i := 875) (by decide +kernel), List.mem_of_getElem? (i := 876) (by decide +kernel)⟩
theorem lw_p37 : lw_okq (⟨"FallingCallsModel", "allEnd", "()Z"⟩, 28) := ⟨⟨by decide +kernel, by decide +kernel⟩, List.mem_of_getElem? (i := 662) (by decide +kernel), List.mem_of_getElem? (i := 882) (by decide +kernel), List.mem_of_getElem? (i := 883) (by decide +kernel)⟩
theorem lw_p38 : lw_okq (⟨"FallingCallsModel", "components", "()I"⟩, 28) := ⟨⟨by decide +kernel, by decide +kernel⟩, List.mem_of_getElem? (i := 662) (by decide +kernel), List.mem_of_getElem? (i := 886) (by decide +kernel), List.mem_of_getElem? (i := 887) (by decide +kernel)⟩
theorem lw_p39 : lw_okq (⟨"FallingCallsModel", "componentOf", "(I)I"⟩, 28) := ⟨⟨by decide +kernel, by decide +kernel⟩, List.mem_of_getElem? (i := 662) (by decide +kernel), List.mem_of_getElem? (i := 890) (by decide +kernel), List.mem_of_getElem? (i := 891) (by decide +kernel)⟩
theorem lw_p40 : lw_okq (⟨"FallingCallsModel", "reachOf", "(I)I"⟩, 28) := ⟨⟨by decide +kernel, by decide +kernel⟩, List.mem_of_getElem? (i := 662) (by decide +kernel), List.mem_of_getElem? (i := 894) (by decide +kernel), List.mem_of_getElem? (i := 895) (by decide +kernel)⟩
theorem lw_p41 : lw_okq (⟨"FallingCallsModel", "isFun", "(I)Z"⟩, 28) := ⟨⟨by decide +kernel, by decide +kernel⟩, List.mem_of_getElem? (i := 662) (by decide +kernel), List.mem_of_getElem? (i := 902) (by decide +kernel), List.mem_of_getElem? (i := 903) (by decide +kernel)⟩
theorem lw_p42 : lw_okq (⟨"FallingCallsModel", "callsFrom", "(I)I"⟩, 28) := ⟨⟨by decide +kernel, by decide +kernel⟩, List.mem_of_getElem? (i := 662) (by decide +kernel), List.mem_of_getElem? (i := 906) (by decide +kernel), List.mem_of_getElem? (i := 907) (by decide +kernel)⟩
theorem lw_p43 : lw_okq (⟨"FallingCallsModel", "componentNumber", "(I)I"⟩, 28) := ⟨⟨by decide +kernel, by decide +kernel⟩, List.mem_of_getElem? (i := 662) (by decide +kernel), List.mem_of_getElem? (i := 910) (by decide +kernel), List.mem_of_getElem? (i := 911) (by decide +kernel)⟩
theorem lw_p44 : lw_okq (⟨"FallingCallsModel", "loopOf", "(I)I"⟩, 28) := ⟨⟨by decide +kernel, by decide +kernel⟩, List.mem_of_getElem? (i := 662) (by decide +kernel), List.mem_of_getElem? (i := 914) (by decide +kernel), List.mem_of_getElem? (i := 915) (by decide +kernel)⟩
theorem lw_p45 : lw_okq (⟨"FallingCallsModel", "isCall", "(I)Z"⟩, 28) := ⟨⟨by decide +kernel, by decide +kernel⟩, List.mem_of_getElem? (i := 662) (by decide +kernel), List.mem_of_getElem? (i := 922) (by decide +kernel), List.mem_of_getElem? (i := 923) (by decide +kernel)⟩
theorem lw_p46 : lw_okq (⟨"FallingCallsModel", "isArgument", "(II)Z"⟩, 28) := ⟨⟨by decide +kernel, by decide +kernel⟩, List.mem_of_getElem? (i := 662) (by decide +kernel), List.mem_of_getElem? (i := 931) (by decide +kernel), List.mem_of_getElem? (i := 932) (by decide +kernel)⟩
theorem lw_p47 : lw_okq (⟨"FallingCallsModel", "isGraph", "(I)Z"⟩, 28) := ⟨⟨by decide +kernel, by decide +kernel⟩, List.mem_of_getElem? (i := 662) (by decide +kernel), List.mem_of_getElem? (i := 940) (by decide +kernel), List.mem_of_getElem? (i := 941) (by decide +kernel)⟩
def lw_privs_3 : List (MethodName × Nat) := [(⟨"FallingCallsModel", "graphsThat", "(I)I"⟩, 28), (⟨"FallingCallsModel", "isIdle", "(I)Z"⟩, 28), (⟨"FallingCallsModel", "isLoop", "(I)Z"⟩, 28), (⟨"FallingCallsModel", "fallsOf", "(I)I"⟩, 28), (⟨"FallingCallsModel", "isNeedless", "(I)Z"⟩, 28), (⟨"FallingCallsModel", "allEnd", "()Z"⟩, 28), (⟨"FallingCallsModel", "components", "()I"⟩, 28), (⟨"FallingCallsModel", "componentOf", "(I)I"⟩, 28), (⟨"FallingCallsModel", "reachOf", "(I)I"⟩, 28), (⟨"FallingCallsModel", "isFun", "(I)Z"⟩, 28), (⟨"FallingCallsModel", "callsFrom", "(I)I"⟩, 28), (⟨"FallingCallsModel", "componentNumber", "(I)I"⟩, 28), (⟨"FallingCallsModel", "loopOf", "(I)I"⟩, 28), (⟨"FallingCallsModel", "isCall", "(I)Z"⟩, 28), (⟨"FallingCallsModel", "isArgument", "(II)Z"⟩, 28), (⟨"FallingCallsModel", "isGraph", "(I)Z"⟩, 28)]
theorem lw_r3 : ∀ q ∈ lw_privs_3, lw_okq q := List.forall_mem_cons.mpr ⟨lw_p32, List.forall_mem_cons.mpr ⟨lw_p33, List.forall_mem_cons.mpr ⟨lw_p34, List.forall_mem_cons.mpr ⟨lw_p35, List.forall_mem_cons.mpr ⟨lw_p36, List.forall_mem_cons.mpr ⟨lw_p37, List.forall_mem_cons.mpr ⟨lw_p38, List.forall_mem_cons.mpr ⟨lw_p39, List.forall_mem_cons.mpr ⟨lw_p40, List.forall_mem_cons.mpr ⟨lw_p41, List.forall_mem_cons.mpr ⟨lw_p42, List.forall_mem_cons.mpr ⟨lw_p43, List.forall_mem_cons.mpr ⟨lw_p44, List.forall_mem_cons.mpr ⟨lw_p45, List.forall_mem_cons.mpr ⟨lw_p46, List.forall_mem_cons.mpr ⟨lw_p47, fun _ h => absurd h List.not_mem_nil⟩⟩⟩⟩⟩⟩⟩⟩⟩⟩⟩⟩⟩⟩⟩⟩
theorem lw_p48 : lw_okq (⟨"FallingCallsModel", "toldOf", "(II)I"⟩, 28) := ⟨⟨by decide +kernel, by decide +kernel⟩, List.mem_of_getElem? (i := 662) (by decide +kernel), List.mem_of_getElem? (i := 981) (by decide +kernel), List.mem_of_getElem? (i := 982) (by decide +kernel)⟩
theorem lw_p49 : lw_okq (⟨"FallingCallsModel", "argumentBecomes", "(III)V"⟩, 28) := ⟨⟨by decide +kernel, by decide +kernel⟩, List.mem_of_getElem? (i := 662) (by decide +kernel), List.mem_of_getElem? (i := 985) (by decide +kernel), List.mem_of_getElem? (i := 986) (by decide +kernel)⟩
theorem lw_p50 : lw_okq (⟨"FallingCallsModel", "endsIf", "(III)Z"⟩, 28) := ⟨⟨by decide +kernel, by decide +kernel⟩, List.mem_of_getElem? (i := 662) (by decide +kernel), List.mem_of_getElem? (i := 997) (by decide +kernel), List.mem_of_getElem? (i := 998) (by decide +kernel)⟩
theorem lw_p51 : lw_okq (⟨"FallingCallsModel", "madeMany", "(I)I"⟩, 28) := ⟨⟨by decide +kernel, by decide +kernel⟩, List.mem_of_getElem? (i := 662) (by decide +kernel), List.mem_of_getElem? (i := 1010) (by decide +kernel), List.mem_of_getElem? (i := 1011) (by decide +kernel)⟩
theorem lw_p52 : lw_okq (⟨"FallingCallsModel", "isMade", "(I)Z"⟩, 28) := ⟨⟨by decide +kernel, by decide +kernel⟩, List.mem_of_getElem? (i := 662) (by decide +kernel), List.mem_of_getElem? (i := 1014) (by decide +kernel), List.mem_of_getElem? (i := 1015) (by decide +kernel)⟩
theorem lw_p53 : lw_okq (⟨"FallingCallsModel", "madeAt", "(II)I"⟩, 28) := ⟨⟨by decide +kernel, by decide +kernel⟩, List.mem_of_getElem? (i := 662) (by decide +kernel), List.mem_of_getElem? (i := 1019) (by decide +kernel), List.mem_of_getElem? (i := 1020) (by decide +kernel)⟩
theorem lw_p54 : lw_okq (⟨"FallingCallsModel", "argumentNow", "(II)I"⟩, 28) := ⟨⟨by decide +kernel, by decide +kernel⟩, List.mem_of_getElem? (i := 662) (by decide +kernel), List.mem_of_getElem? (i := 1023) (by decide +kernel), List.mem_of_getElem? (i := 1024) (by decide +kernel)⟩
theorem lw_p55 : lw_okq (⟨"FallingCallsModel", "plainArguments", "()I"⟩, 28) := ⟨⟨by decide +kernel, by decide +kernel⟩, List.mem_of_getElem? (i := 662) (by decide +kernel), List.mem_of_getElem? (i := 1060) (by decide +kernel), List.mem_of_getElem? (i := 1061) (by decide +kernel)⟩
theorem lw_p56 : lw_okq (⟨"FallingCallsModel", "codesOfAll", "()I"⟩, 28) := ⟨⟨by decide +kernel, by decide +kernel⟩, List.mem_of_getElem? (i := 662) (by decide +kernel), List.mem_of_getElem? (i := 1064) (by decide +kernel), List.mem_of_getElem? (i := 1065) (by decide +kernel)⟩
def lw_privs_4 : List (MethodName × Nat) := [(⟨"FallingCallsModel", "toldOf", "(II)I"⟩, 28), (⟨"FallingCallsModel", "argumentBecomes", "(III)V"⟩, 28), (⟨"FallingCallsModel", "endsIf", "(III)Z"⟩, 28), (⟨"FallingCallsModel", "madeMany", "(I)I"⟩, 28), (⟨"FallingCallsModel", "isMade", "(I)Z"⟩, 28), (⟨"FallingCallsModel", "madeAt", "(II)I"⟩, 28), (⟨"FallingCallsModel", "argumentNow", "(II)I"⟩, 28), (⟨"FallingCallsModel", "plainArguments", "()I"⟩, 28), (⟨"FallingCallsModel", "codesOfAll", "()I"⟩, 28)]
theorem lw_r4 : ∀ q ∈ lw_privs_4, lw_okq q := List.forall_mem_cons.mpr ⟨lw_p48, List.forall_mem_cons.mpr ⟨lw_p49, List.forall_mem_cons.mpr ⟨lw_p50, List.forall_mem_cons.mpr ⟨lw_p51, List.forall_mem_cons.mpr ⟨lw_p52, List.forall_mem_cons.mpr ⟨lw_p53, List.forall_mem_cons.mpr ⟨lw_p54, List.forall_mem_cons.mpr ⟨lw_p55, List.forall_mem_cons.mpr ⟨lw_p56, fun _ h => absurd h List.not_mem_nil⟩⟩⟩⟩⟩⟩⟩⟩⟩
def lw_privs : List (MethodName × Nat) := lw_privs_1 ++ (lw_privs_2 ++ (lw_privs_3 ++ (lw_privs_4)))
def lw_tbl : List Cond := k2_sels lw_privs ++ tables_1
theorem lw_privs_ok : ∀ q ∈ lw_privs, lw_okq q := by
  show ∀ q ∈ lw_privs_1 ++ (lw_privs_2 ++ (lw_privs_3 ++ (lw_privs_4))), lw_okq q
  exact List.forall_mem_append.mpr ⟨lw_r1, List.forall_mem_append.mpr ⟨lw_r2, List.forall_mem_append.mpr ⟨lw_r3, lw_r4⟩⟩⟩
end
section
def RX0 : String := "FallingCalls$Graphs"
def TX0 : u_T := fun k => match k with
  | 0 => ("FallingCalls$Graphs", "bits", "[I", true)
  | 1 => ("FallingCalls$Graphs", "wordLength", "[I", true)
  | 2 => ("FallingCalls$Graphs", "ofCall", "[I", true)
  | 3 => ("FallingCalls$Graphs", "comesTo", "[I", true)
  | 4 => ("FallingCalls$Graphs", "size", "I", false)
  | 5 => ("FallingCalls$Graphs", "loopCount", "I", false)
  | 6 => ("FallingCalls$Graphs", "ends", "[I", true)
  | 7 => ("FallingCalls$Graphs", "before", "[I", true)
  | 8 => ("FallingCalls$Graphs", "lastCall", "[I", true)
  | 9 => ("FallingCalls$Graphs", "callsOf", "[I", true)
  | _ => ("FallingCalls$Graphs", "found", "[I", true)
def tyX0 : Nat → FieldType := fun k => match k with
  | 0 => .array .int
  | 1 => .array .int
  | 2 => .array .int
  | 3 => .array .int
  | 4 => .int
  | 5 => .int
  | 6 => .array .int
  | 7 => .array .int
  | 8 => .array .int
  | 9 => .array .int
  | _ => .array .int
abbrev wsX00 : List Cond := u_ws RX0 TX0 11
theorem nmX0 : ∀ a, a < 11 → ∀ b, b < 11 → a ≠ b → (TX0 a).2.1 ≠ (TX0 b).2.1 := by decide +kernel
theorem tyX0_ok : ∀ k, k < 11 → parseFieldDescriptor (TX0 k).2.2.1 = some (tyX0 k) := by decide +kernel
abbrev cX0_init : ByteArray := prog_2_method_1_code
def yX0_init : MethodName := ⟨RX0, "<init>", "()V"⟩
abbrev cX0_codeOf : ByteArray := prog_2_method_2_code
def yX0_codeOf : MethodName := ⟨RX0, "codeOf", "(I)I"⟩
abbrev cX0_composed : ByteArray := prog_2_method_3_code
def yX0_composed : MethodName := ⟨RX0, "composed", "(II)I"⟩
abbrev cX0_close : ByteArray := prog_2_method_4_code
def yX0_close : MethodName := ⟨RX0, "close", "(LFallingCalls$Program;Z)V"⟩
abbrev cX0_forget : ByteArray := prog_2_method_5_code
def yX0_forget : MethodName := ⟨RX0, "forget", "()V"⟩
abbrev cX0_meet : ByteArray := prog_2_method_6_code
def yX0_meet : MethodName := ⟨RX0, "meet", "(IIIII)I"⟩
abbrev cX0_placeOf : ByteArray := prog_2_method_7_code
def yX0_placeOf : MethodName := ⟨RX0, "placeOf", "(III)I"⟩
abbrev cX0_has : ByteArray := prog_2_method_8_code
def yX0_has : MethodName := ⟨RX0, "has", "(I)Z"⟩
abbrev cX0_fromOf : ByteArray := prog_2_method_9_code
def yX0_fromOf : MethodName := ⟨RX0, "fromOf", "(I)I"⟩
abbrev cX0_toOf : ByteArray := prog_2_method_10_code
def yX0_toOf : MethodName := ⟨RX0, "toOf", "(I)I"⟩
abbrev cX0_at : ByteArray := prog_2_method_11_code
def yX0_at : MethodName := ⟨RX0, "at", "(III)I"⟩
abbrev cX0_callOfWord : ByteArray := prog_2_method_12_code
def yX0_callOfWord : MethodName := ⟨RX0, "callOfWord", "(II)I"⟩
abbrev cX0_isIdle : ByteArray := prog_2_method_13_code
def yX0_isIdle : MethodName := ⟨RX0, "isIdle", "(I)Z"⟩
abbrev cX0_fallsIn : ByteArray := prog_2_method_14_code
def yX0_fallsIn : MethodName := ⟨RX0, "fallsIn", "(I)I"⟩
abbrev cX0_isLoop : ByteArray := prog_2_method_15_code
def yX0_isLoop : MethodName := ⟨RX0, "isLoop", "(I)Z"⟩
abbrev cX0_isNeedless : ByteArray := prog_2_method_16_code
def yX0_isNeedless : MethodName := ⟨RX0, "isNeedless", "(I)Z"⟩
abbrev cX0_idleOnes : ByteArray := prog_2_method_17_code
def yX0_idleOnes : MethodName := ⟨RX0, "idleOnes", "()I"⟩
abbrev cX0_neededOnes : ByteArray := prog_2_method_18_code
def yX0_neededOnes : MethodName := ⟨RX0, "neededOnes", "()I"⟩
abbrev cX0_neededLoops : ByteArray := prog_2_method_19_code
def yX0_neededLoops : MethodName := ⟨RX0, "neededLoops", "()I"⟩
abbrev cX0_sumOfCodes : ByteArray := prog_2_method_20_code
def yX0_sumOfCodes : MethodName := ⟨RX0, "sumOfCodes", "()I"⟩
abbrev cX0_firstLoopOf : ByteArray := prog_2_method_21_code
def yX0_firstLoopOf : MethodName := ⟨RX0, "firstLoopOf", "(I)I"⟩
abbrev cX0_callsOfEveryLoop : ByteArray := prog_2_method_22_code
def yX0_callsOfEveryLoop : MethodName := ⟨RX0, "callsOfEveryLoop", "()I"⟩
abbrev cX0_isTogether : ByteArray := prog_2_method_23_code
def yX0_isTogether : MethodName := ⟨RX0, "isTogether", "(II)Z"⟩
abbrev cX0_firstOfComponent : ByteArray := prog_2_method_24_code
def yX0_firstOfComponent : MethodName := ⟨RX0, "firstOfComponent", "(I)I"⟩
abbrev cX0_componentsBelow : ByteArray := prog_2_method_25_code
def yX0_componentsBelow : MethodName := ⟨RX0, "componentsBelow", "(I)I"⟩
abbrev cX0_componentOf : ByteArray := prog_2_method_26_code
def yX0_componentOf : MethodName := ⟨RX0, "componentOf", "(I)I"⟩
def RX1 : String := "FallingCalls$Program"
def TX1 : u_T := fun k => match k with
  | 0 => ("FallingCalls$Program", "arity", "[I", true)
  | 1 => ("FallingCalls$Program", "from", "[I", true)
  | 2 => ("FallingCalls$Program", "to", "[I", true)
  | 3 => ("FallingCalls$Program", "arguments", "[I", true)
  | 4 => ("FallingCalls$Program", "functions", "I", false)
  | _ => ("FallingCalls$Program", "calls", "I", false)
def tyX1 : Nat → FieldType := fun k => match k with
  | 0 => .array .int
  | 1 => .array .int
  | 2 => .array .int
  | 3 => .array .int
  | 4 => .int
  | _ => .int
abbrev wsX10 : List Cond := u_ws RX1 TX1 6
theorem nmX1 : ∀ a, a < 6 → ∀ b, b < 6 → a ≠ b → (TX1 a).2.1 ≠ (TX1 b).2.1 := by decide +kernel
theorem tyX1_ok : ∀ k, k < 6 → parseFieldDescriptor (TX1 k).2.2.1 = some (tyX1 k) := by decide +kernel
abbrev cX1_init : ByteArray := prog_3_method_1_code
def yX1_init : MethodName := ⟨RX1, "<init>", "()V"⟩
abbrev cX1_clear : ByteArray := prog_3_method_2_code
def yX1_clear : MethodName := ⟨RX1, "clear", "()V"⟩
abbrev cX1_copy : ByteArray := prog_3_method_3_code
def yX1_copy : MethodName := ⟨RX1, "copy", "(LFallingCalls$Program;)V"⟩
abbrev cX1_hasFunction : ByteArray := prog_3_method_4_code
def yX1_hasFunction : MethodName := ⟨RX1, "hasFunction", "(I)Z"⟩
abbrev cX1_hasCall : ByteArray := prog_3_method_5_code
def yX1_hasCall : MethodName := ⟨RX1, "hasCall", "(I)Z"⟩
abbrev cX1_hasArgument : ByteArray := prog_3_method_6_code
def yX1_hasArgument : MethodName := ⟨RX1, "hasArgument", "(II)Z"⟩
abbrev cX1_argumentAt : ByteArray := prog_3_method_7_code
def yX1_argumentAt : MethodName := ⟨RX1, "argumentAt", "(II)I"⟩
abbrev cX1_putArgument : ByteArray := prog_3_method_8_code
def yX1_putArgument : MethodName := ⟨RX1, "putArgument", "(III)V"⟩
abbrev cX1_appendFunction : ByteArray := prog_3_method_9_code
def yX1_appendFunction : MethodName := ⟨RX1, "appendFunction", "(I)V"⟩
abbrev cX1_appendCall : ByteArray := prog_3_method_10_code
def yX1_appendCall : MethodName := ⟨RX1, "appendCall", "(II)V"⟩
abbrev cX1_removeCall : ByteArray := prog_3_method_11_code
def yX1_removeCall : MethodName := ⟨RX1, "removeCall", "(I)V"⟩
abbrev cX1_takes : ByteArray := prog_3_method_12_code
def yX1_takes : MethodName := ⟨RX1, "takes", "(III)Z"⟩
abbrev cX1_callsFrom : ByteArray := prog_3_method_13_code
def yX1_callsFrom : MethodName := ⟨RX1, "callsFrom", "(I)I"⟩
abbrev cX1_plainNumbers : ByteArray := prog_3_method_14_code
def yX1_plainNumbers : MethodName := ⟨RX1, "plainNumbers", "()I"⟩
abbrev cX1_arities : ByteArray := prog_3_method_15_code
def yX1_arities : MethodName := ⟨RX1, "arities", "()I"⟩
abbrev cX1_bitsOf : ByteArray := prog_3_method_16_code
def yX1_bitsOf : MethodName := ⟨RX1, "bitsOf", "(I)I"⟩
abbrev cX1_relation : ByteArray := prog_3_method_17_code
def yX1_relation : MethodName := ⟨RX1, "relation", "(II)I"⟩
abbrev cX1_callsMade : ByteArray := prog_3_method_18_code
def yX1_callsMade : MethodName := ⟨RX1, "callsMade", "(III)I"⟩
abbrev cX1_callMade : ByteArray := prog_3_method_19_code
def yX1_callMade : MethodName := ⟨RX1, "callMade", "(IIII)I"⟩
abbrev cX1_isMade : ByteArray := prog_3_method_20_code
def yX1_isMade : MethodName := ⟨RX1, "isMade", "(III)Z"⟩
abbrev cX1_worth : ByteArray := prog_3_method_21_code
def yX1_worth : MethodName := ⟨RX1, "worth", "(IIII)I"⟩
def RX2 : String := "FallingCalls$Sheet"
def TX2 : u_T := fun k => match k with
  | 0 => ("FallingCalls$Sheet", "cells", "[I", true)
  | 1 => ("FallingCalls$Sheet", "lane", "I", false)
  | _ => ("FallingCalls$Sheet", "size", "I", false)
def tyX2 : Nat → FieldType := fun k => match k with
  | 0 => .array .int
  | 1 => .int
  | _ => .int
abbrev wsX20 : List Cond := u_ws RX2 TX2 3
theorem nmX2 : ∀ a, a < 3 → ∀ b, b < 3 → a ≠ b → (TX2 a).2.1 ≠ (TX2 b).2.1 := by decide +kernel
theorem tyX2_ok : ∀ k, k < 3 → parseFieldDescriptor (TX2 k).2.2.1 = some (tyX2 k) := by decide +kernel
abbrev cX2_init : ByteArray := prog_4_method_1_code
def yX2_init : MethodName := ⟨RX2, "<init>", "()V"⟩
abbrev cX2_begin : ByteArray := prog_4_method_2_code
def yX2_begin : MethodName := ⟨RX2, "begin", "(II)V"⟩
abbrev cX2_faultAt : ByteArray := prog_4_method_3_code
def yX2_faultAt : MethodName := ⟨RX2, "faultAt", "(III)I"⟩
abbrev cX2_put : ByteArray := prog_4_method_4_code
def yX2_put : MethodName := ⟨RX2, "put", "(II)V"⟩
def RX3 : String := "FallingCalls$Teller"
def TX3 : u_T := fun k => match k with
  | 0 => ("FallingCalls$Teller", "tape", "[B", true)
  | 1 => ("FallingCalls$Teller", "length", "I", false)
  | 2 => ("FallingCalls$Teller", "fault", "I", false)
  | 3 => ("FallingCalls$Teller", "at", "I", false)
  | 4 => ("FallingCalls$Teller", "behind", "I", false)
  | _ => ("FallingCalls$Teller", "token", "I", false)
def tyX3 : Nat → FieldType := fun k => match k with
  | 0 => .array .byte
  | 1 => .int
  | 2 => .int
  | 3 => .int
  | 4 => .int
  | _ => .int
abbrev wsX30 : List Cond := u_ws RX3 TX3 6
theorem nmX3 : ∀ a, a < 6 → ∀ b, b < 6 → a ≠ b → (TX3 a).2.1 ≠ (TX3 b).2.1 := by decide +kernel
theorem tyX3_ok : ∀ k, k < 6 → parseFieldDescriptor (TX3 k).2.2.1 = some (tyX3 k) := by decide +kernel
abbrev cX3_init : ByteArray := prog_5_method_1_code
def yX3_init : MethodName := ⟨RX3, "<init>", "()V"⟩
abbrev cX3_tell : ByteArray := prog_5_method_2_code
def yX3_tell : MethodName := ⟨RX3, "tell", "(LFallingCalls$Program;)I"⟩
abbrev cX3_tellFunction : ByteArray := prog_5_method_3_code
def yX3_tellFunction : MethodName := ⟨RX3, "tellFunction", "(LFallingCalls$Program;)V"⟩
abbrev cX3_tellCall : ByteArray := prog_5_method_4_code
def yX3_tellCall : MethodName := ⟨RX3, "tellCall", "(LFallingCalls$Program;)V"⟩
abbrev cX3_takeArgument : ByteArray := prog_5_method_5_code
def yX3_takeArgument : MethodName := ⟨RX3, "takeArgument", "(I)I"⟩
abbrev cX3_takeValue : ByteArray := prog_5_method_6_code
def yX3_takeValue : MethodName := ⟨RX3, "takeValue", "(I)I"⟩
abbrev cX3_takeNumber : ByteArray := prog_5_method_7_code
def yX3_takeNumber : MethodName := ⟨RX3, "takeNumber", "(II)I"⟩
abbrev cX3_takeLineEnd : ByteArray := prog_5_method_8_code
def yX3_takeLineEnd : MethodName := ⟨RX3, "takeLineEnd", "()V"⟩
abbrev cX3_refuse : ByteArray := prog_5_method_9_code
def yX3_refuse : MethodName := ⟨RX3, "refuse", "(I)V"⟩
abbrev cX3_isSign : ByteArray := prog_5_method_10_code
def yX3_isSign : MethodName := ⟨RX3, "isSign", "(C)Z"⟩
abbrev cX3_isName : ByteArray := prog_5_method_11_code
def yX3_isName : MethodName := ⟨RX3, "isName", "(Ljava/lang/String;)Z"⟩
abbrev cX3_step : ByteArray := prog_5_method_12_code
def yX3_step : MethodName := ⟨RX3, "step", "()V"⟩
abbrev cX3_tokenOf : ByteArray := prog_5_method_13_code
def yX3_tokenOf : MethodName := ⟨RX3, "tokenOf", "(I)I"⟩
abbrev cX3_numberRead : ByteArray := prog_5_method_14_code
def yX3_numberRead : MethodName := ⟨RX3, "numberRead", "()I"⟩
def RX4 : String := "FallingCalls"
def TX4 : u_T := fun k => match k with
  | 0 => ("FallingCalls", "teller", "LFallingCalls$Teller;", true)
  | 1 => ("FallingCalls", "told", "LFallingCalls$Program;", true)
  | 2 => ("FallingCalls", "trial", "LFallingCalls$Program;", true)
  | 3 => ("FallingCalls", "graphs", "LFallingCalls$Graphs;", true)
  | 4 => ("FallingCalls", "images", "[LFallingCalls$Program;", true)
  | 5 => ("FallingCalls", "kept", "[Z", true)
  | 6 => ("FallingCalls", "sheets", "[LFallingCalls$Sheet;", true)
  | 7 => ("FallingCalls", "stale", "Z", false)
  | _ => ("FallingCalls", "readFault", "I", false)
def tyX4 : Nat → FieldType := fun k => match k with
  | 0 => .object "FallingCalls$Teller"
  | 1 => .object "FallingCalls$Program"
  | 2 => .object "FallingCalls$Program"
  | 3 => .object "FallingCalls$Graphs"
  | 4 => .array (.object "FallingCalls$Program")
  | 5 => .array .boolean
  | 6 => .array (.object "FallingCalls$Sheet")
  | 7 => .boolean
  | _ => .int
abbrev wsX40 : List Cond := u_ws RX4 TX4 9
theorem nmX4 : ∀ a, a < 9 → ∀ b, b < 9 → a ≠ b → (TX4 a).2.1 ≠ (TX4 b).2.1 := by decide +kernel
theorem tyX4_ok : ∀ k, k < 9 → parseFieldDescriptor (TX4 k).2.2.1 = some (tyX4 k) := by decide +kernel
abbrev cX4_init : ByteArray := prog_1_method_1_code
def yX4_init : MethodName := ⟨RX4, "<init>", "()V"⟩
abbrev cX4_feed : ByteArray := prog_1_method_2_code
def yX4_feed : MethodName := ⟨RX4, "feed", "(I)I"⟩
abbrev cX4_end : ByteArray := prog_1_method_3_code
def yX4_end : MethodName := ⟨RX4, "end", "(I)I"⟩
abbrev cX4_text : ByteArray := prog_1_method_4_code
def yX4_text : MethodName := ⟨RX4, "text", "()I"⟩
abbrev cX4_fault : ByteArray := prog_1_method_5_code
def yX4_fault : MethodName := ⟨RX4, "fault", "()I"⟩
abbrev cX4_rule : ByteArray := prog_1_method_6_code
def yX4_rule : MethodName := ⟨RX4, "rule", "(I)I"⟩
abbrev cX4_fun : ByteArray := prog_1_method_7_code
def yX4_fun : MethodName := ⟨RX4, "fun", "(II)I"⟩
abbrev cX4_call : ByteArray := prog_1_method_8_code
def yX4_call : MethodName := ⟨RX4, "call", "(II)I"⟩
abbrev cX4_argument : ByteArray := prog_1_method_9_code
def yX4_argument : MethodName := ⟨RX4, "argument", "(III)I"⟩
abbrev cX4_graph : ByteArray := prog_1_method_10_code
def yX4_graph : MethodName := ⟨RX4, "graph", "(II)I"⟩
abbrev cX4_word : ByteArray := prog_1_method_11_code
def yX4_word : MethodName := ⟨RX4, "word", "(II)I"⟩
abbrev cX4_find : ByteArray := prog_1_method_12_code
def yX4_find : MethodName := ⟨RX4, "find", "(III)I"⟩
abbrev cX4_compose : ByteArray := prog_1_method_13_code
def yX4_compose : MethodName := ⟨RX4, "compose", "(II)I"⟩
abbrev cX4_witness : ByteArray := prog_1_method_14_code
def yX4_witness : MethodName := ⟨RX4, "witness", "(I)I"⟩
abbrev cX4_open : ByteArray := prog_1_method_15_code
def yX4_open : MethodName := ⟨RX4, "open", "(I)I"⟩
abbrev cX4_add : ByteArray := prog_1_method_16_code
def yX4_add : MethodName := ⟨RX4, "add", "(II)I"⟩
abbrev cX4_cut : ByteArray := prog_1_method_17_code
def yX4_cut : MethodName := ⟨RX4, "cut", "(I)I"⟩
abbrev cX4_set : ByteArray := prog_1_method_18_code
def yX4_set : MethodName := ⟨RX4, "set", "(III)I"⟩
abbrev cX4_spare : ByteArray := prog_1_method_19_code
def yX4_spare : MethodName := ⟨RX4, "spare", "()I"⟩
abbrev cX4_mend : ByteArray := prog_1_method_20_code
def yX4_mend : MethodName := ⟨RX4, "mend", "()I"⟩
abbrev cX4_loops : ByteArray := prog_1_method_21_code
def yX4_loops : MethodName := ⟨RX4, "loops", "()I"⟩
abbrev cX4_run : ByteArray := prog_1_method_22_code
def yX4_run : MethodName := ⟨RX4, "run", "(IIII)I"⟩
abbrev cX4_keep : ByteArray := prog_1_method_23_code
def yX4_keep : MethodName := ⟨RX4, "keep", "(I)I"⟩
abbrev cX4_back : ByteArray := prog_1_method_24_code
def yX4_back : MethodName := ⟨RX4, "back", "(I)I"⟩
abbrev cX4_sheet : ByteArray := prog_1_method_25_code
def yX4_sheet : MethodName := ⟨RX4, "sheet", "(III)I"⟩
abbrev cX4_lay : ByteArray := prog_1_method_26_code
def yX4_lay : MethodName := ⟨RX4, "lay", "(III)I"⟩
abbrev cX4_read : ByteArray := prog_1_method_27_code
def yX4_read : MethodName := ⟨RX4, "read", "(IIII)I"⟩
abbrev cX4_torn : ByteArray := prog_1_method_28_code
def yX4_torn : MethodName := ⟨RX4, "torn", "()I"⟩
abbrev cX4_count : ByteArray := prog_1_method_29_code
def yX4_count : MethodName := ⟨RX4, "count", "(I)I"⟩
abbrev cX4_bit : ByteArray := prog_1_method_30_code
def yX4_bit : MethodName := ⟨RX4, "bit", "(Z)I"⟩
abbrev cX4_orNone : ByteArray := prog_1_method_31_code
def yX4_orNone : MethodName := ⟨RX4, "orNone", "(I)I"⟩
abbrev cX4_isImage : ByteArray := prog_1_method_32_code
def yX4_isImage : MethodName := ⟨RX4, "isImage", "(I)Z"⟩
abbrev cX4_isSheet : ByteArray := prog_1_method_33_code
def yX4_isSheet : MethodName := ⟨RX4, "isSheet", "(I)Z"⟩
abbrev cX4_isLane : ByteArray := prog_1_method_34_code
def yX4_isLane : MethodName := ⟨RX4, "isLane", "(I)Z"⟩
abbrev cX4_kindOf : ByteArray := prog_1_method_35_code
def yX4_kindOf : MethodName := ⟨RX4, "kindOf", "(I)I"⟩
abbrev cX4_valueOf : ByteArray := prog_1_method_36_code
def yX4_valueOf : MethodName := ⟨RX4, "valueOf", "(I)I"⟩
abbrev cX4_numberOf : ByteArray := prog_1_method_37_code
def yX4_numberOf : MethodName := ⟨RX4, "numberOf", "(I)I"⟩
abbrev cX4_argumentOf : ByteArray := prog_1_method_38_code
def yX4_argumentOf : MethodName := ⟨RX4, "argumentOf", "(III)I"⟩
abbrev cX4_fresh : ByteArray := prog_1_method_39_code
def yX4_fresh : MethodName := ⟨RX4, "fresh", "()LFallingCalls$Graphs;"⟩
abbrev cX4_trialEnds : ByteArray := prog_1_method_40_code
def yX4_trialEnds : MethodName := ⟨RX4, "trialEnds", "()Z"⟩
def RX5 : String := "FallingCallsModel"
def TX5 : u_T := fun k => match k with
  | 0 => ("FallingCallsModel", "st", "[I", true)
  | 1 => ("FallingCallsModel", "kept", "[I", true)
  | 2 => ("FallingCallsModel", "isKept", "[Z", true)
  | 3 => ("FallingCallsModel", "draft", "[I", true)
  | 4 => ("FallingCallsModel", "tape", "[I", true)
  | 5 => ("FallingCallsModel", "taped", "I", false)
  | 6 => ("FallingCallsModel", "pos", "I", false)
  | 7 => ("FallingCallsModel", "begun", "I", false)
  | 8 => ("FallingCallsModel", "sort", "I", false)
  | 9 => ("FallingCallsModel", "value", "I", false)
  | 10 => ("FallingCallsModel", "fault", "I", false)
  | 11 => ("FallingCallsModel", "wrongAt", "I", false)
  | 12 => ("FallingCallsModel", "graphFrom", "[I", true)
  | 13 => ("FallingCallsModel", "graphTo", "[I", true)
  | 14 => ("FallingCallsModel", "graphCode", "[I", true)
  | 15 => ("FallingCallsModel", "graphAhead", "[I", true)
  | 16 => ("FallingCallsModel", "graphLast", "[I", true)
  | 17 => ("FallingCallsModel", "graphLong", "[I", true)
  | 18 => ("FallingCallsModel", "graphMany", "I", false)
  | 19 => ("FallingCallsModel", "whereIs", "[I", true)
  | 20 => ("FallingCallsModel", "omitted", "I", false)
  | 21 => ("FallingCallsModel", "at", "[I", true)
  | 22 => ("FallingCallsModel", "next", "[I", true)
  | 23 => ("FallingCallsModel", "lanes", "[I", true)
  | 24 => ("FallingCallsModel", "sizes", "[I", true)
  | 25 => ("FallingCallsModel", "cells", "[I", true)
  | 26 => ("FallingCallsModel", "torn", "I", false)
  | _ => ("FallingCallsModel", "before", "[I", true)
def tyX5 : Nat → FieldType := fun k => match k with
  | 0 => .array .int
  | 1 => .array .int
  | 2 => .array .boolean
  | 3 => .array .int
  | 4 => .array .int
  | 5 => .int
  | 6 => .int
  | 7 => .int
  | 8 => .int
  | 9 => .int
  | 10 => .int
  | 11 => .int
  | 12 => .array .int
  | 13 => .array .int
  | 14 => .array .int
  | 15 => .array .int
  | 16 => .array .int
  | 17 => .array .int
  | 18 => .int
  | 19 => .array .int
  | 20 => .int
  | 21 => .array .int
  | 22 => .array .int
  | 23 => .array .int
  | 24 => .array .int
  | 25 => .array .int
  | 26 => .int
  | _ => .array .int
abbrev wsX50 : List Cond := u_ws RX5 TX5 28
theorem nmX5 : ∀ a, a < 28 → ∀ b, b < 28 → a ≠ b → (TX5 a).2.1 ≠ (TX5 b).2.1 := by decide +kernel
theorem tyX5_ok : ∀ k, k < 28 → parseFieldDescriptor (TX5 k).2.2.1 = some (tyX5 k) := by decide +kernel
abbrev cX5_init : ByteArray := prog_7_method_1_code
def yX5_init : MethodName := ⟨RX5, "<init>", "()V"⟩
abbrev cX5_in : ByteArray := prog_7_method_3_code
def yX5_in : MethodName := ⟨RX5, "in", "(JJJ)Z"⟩
abbrev cX5_flag : ByteArray := prog_7_method_4_code
def yX5_flag : MethodName := ⟨RX5, "flag", "(Z)I"⟩
abbrev cX5_feed : ByteArray := prog_7_method_5_code
def yX5_feed : MethodName := ⟨RX5, "feed", "(I)I"⟩
abbrev cX5_end : ByteArray := prog_7_method_6_code
def yX5_end : MethodName := ⟨RX5, "end", "(I)I"⟩
abbrev cX5_requires : ByteArray := prog_7_method_7_code
def yX5_requires : MethodName := ⟨RX5, "requires", "(ZI)V"⟩
abbrev cX5_byteAt : ByteArray := prog_7_method_8_code
def yX5_byteAt : MethodName := ⟨RX5, "byteAt", "(I)I"⟩
abbrev cX5_wordNow : ByteArray := prog_7_method_9_code
def yX5_wordNow : MethodName := ⟨RX5, "wordNow", "()I"⟩
abbrev cX5_signOf : ByteArray := prog_7_method_10_code
def yX5_signOf : MethodName := ⟨RX5, "signOf", "(I)I"⟩
abbrev cX5_reads : ByteArray := prog_7_method_11_code
def yX5_reads : MethodName := ⟨RX5, "reads", "()V"⟩
abbrev cX5_readNumber : ByteArray := prog_7_method_12_code
def yX5_readNumber : MethodName := ⟨RX5, "readNumber", "(II)I"⟩
abbrev cX5_readValue : ByteArray := prog_7_method_13_code
def yX5_readValue : MethodName := ⟨RX5, "readValue", "(I)I"⟩
abbrev cX5_readArgument : ByteArray := prog_7_method_14_code
def yX5_readArgument : MethodName := ⟨RX5, "readArgument", "(II)V"⟩
abbrev cX5_readCall : ByteArray := prog_7_method_15_code
def yX5_readCall : MethodName := ⟨RX5, "readCall", "()V"⟩
abbrev cX5_readLine : ByteArray := prog_7_method_16_code
def yX5_readLine : MethodName := ⟨RX5, "readLine", "()V"⟩
abbrev cX5_text : ByteArray := prog_7_method_17_code
def yX5_text : MethodName := ⟨RX5, "text", "()I"⟩
abbrev cX5_fault : ByteArray := prog_7_method_18_code
def yX5_fault : MethodName := ⟨RX5, "fault", "()I"⟩
abbrev cX5_isFun : ByteArray := prog_7_method_19_code
def yX5_isFun : MethodName := ⟨RX5, "isFun", "(I)Z"⟩
abbrev cX5_isCall : ByteArray := prog_7_method_20_code
def yX5_isCall : MethodName := ⟨RX5, "isCall", "(I)Z"⟩
abbrev cX5_of : ByteArray := prog_7_method_21_code
def yX5_of : MethodName := ⟨RX5, "of", "(II)I"⟩
abbrev cX5_ofArgument : ByteArray := prog_7_method_22_code
def yX5_ofArgument : MethodName := ⟨RX5, "ofArgument", "(III)I"⟩
abbrev cX5_relationOf : ByteArray := prog_7_method_23_code
def yX5_relationOf : MethodName := ⟨RX5, "relationOf", "(III)I"⟩
abbrev cX5_weightOf : ByteArray := prog_7_method_24_code
def yX5_weightOf : MethodName := ⟨RX5, "weightOf", "(II)I"⟩
abbrev cX5_relation : ByteArray := prog_7_method_25_code
def yX5_relation : MethodName := ⟨RX5, "relation", "(III)I"⟩
abbrev cX5_codeOf : ByteArray := prog_7_method_26_code
def yX5_codeOf : MethodName := ⟨RX5, "codeOf", "(I)I"⟩
abbrev cX5_composed : ByteArray := prog_7_method_27_code
def yX5_composed : MethodName := ⟨RX5, "composed", "(II)I"⟩
abbrev cX5_slot : ByteArray := prog_7_method_28_code
def yX5_slot : MethodName := ⟨RX5, "slot", "(III)I"⟩
abbrev cX5_comes : ByteArray := prog_7_method_29_code
def yX5_comes : MethodName := ⟨RX5, "comes", "(IIIII)V"⟩
abbrev cX5_findGraphs : ByteArray := prog_7_method_30_code
def yX5_findGraphs : MethodName := ⟨RX5, "findGraphs", "()V"⟩
abbrev cX5_isIdle : ByteArray := prog_7_method_31_code
def yX5_isIdle : MethodName := ⟨RX5, "isIdle", "(I)Z"⟩
abbrev cX5_fallsOf : ByteArray := prog_7_method_32_code
def yX5_fallsOf : MethodName := ⟨RX5, "fallsOf", "(I)I"⟩
abbrev cX5_isLoop : ByteArray := prog_7_method_33_code
def yX5_isLoop : MethodName := ⟨RX5, "isLoop", "(I)Z"⟩
abbrev cX5_isNoneAbove : ByteArray := prog_7_method_34_code
def yX5_isNoneAbove : MethodName := ⟨RX5, "isNoneAbove", "(II)Z"⟩
abbrev cX5_isNeedless : ByteArray := prog_7_method_35_code
def yX5_isNeedless : MethodName := ⟨RX5, "isNeedless", "(I)Z"⟩
abbrev cX5_reachOf : ByteArray := prog_7_method_36_code
def yX5_reachOf : MethodName := ⟨RX5, "reachOf", "(I)I"⟩
abbrev cX5_loopOf : ByteArray := prog_7_method_37_code
def yX5_loopOf : MethodName := ⟨RX5, "loopOf", "(I)I"⟩
abbrev cX5_allEnd : ByteArray := prog_7_method_38_code
def yX5_allEnd : MethodName := ⟨RX5, "allEnd", "()Z"⟩
abbrev cX5_componentOf : ByteArray := prog_7_method_39_code
def yX5_componentOf : MethodName := ⟨RX5, "componentOf", "(I)I"⟩
abbrev cX5_componentNumber : ByteArray := prog_7_method_40_code
def yX5_componentNumber : MethodName := ⟨RX5, "componentNumber", "(I)I"⟩
abbrev cX5_components : ByteArray := prog_7_method_41_code
def yX5_components : MethodName := ⟨RX5, "components", "()I"⟩
abbrev cX5_graphsThat : ByteArray := prog_7_method_42_code
def yX5_graphsThat : MethodName := ⟨RX5, "graphsThat", "(I)I"⟩
abbrev cX5_rule : ByteArray := prog_7_method_43_code
def yX5_rule : MethodName := ⟨RX5, "rule", "(I)I"⟩
abbrev cX5_callsFrom : ByteArray := prog_7_method_44_code
def yX5_callsFrom : MethodName := ⟨RX5, "callsFrom", "(I)I"⟩
abbrev cX5_fun : ByteArray := prog_7_method_45_code
def yX5_fun : MethodName := ⟨RX5, "fun", "(II)I"⟩
abbrev cX5_call : ByteArray := prog_7_method_46_code
def yX5_call : MethodName := ⟨RX5, "call", "(II)I"⟩
abbrev cX5_isArgument : ByteArray := prog_7_method_47_code
def yX5_isArgument : MethodName := ⟨RX5, "isArgument", "(II)Z"⟩
abbrev cX5_argument : ByteArray := prog_7_method_48_code
def yX5_argument : MethodName := ⟨RX5, "argument", "(III)I"⟩
abbrev cX5_isGraph : ByteArray := prog_7_method_49_code
def yX5_isGraph : MethodName := ⟨RX5, "isGraph", "(I)Z"⟩
abbrev cX5_graph : ByteArray := prog_7_method_50_code
def yX5_graph : MethodName := ⟨RX5, "graph", "(II)I"⟩
abbrev cX5_word : ByteArray := prog_7_method_51_code
def yX5_word : MethodName := ⟨RX5, "word", "(II)I"⟩
abbrev cX5_find : ByteArray := prog_7_method_52_code
def yX5_find : MethodName := ⟨RX5, "find", "(III)I"⟩
abbrev cX5_compose : ByteArray := prog_7_method_53_code
def yX5_compose : MethodName := ⟨RX5, "compose", "(II)I"⟩
abbrev cX5_witness : ByteArray := prog_7_method_54_code
def yX5_witness : MethodName := ⟨RX5, "witness", "(I)I"⟩
abbrev cX5_open : ByteArray := prog_7_method_55_code
def yX5_open : MethodName := ⟨RX5, "open", "(I)I"⟩
abbrev cX5_add : ByteArray := prog_7_method_56_code
def yX5_add : MethodName := ⟨RX5, "add", "(II)I"⟩
abbrev cX5_cut : ByteArray := prog_7_method_57_code
def yX5_cut : MethodName := ⟨RX5, "cut", "(I)I"⟩
abbrev cX5_mayBe : ByteArray := prog_7_method_58_code
def yX5_mayBe : MethodName := ⟨RX5, "mayBe", "(II)Z"⟩
abbrev cX5_toldOf : ByteArray := prog_7_method_59_code
def yX5_toldOf : MethodName := ⟨RX5, "toldOf", "(II)I"⟩
abbrev cX5_argumentBecomes : ByteArray := prog_7_method_60_code
def yX5_argumentBecomes : MethodName := ⟨RX5, "argumentBecomes", "(III)V"⟩
abbrev cX5_set : ByteArray := prog_7_method_61_code
def yX5_set : MethodName := ⟨RX5, "set", "(III)I"⟩
abbrev cX5_spare : ByteArray := prog_7_method_62_code
def yX5_spare : MethodName := ⟨RX5, "spare", "()I"⟩
abbrev cX5_endsIf : ByteArray := prog_7_method_63_code
def yX5_endsIf : MethodName := ⟨RX5, "endsIf", "(III)Z"⟩
abbrev cX5_mend : ByteArray := prog_7_method_64_code
def yX5_mend : MethodName := ⟨RX5, "mend", "()I"⟩
abbrev cX5_loops : ByteArray := prog_7_method_65_code
def yX5_loops : MethodName := ⟨RX5, "loops", "()I"⟩
abbrev cX5_isMade : ByteArray := prog_7_method_66_code
def yX5_isMade : MethodName := ⟨RX5, "isMade", "(I)Z"⟩
abbrev cX5_argumentNow : ByteArray := prog_7_method_67_code
def yX5_argumentNow : MethodName := ⟨RX5, "argumentNow", "(II)I"⟩
abbrev cX5_madeMany : ByteArray := prog_7_method_68_code
def yX5_madeMany : MethodName := ⟨RX5, "madeMany", "(I)I"⟩
abbrev cX5_madeAt : ByteArray := prog_7_method_69_code
def yX5_madeAt : MethodName := ⟨RX5, "madeAt", "(II)I"⟩
abbrev cX5_run : ByteArray := prog_7_method_70_code
def yX5_run : MethodName := ⟨RX5, "run", "(IIII)I"⟩
abbrev cX5_keep : ByteArray := prog_7_method_71_code
def yX5_keep : MethodName := ⟨RX5, "keep", "(I)I"⟩
abbrev cX5_back : ByteArray := prog_7_method_72_code
def yX5_back : MethodName := ⟨RX5, "back", "(I)I"⟩
abbrev cX5_isSheet : ByteArray := prog_7_method_73_code
def yX5_isSheet : MethodName := ⟨RX5, "isSheet", "(II)Z"⟩
abbrev cX5_sheet : ByteArray := prog_7_method_74_code
def yX5_sheet : MethodName := ⟨RX5, "sheet", "(III)I"⟩
abbrev cX5_lay : ByteArray := prog_7_method_75_code
def yX5_lay : MethodName := ⟨RX5, "lay", "(III)I"⟩
abbrev cX5_read : ByteArray := prog_7_method_76_code
def yX5_read : MethodName := ⟨RX5, "read", "(IIII)I"⟩
abbrev cX5_torn : ByteArray := prog_7_method_77_code
def yX5_torn : MethodName := ⟨RX5, "torn", "()I"⟩
abbrev cX5_plainArguments : ByteArray := prog_7_method_78_code
def yX5_plainArguments : MethodName := ⟨RX5, "plainArguments", "()I"⟩
abbrev cX5_codesOfAll : ByteArray := prog_7_method_79_code
def yX5_codesOfAll : MethodName := ⟨RX5, "codesOfAll", "()I"⟩
abbrev cX5_count : ByteArray := prog_7_method_80_code
def yX5_count : MethodName := ⟨RX5, "count", "(I)I"⟩
def RJ9 : String := "java/lang/Math"
abbrev cJ9_min_7cf53 : ByteArray := prog_8_method_69_code
def yJ9_min_7cf53 : MethodName := ⟨RJ9, "min", "(II)I"⟩
def RJ0 : String := "java/lang/String"
abbrev cJ0_length_8abf5 : ByteArray := prog_9_method_54_code
def yJ0_length_8abf5 : MethodName := ⟨RJ0, "length", "()I"⟩
abbrev cJ0_charAt_5068e : ByteArray := prog_9_method_56_code
def yJ0_charAt_5068e : MethodName := ⟨RJ0, "charAt", "(I)C"⟩
abbrev cJ0_coder_7d493 : ByteArray := prog_9_method_152_code
def yJ0_coder_7d493 : MethodName := ⟨RJ0, "coder", "()B"⟩
abbrev cJ0_isLatin1_aae02 : ByteArray := prog_9_method_154_code
def yJ0_isLatin1_aae02 : MethodName := ⟨RJ0, "isLatin1", "()Z"⟩
abbrev cJ0_checkIndex_df160 : ByteArray := prog_9_method_155_code
def yJ0_checkIndex_df160 : MethodName := ⟨RJ0, "checkIndex", "(II)V"⟩
def RJ1 : String := "java/lang/StringLatin1"
abbrev cJ1_charAt_3b067 : ByteArray := prog_10_method_2_code
def yJ1_charAt_3b067 : MethodName := ⟨RJ1, "charAt", "([BI)C"⟩
def RJ2 : String := "java/lang/StringUTF16"
abbrev cJ2_getChar_3b067 : ByteArray := prog_11_method_5_code
def yJ2_getChar_3b067 : MethodName := ⟨RJ2, "getChar", "([BI)C"⟩
abbrev cJ2_length_9d52b : ByteArray := prog_11_method_6_code
def yJ2_length_9d52b : MethodName := ⟨RJ2, "length", "([B)I"⟩
abbrev cJ2_charAt_3b067 : ByteArray := prog_11_method_83_code
def yJ2_charAt_3b067 : MethodName := ⟨RJ2, "charAt", "([BI)C"⟩
abbrev cJ2_checkIndex_2214a : ByteArray := prog_11_method_91_code
def yJ2_checkIndex_2214a : MethodName := ⟨RJ2, "checkIndex", "(I[B)V"⟩
def RJ10 : String := "java/lang/System"
def RJ7 : String := "java/util/Arrays"
abbrev cJ7_fill_53178 : ByteArray := prog_13_method_103_code
def yJ7_fill_53178 : MethodName := ⟨RJ7, "fill", "([II)V"⟩
def RJ3 : String := "jdk/internal/util/Preconditions"
abbrev cJ3_checkIndex_8e157 : ByteArray := prog_14_method_11_code
def yJ3_checkIndex_8e157 : MethodName := ⟨RJ3, "checkIndex", "(IILjava/util/function/BiFunction;)I"⟩
def RL : String := "FallingCallsLaw"
abbrev cL_law : ByteArray := code
def yL_law : MethodName := ⟨RL, "law", "([I)Z"⟩
abbrev vwCl : List vw_C := [(RX0, TX0, 11), (RX1, TX1, 6), (RX2, TX2, 3), (RX3, TX3, 6), (RX4, TX4, 9), (RX5, TX5, 28)]
end
section
/-! The abstract machine: values, states, the layout of the one world (the system's object and the reference's), and its cells -/
abbrev Ky : Type := Nat × Nat × Nat
abbrev AV : Type := Int32 ⊕ (Int64 ⊕ Ky)
abbrev FF : Type := Nat → Nat → Nat → Int32
abbrev AA : Type := Nat → Nat → Nat → Nat → Int32
abbrev Lcs : Type := List (Option AV)
abbrev PT : Type := Option AV → FF → AA → Prop
abbrev SP : Type := List AV → FF → AA → PT → Prop
abbrev XT : Type := Nat → Lcs → List AV → FF → AA → Prop
/-- an entry of a code table: pc, instruction, length, next pc, target, targets of a switch, number -/
abbrev Et : Type := Nat × Instr × Nat × Nat × Nat × List Nat × Int32
abbrev vI (x : Int32) : AV := .inl x
abbrev vL (x : Int64) : AV := .inr (.inl x)
abbrev vR (t i k : Nat) : AV := .inr (.inr (t, i, k))
/-- kinds of fields by tag: 0 int, 1 boolean, 2 ints, 3 bytes, 4 booleans, 5 references, 6 an object -/
def fkT : List (List Nat) := [[2,2,2,2,0,0,2,2,2,2,2],[2,2,2,2,0,0],[2,0,0],[3,0,0,0,0,0],[6,6,6,6,5,4,5,1,0],[2,2,4,2,2,0,0,0,0,0,0,0,2,2,2,2,2,2,0,2,0,2,2,2,2,2,0,2]]
def alT : List (List Nat) := [[729,729,12,3,0,0,729,729,729,729,729],[3,12,12,24,0,0],[40,0,0],[160,0,0,0,0,0],[0,0,0,0,2,2,4,0,0],[101,202,2,101,160,0,0,0,0,0,0,0,729,729,729,729,729,729,0,729,0,2,2,4,4,160,0,101]]
def ntT : List Nat := [1, 4, 4, 1, 1, 1]
def fk (t k : Nat) : Nat := (fkT.getD t []).getD k 9
def al (t k : Nat) : Nat := (alT.getD t []).getD k 0
def nfl (t : Nat) : Nat := (fkT.getD t []).length
/-- where an object field of the system's object points; where its rows of references begin -/
def oref (k : Nat) : Ky := match k with
  | 0 => (3, 0, 0)
  | 1 => (1, 0, 0)
  | 2 => (1, 1, 0)
  | _ => (0, 0, 0)
def raf (k : Nat) : Nat × Nat := match k with
  | 4 => (1, 2)
  | _ => (2, 0)
def gfv (f : FF) (t i k : Nat) : AV := match fk t k with
  | 0 => .inl (f t i k)
  | 1 => .inl (f t i k)
  | 6 => .inr (.inr (oref k))
  | _ => .inr (.inr (t, i, k + 1))
def upf (f : FF) (t i k : Nat) (x : Int32) : FF := fun t' i' k' => if t' = t ∧ i' = i ∧ k' = k then x else f t' i' k'
def upA (a : AA) (t i k : Nat) (g : Nat → Int32) : AA := fun t' i' k' => if t' = t ∧ i' = i ∧ k' = k then g else a t' i' k'
def upa (a : AA) (t i k : Nat) (j : Nat) (x : Int32) : AA := upA a t i k (upd (a t i k) j x)
def cv (ad : Ky → Nat) (v : AV) : Value := match v with
  | .inl x => .int x
  | .inr (.inl x) => .long x
  | .inr (.inr k) => .ref (ad k)
def el (ad : Ky → Nat) (cy : Nat → ClassId) (f : FF) (a : AA) (q : Ky) : va_E := match q with
  | (t, i, 0) => .inr (t, (List.range (nfl t)).map (fun k => cv ad (gfv f t i k)))
  | (t, i, k + 1) => match fk t k with
    | 2 => .inl (cy 0, al t k, .inl (a t i k))
    | 3 => .inl (cy 1, al t k, .inl (a t i k))
    | 4 => .inl (cy 2, al t k, .inl (a t i k))
    | _ => .inl (cy (2 + (raf k).1), al t k, .inr (.inr (.inr (.inr (fun j => some (ad ((raf k).1, (raf k).2 + j, 0)))))))
def ksT (t i : Nat) : List Ky := (t, i, 0) :: ((List.range (nfl t)).filter (fun k => Nat.ble 2 (fk t k) && Nat.ble (fk t k) 5)).map (fun k => (t, i, k + 1))
def KS : List Ky := (List.range 6).flatMap (fun t => (List.range (ntT.getD t 0)).flatMap (fun i => ksT t i))
def cells (ad : Ky → Nat) (cy : Nat → ClassId) (f : FF) (a : AA) : va_W := KS.map (fun q => (ad q, el ad cy f a q))
def tyl (cy : Nat → ClassId) : List (ClassId × FieldType) := [(cy 0, .int), (cy 1, .byte), (cy 2, .boolean), (cy 3, .object "FallingCalls$Program"), (cy 4, .object "FallingCalls$Sheet")]
/-- a key that stands for a cell: of the world, or the i-th text constant -/
def kok (k : Ky) : Prop := k ∈ KS ∨ (k.1 = 9 ∧ k.2.1 < 4 ∧ k.2.2 = 0)
def vld (v : AV) : Prop := match v with
  | .inr (.inr k) => kok k
  | _ => True
/-! what moves: the words, the rooms -/
def WS : List Cond := lw_tbl.filter goodWord
def rmL (d : Nat) : Room := { frames := d, cells := 0, slots := 0, locals := 35 * d }
/-- the world's constants: launch, addresses, field layout, array kinds, what else holds of a state, the cells that may change -/
abbrev Gm : Type := Launch × (Ky → Nat) × va_G × (Nat → ClassId) × (State → Prop) × (Nat → Prop)
abbrev gL (g : Gm) : Launch := g.1
abbrev gAd (g : Gm) : Ky → Nat := g.2.1
abbrev gD (g : Gm) : va_G := g.2.2.1
abbrev gCy (g : Gm) : Nat → ClassId := g.2.2.2.1
abbrev gG (g : Gm) : State → Prop := g.2.2.2.2.1
abbrev gA (g : Gm) : Nat → Prop := g.2.2.2.2.2
/-- what the start gives of nest mates, constants and statics -/
def nestW : List Cond := lw_tbl.filter (fun w => match w with
  | .methodLinkNest _ _ _ _ => true
  | _ => false)
def strI (i : Nat) : Nat := [28, 38, 92, 94].getD i 0
def strN (i : Nat) : String := ["fun", "call", "b", "a"].getD i ""
def strB : List (List Int32) := [[102, 117, 110], [99, 97, 108, 108], [98], [97]]
def powT : List Int32 := [0, 1, 3, 4, 9, 10, 12, 13, 27, 28, 30, 31, 36, 37, 39, 40]
def gX (ad : Ky → Nat) (A : Nat → Prop) (U : State) : Prop := (∀ w ∈ nestW, va_Nw w U) ∧
  (∃ pw, va_Z "FallingCalls$Graphs" "POWERS" "[I" (.ref pw) A U U.heap ∧ va_T .int pw 16 (fun j => .int (powT.getD j 0)) A U U.heap) ∧
  (∃ adV, vk_S 4 [3, 4, 1, 1] strB (fun i => ad (9, i, 0)) adV A U U.heap) ∧ (∀ i, i < 4 → vk_R RX3 (strI i) (strN i) (ad (9, i, 0)) U) ∧
  va_Z "java/lang/String" "COMPACT_STRINGS" "Z" (.int 1) A U U.heap ∧ va_Zq "jdk/internal/util/Preconditions" "SIOOBE_FORMATTER" "Ljava/util/function/BiFunction;" A U U.heap
def GmOK (g : Gm) : Prop :=
  (∀ p q, p ∈ KS → q ∈ KS → gAd g p = gAd g q → p = q) ∧ (∀ p, p ∈ KS → gA g (gAd g p)) ∧
  (∀ U, gG g U → va_K (gD g) vwCl (tyl (gCy g)) U) ∧
  (∀ U U' : State, U.WarmedH U'.vm → U.heap.size ≤ U'.heap.size → (∀ q : Nat, q < U.heap.size → ¬ gA g q → U'.heap[q]? = U.heap[q]?) → gG g U → gG g U') ∧
  (∀ U, gG g U → gX (gAd g) (gA g) U)
def gW (g : Gm) (f : FF) (a : AA) (H : Heap) : Prop := va_P (gD g) vwCl (cells (gAd g) (gCy g) f a) H
def PreC (g : Gm) (av : List AV) (f : FF) (a : AA) : Array Value → State → Prop := fun v U => v = (av.map (cv (gAd g))).toArray ∧ gW g f a U.heap ∧ gG g U
def PostC (g : Gm) (post : PT) : Array Value → State → Outcome → State → Prop := fun _ st o t =>
  (∃ (r : Option AV) (f' : FF) (a' : AA), o = .returned (r.map (cv (gAd g))) ∧ post r f' a' ∧ (∀ v, r = some v → vld v) ∧ gW g f' a' t.heap) ∧ va_F (gA g) st t
/-- a method's contract by a predicate transformer, at a level of depth -/
def MetC (g : Gm) (y : MethodName) (cc : ByteArray) (maxL : Nat) (ret : Option FieldType) (lvl : Nat) (sp : SP) : Prop :=
  ∀ (av : List AV) (f : FF) (a : AA) (post : PT), (∀ v ∈ av, vld v) → sp av f a post → Met (gL g) y (Cond.code y cc maxL ret :: WS) (rmL lvl) (PreC g av f a) (PostC g post) 0 0 (gA g)
/-! local variables -/
def lget : Lcs → Nat → Option AV
  | [], _ => none
  | v :: _, 0 => v
  | _ :: r, n + 1 => lget r n
def lset : Lcs → Nat → Option AV → Lcs
  | [], _, _ => []
  | _ :: r, 0, x => x :: r
  | v :: r, n + 1, x => v :: lset r n x
/-- the place ahead holds no long -/
def nol : Lcs → Nat → Bool
  | _, 0 => true
  | ls, n + 1 => match lget ls n with
    | some (.inr (.inl _)) => false
    | _ => true
/-- the list is brought into its plain form ahead of what goes on -/
def frc : Lcs → (Lcs → Prop) → Prop
  | [], k => k []
  | v :: r, k => frc r (fun r' => k (v :: r'))
def ent : List AV → Lcs
  | [] => []
  | .inr (.inl x) :: r => some (.inr (.inl x)) :: none :: ent r
  | .inl x :: r => some (.inl x) :: ent r
  | .inr (.inr k) :: r => some (.inr (.inr k)) :: ent r
def padL : Nat → Lcs → Lcs
  | 0, _ => []
  | n + 1, [] => none :: padL n []
  | n + 1, v :: r => v :: padL n r
def LV (ad : Ky → Nat) (nL : Nat) (ls : Lcs) (A : Array Slot) : Prop := ls.length = nL ∧ ∃ lv, lv_has A nL lv ∧ ∀ (j : Nat) (v : AV), lget ls j = some v → (j, cv ad v) ∈ lv ∧ vld v
/-! code tables -/
def lkc : List Et → Nat → Option Et
  | [], _ => none
  | e :: r, pc => bif Nat.beq e.1 pc then some e else lkc r pc
def lk : List (Nat × List Et) → Nat → Option Et
  | [], _ => none
  | c :: r, pc => bif Nat.ble pc c.1 then lkc c.2 pc else lk r pc
def jmpI (i : Instr) : Option Int := match i with
  | .goto o => some o
  | .if_icmp _ o => some o
  | .ifCond _ o => some o
  | .tableswitch d _ _ _ => some d
  | _ => none
def numI (i : Instr) : Option Int32 := match i with
  | .iconst n => some (Int32.ofInt n)
  | .bipush n => some (Int8.ofInt n).toInt32
  | .sipush n => some (Int16.ofInt n).toInt32
  | .iinc _ n => some (Int32.ofInt n)
  | _ => none
def swI (i : Instr) : List Int := match i with
  | .tableswitch _ _ _ o => o.toList
  | _ => []
def lenI (i : Instr) : Nat := match i with
  | .bipush _ | .ldc _ | .iload _ | .lload _ | .aload _ | .istore _ | .lstore _ | .astore _ => 2
  | .sipush _ | .ldc_w _ | .ldc2_w _ | .iinc _ _ | .goto _ | .if_icmp _ _ | .ifCond _ _ | .getfield _ | .putfield _ | .getstatic _ | .invokevirtual _ | .invokestatic _ => 3
  | .tableswitch _ _ _ _ => 0
  | _ => 1
def szI (i : Instr) : Bool := match i with
  | .tableswitch _ lo hi o => decide (hi - lo + 1 = (o.toList.length : Int))
  | _ => true
def okE (cc : ByteArray) (e : Et) : Bool :=
  decide (decode cc e.1 = .ok (e.2.1, e.2.2.1)) && (Nat.beq (lenI e.2.1) 0 || Nat.beq (lenI e.2.1) e.2.2.1) && Nat.beq e.2.2.2.1 (e.1 + e.2.2.1) && (match jmpI e.2.1 with
    | some o => decide ((e.1 : Int) + o = (e.2.2.2.2.1 : Int))
    | none => true) && (match numI e.2.1 with
    | some n => decide (n = e.2.2.2.2.2.2)
    | none => true) && decide ((swI e.2.1).map (fun o => (e.1 : Int) + o) = e.2.2.2.2.2.1.map (fun (t : Nat) => (t : Int))) && szI e.2.1
def okT (cc : ByteArray) (T : List (Nat × List Et)) : Bool := T.all (fun ch => ch.2.all (okE cc))
/-! one step -/
abbrev En : Type := List (Nat × List Et) × List (Nat × Bool × Nat × SP) × List (Nat × Nat × Nat) × List (Nat × AV) × Nat
def as2 {α : Type} : List (Nat × α) → Nat → Option α
  | [], _ => none
  | e :: r, n => bif Nat.beq e.1 n then some e.2 else as2 r n
def popA : Nat → List AV → List AV → (List AV → List AV → Prop) → Prop
  | 0, acc, st, k => k acc st
  | n + 1, acc, v :: st, k => popA n (v :: acc) st k
  | _ + 1, _, [], _ => False
def cat1 (v : AV) : Nat := match v with
  | .inr (.inl _) => 2
  | _ => 1
def cats : List AV → Nat
  | [] => 0
  | v :: r => cat1 v + cats r
def ldI (X : XT) (n nxt : Nat) (ls : Lcs) (st : List AV) (f : FF) (a : AA) : Prop := match lget ls n with
  | some (.inl x) => X nxt ls (.inl x :: st) f a
  | _ => False
def ldL (X : XT) (n nxt : Nat) (ls : Lcs) (st : List AV) (f : FF) (a : AA) : Prop := match lget ls n with
  | some (.inr (.inl x)) => X nxt ls (.inr (.inl x) :: st) f a
  | _ => False
def ldA (X : XT) (n nxt : Nat) (ls : Lcs) (st : List AV) (f : FF) (a : AA) : Prop := match lget ls n with
  | some (.inr (.inr k)) => X nxt ls (.inr (.inr k) :: st) f a
  | _ => False
def stI (X : XT) (n nxt : Nat) (ls : Lcs) (st : List AV) (f : FF) (a : AA) : Prop := match st, nol ls n, Nat.blt n ls.length with
  | .inl x :: r, true, true => frc (lset ls n (some (.inl x))) (fun ls' => X nxt ls' r f a)
  | _, _, _ => False
def stA (X : XT) (n nxt : Nat) (ls : Lcs) (st : List AV) (f : FF) (a : AA) : Prop := match st, nol ls n, Nat.blt n ls.length with
  | .inr (.inr k) :: r, true, true => frc (lset ls n (some (.inr (.inr k)))) (fun ls' => X nxt ls' r f a)
  | _, _, _ => False
def stL (X : XT) (n nxt : Nat) (ls : Lcs) (st : List AV) (f : FF) (a : AA) : Prop := match st, nol ls n, Nat.blt (n + 1) ls.length with
  | .inr (.inl x) :: r, true, true => frc (lset (lset ls n (some (.inr (.inl x)))) (n + 1) none) (fun ls' => X nxt ls' r f a)
  | _, _, _ => False
def op2 (X : XT) (o : Int32 → Int32 → Int32) (nxt : Nat) (ls : Lcs) (st : List AV) (f : FF) (a : AA) : Prop := match st with
  | .inl y :: .inl x :: r => X nxt ls (.inl (o x y) :: r) f a
  | _ => False
def op1 (X : XT) (o : Int32 → Int32) (nxt : Nat) (ls : Lcs) (st : List AV) (f : FF) (a : AA) : Prop := match st with
  | .inl x :: r => X nxt ls (.inl (o x) :: r) f a
  | _ => False
def dv2 (X : XT) (o : Int32 → Int32 → Int32) (nxt : Nat) (ls : Lcs) (st : List AV) (f : FF) (a : AA) : Prop := match st with
  | .inl y :: .inl x :: r => ¬ y = 0 ∧ X nxt ls (.inl (o x y) :: r) f a
  | _ => False
def br1 (X : XT) (c : Jvm.ClassFile.Cond) (nxt tgt : Nat) (ls : Lcs) (st : List AV) (f : FF) (a : AA) : Prop := match c, st with
  | .eq, .inl x :: r => (x = 0 → X tgt ls r f a) ∧ (¬ x = 0 → X nxt ls r f a)
  | .ne, .inl x :: r => (¬ x = 0 → X tgt ls r f a) ∧ (x = 0 → X nxt ls r f a)
  | .lt, .inl x :: r => (x < 0 → X tgt ls r f a) ∧ (¬ x < 0 → X nxt ls r f a)
  | .ge, .inl x :: r => (0 ≤ x → X tgt ls r f a) ∧ (¬ 0 ≤ x → X nxt ls r f a)
  | .gt, .inl x :: r => (0 < x → X tgt ls r f a) ∧ (¬ 0 < x → X nxt ls r f a)
  | .le, .inl x :: r => (x ≤ 0 → X tgt ls r f a) ∧ (¬ x ≤ 0 → X nxt ls r f a)
  | _, _ => False
def br2 (X : XT) (c : Jvm.ClassFile.Cond) (nxt tgt : Nat) (ls : Lcs) (st : List AV) (f : FF) (a : AA) : Prop := match c, st with
  | .eq, .inl y :: .inl x :: r => (x = y → X tgt ls r f a) ∧ (¬ x = y → X nxt ls r f a)
  | .ne, .inl y :: .inl x :: r => (¬ x = y → X tgt ls r f a) ∧ (x = y → X nxt ls r f a)
  | .lt, .inl y :: .inl x :: r => (x < y → X tgt ls r f a) ∧ (¬ x < y → X nxt ls r f a)
  | .ge, .inl y :: .inl x :: r => (y ≤ x → X tgt ls r f a) ∧ (¬ y ≤ x → X nxt ls r f a)
  | .gt, .inl y :: .inl x :: r => (y < x → X tgt ls r f a) ∧ (¬ y < x → X nxt ls r f a)
  | .le, .inl y :: .inl x :: r => (x ≤ y → X tgt ls r f a) ∧ (¬ x ≤ y → X nxt ls r f a)
  | _, _ => False
def allT (x : Int32) (P : Nat → Prop) : List Nat → Nat → Int → Prop
  | [], _, _ => True
  | t :: ts, j, lo => (x.toInt = lo + (j : Int) → P t) ∧ allT x P ts (j + 1) lo
def getF (X : XT) (tk : Option (Nat × Nat)) (nxt : Nat) (ls : Lcs) (st : List AV) (f : FF) (a : AA) : Prop := match tk, st with
  | some (t, k), .inr (.inr (t', i, 0)) :: r => bif Nat.beq t t' then X nxt ls (gfv f t i k :: r) f a else False
  | _, _ => False
def putF (X : XT) (tk : Option (Nat × Nat)) (nxt : Nat) (ls : Lcs) (st : List AV) (f : FF) (a : AA) : Prop := match tk, st with
  | some (t, k), .inl x :: .inr (.inr (t', i, 0)) :: r => bif Nat.beq t t' then (match fk t k with
      | 0 => X nxt ls r (upf f t i k x) a
      | 1 => (x = 0 ∨ x = 1) ∧ X nxt ls r (upf f t i k x) a
      | _ => False) else False
  | _, _ => False
def ldX (X : XT) (w : Nat → Bool) (nxt : Nat) (ls : Lcs) (st : List AV) (f : FF) (a : AA) : Prop := match st with
  | .inl j :: .inr (.inr (t, i, k + 1)) :: r => bif w (fk t k) then (vp_in j (al t k) ∧ X nxt ls (.inl (a t i k j.toNatClampNeg) :: r) f a) else False
  | _ => False
def ldR (X : XT) (nxt : Nat) (ls : Lcs) (st : List AV) (f : FF) (a : AA) : Prop := match st with
  | .inl j :: .inr (.inr (t, i, k + 1)) :: r => bif Nat.beq (fk t k) 5 && Nat.beq t 4 then (vp_in j (al t k) ∧ X nxt ls (.inr (.inr ((raf k).1, (raf k).2 + j.toNatClampNeg, 0)) :: r) f a) else False
  | _ => False
def alN (X : XT) (nxt : Nat) (ls : Lcs) (st : List AV) (f : FF) (a : AA) : Prop := match st with
  | .inr (.inr (t, i, k + 1)) :: r => X nxt ls (.inl (Int32.ofNat (al t k)) :: r) f a
  | _ => False
def stX (X : XT) (nxt : Nat) (ls : Lcs) (st : List AV) (f : FF) (a : AA) : Prop := match st with
  | .inl x :: .inl j :: .inr (.inr (t, i, k + 1)) :: r => bif Nat.beq (fk t k) 2 then (vp_in j (al t k) ∧ X nxt ls r f (upa a t i k j.toNatClampNeg x)) else False
  | _ => False
def stB (X : XT) (nxt : Nat) (ls : Lcs) (st : List AV) (f : FF) (a : AA) : Prop := match st with
  | .inl x :: .inl j :: .inr (.inr (t, i, k + 1)) :: r => match fk t k with
    | 3 => vp_in j (al t k) ∧ X nxt ls r f (upa a t i k j.toNatClampNeg (vp_nar .byte x))
    | 4 => vp_in j (al t k) ∧ X nxt ls r f (upa a t i k j.toNatClampNeg (vp_nar .boolean x))
    | _ => False
  | _ => False
def retI (rt : Nat) (post : PT) (st : List AV) (f : FF) (a : AA) : Prop := match rt, st with
  | 0, [.inl x] => post (some (.inl x)) f a
  | 1, [.inl x] => (x = 0 ∨ x = 1) ∧ post (some (.inl x)) f a
  | _, _ => False
def retV (rt : Nat) (post : PT) (st : List AV) (f : FF) (a : AA) : Prop := match rt, st with
  | 2, [] => post none f a
  | _, _ => False
def retA (rt : Nat) (post : PT) (st : List AV) (f : FF) (a : AA) : Prop := match rt, st with
  | 3, [.inr (.inr k)] => post (some (.inr (.inr k))) f a
  | _, _ => False
def callX (X : XT) (b : Bool) (ns : Option (Bool × Nat × SP)) (nxt : Nat) (ls : Lcs) (st : List AV) (f : FF) (a : AA) : Prop := match b, ns with
  | true, some (true, n, sp) => popA n [] st (fun As r => bif Nat.ble (cats r) 8 then sp As f a (fun v f' a' => X nxt ls (v.toList ++ r) f' a') else False)
  | false, some (false, n, sp) => popA n [] st (fun As r => bif Nat.ble (cats r) 8 then sp As f a (fun v f' a' => X nxt ls (v.toList ++ r) f' a') else False)
  | _, _ => False
def ldcX (X : XT) (v : Option AV) (nxt : Nat) (ls : Lcs) (st : List AV) (f : FF) (a : AA) : Prop := match v with
  | some (.inl x) => X nxt ls (.inl x :: st) f a
  | some (.inr (.inr k)) => X nxt ls (.inr (.inr k) :: st) f a
  | _ => False
def ldwX (X : XT) (v : Option AV) (nxt : Nat) (ls : Lcs) (st : List AV) (f : FF) (a : AA) : Prop := match v with
  | some (.inl x) => X nxt ls (.inl x :: st) f a
  | _ => False
def ld2X (X : XT) (v : Option AV) (nxt : Nat) (ls : Lcs) (st : List AV) (f : FF) (a : AA) : Prop := match v with
  | some (.inr (.inl x)) => X nxt ls (.inr (.inl x) :: st) f a
  | _ => False
/-- by which instruction a constant comes -/
def cstI (i : Instr) (idx : Nat) (v : AV) : Prop := match v with
  | .inl _ => i = .ldc idx ∨ i = .ldc_w idx
  | .inr (.inl _) => i = .ldc2_w idx
  | .inr (.inr _) => i = .ldc idx
def dupX (X : XT) (nxt : Nat) (ls : Lcs) (st : List AV) (f : FF) (a : AA) : Prop := match st with
  | .inl x :: r => X nxt ls (.inl x :: .inl x :: r) f a
  | .inr (.inr k) :: r => X nxt ls (.inr (.inr k) :: .inr (.inr k) :: r) f a
  | _ => False
def dp2X (X : XT) (nxt : Nat) (ls : Lcs) (st : List AV) (f : FF) (a : AA) : Prop := match st with
  | .inl x :: .inr (.inr k) :: r => X nxt ls (.inl x :: .inr (.inr k) :: .inl x :: .inr (.inr k) :: r) f a
  | _ => False
def incX (X : XT) (n : Nat) (iv : Int32) (nxt : Nat) (ls : Lcs) (st : List AV) (f : FF) (a : AA) : Prop := match lget ls n, nol ls n with
  | some (.inl x), true => frc (lset ls n (some (.inl (x + iv)))) (fun ls' => X nxt ls' st f a)
  | _, _ => False
def ins (E : En) (post : PT) (X : XT) (i : Instr) (nxt tgt : Nat) (ts : List Nat) (iv : Int32) (ls : Lcs) (st : List AV) (f : FF) (a : AA) : Prop := match i with
  | .iconst _ => X nxt ls (.inl iv :: st) f a
  | .bipush _ => X nxt ls (.inl iv :: st) f a
  | .sipush _ => X nxt ls (.inl iv :: st) f a
  | .lconst n => X nxt ls (.inr (.inl (Int64.ofNat n.val)) :: st) f a
  | .ldc n => ldcX X (as2 E.2.2.2.1 n) nxt ls st f a
  | .ldc_w n => ldwX X (as2 E.2.2.2.1 n) nxt ls st f a
  | .ldc2_w n => ld2X X (as2 E.2.2.2.1 n) nxt ls st f a
  | .iload_n n => ldI X n.val nxt ls st f a
  | .iload n => ldI X n nxt ls st f a
  | .lload_n n => ldL X n.val nxt ls st f a
  | .lload n => ldL X n nxt ls st f a
  | .aload_n n => ldA X n.val nxt ls st f a
  | .aload n => ldA X n nxt ls st f a
  | .istore_n n => stI X n.val nxt ls st f a
  | .istore n => stI X n nxt ls st f a
  | .astore_n n => stA X n.val nxt ls st f a
  | .astore n => stA X n nxt ls st f a
  | .lstore n => stL X n nxt ls st f a
  | .iinc n _ => incX X n iv nxt ls st f a
  | .iadd => op2 X (fun x y => x + y) nxt ls st f a
  | .isub => op2 X (fun x y => x - y) nxt ls st f a
  | .imul => op2 X (fun x y => x * y) nxt ls st f a
  | .iand => op2 X (fun x y => x &&& y) nxt ls st f a
  | .ior => op2 X (fun x y => x ||| y) nxt ls st f a
  | .ixor => op2 X (fun x y => x ^^^ y) nxt ls st f a
  | .ishl => op2 X (fun x y => x <<< (y &&& 31)) nxt ls st f a
  | .ishr => op2 X (fun x y => x >>> (y &&& 31)) nxt ls st f a
  | .iushr => op2 X (fun x y => (x.toUInt32 >>> (y.toUInt32 &&& Int32.toUInt32 31)).toInt32) nxt ls st f a
  | .idiv => dv2 X (fun x y => x / y) nxt ls st f a
  | .irem => dv2 X (fun x y => x - x / y * y) nxt ls st f a
  | .i2b => op1 X (fun x => x.toInt8.toInt32) nxt ls st f a
  | .i2s => op1 X (fun x => x.toInt16.toInt32) nxt ls st f a
  | .i2l => match st with
    | .inl x :: r => X nxt ls (.inr (.inl x.toInt64) :: r) f a
    | _ => False
  | .ladd => match st with
    | .inr (.inl y) :: .inr (.inl x) :: r => X nxt ls (.inr (.inl (x + y)) :: r) f a
    | _ => False
  | .lcmp => match st with
    | .inr (.inl y) :: .inr (.inl x) :: r => X nxt ls (.inl (lg_cmp x y) :: r) f a
    | _ => False
  | .dup => dupX X nxt ls st f a
  | .dup2 => dp2X X nxt ls st f a
  | .pop => match st with
    | .inl _ :: r => X nxt ls r f a
    | _ => False
  | .goto _ => X tgt ls st f a
  | .ifCond c _ => br1 X c nxt tgt ls st f a
  | .if_icmp c _ => br2 X c nxt tgt ls st f a
  | .tableswitch _ lo hi _ => match st with
    | .inl x :: r => allT x (fun t => X t ls r f a) ts 0 lo ∧ (x.toInt < lo ∨ hi < x.toInt → X tgt ls r f a)
    | _ => False
  | .getfield n => getF X (as2 E.2.2.1 n) nxt ls st f a
  | .putfield n => putF X (as2 E.2.2.1 n) nxt ls st f a
  | .iaload => ldX X (fun n => Nat.beq n 2) nxt ls st f a
  | .baload => ldX X (fun n => Nat.beq n 3 || Nat.beq n 4) nxt ls st f a
  | .aaload => ldR X nxt ls st f a
  | .arraylength => alN X nxt ls st f a
  | .iastore => stX X nxt ls st f a
  | .bastore => stB X nxt ls st f a
  | .invokevirtual n => callX X false (as2 E.2.1 n) nxt ls st f a
  | .invokestatic n => callX X true (as2 E.2.1 n) nxt ls st f a
  | .ireturn => retI E.2.2.2.2 post st f a
  | .areturn => retA E.2.2.2.2 post st f a
  | .return_ => retV E.2.2.2.2 post st f a
  | _ => False
def stp (E : En) (post : PT) (X : XT) (pc : Nat) (ls : Lcs) (st : List AV) (f : FF) (a : AA) : Prop := match lk E.1 pc with
  | some (_, i, _, nxt, tgt, ts, iv) => ins E post X i nxt tgt ts iv ls st f a
  | none => False
def inB : List Nat → Nat → Bool
  | [], _ => false
  | b :: r, n => Nat.beq b n || inB r n
/-- many steps, up to the places of B -/
def sym (E : En) (post : PT) (X : XT) (B : List Nat) : Nat → XT
  | 0 => X
  | n + 1 => fun pc ls st f a => stp E post (fun pc' ls' st' f' a' => bif inB B pc' then X pc' ls' st' f' a' else sym E post X B n pc' ls' st' f' a') pc ls st f a
/-- X is closed under what the machine does -/
def Clo (E : En) (post : PT) (X : XT) : Prop := ∀ (B : List Nat) (n pc : Nat) (ls : Lcs) (st : List AV) (f : FF) (a : AA), sym E post X B n pc ls st f a → X pc ls st f a
/-! calls, fields and constants that a method's text may use -/
def CallOK (g : Gm) (lvl : Nat) (own : String) (idx : Nat) (b : Bool) (n : Nat) (sp : SP) : Prop :=
  ∀ (p : Program) (e : Env) (s : State) (m : MethodId) (args : Array Value) (below : List Frame) (meth : Method) (c : Code) (cc : ByteArray) (nL : Nat) (Qg : State → Prop) (H : Heap) (locs : List Loc) (ls : Array Slot) (pc : Nat) (As rest : List AV) (f : FF) (a : AA) (Q : PT),
    p.tables.exec = Jvm.exec → c.code = cc → c.maxLocals = nL → s.vm.findClass own = some m.cls → (∀ w ∈ WS, w.before args s = true) → gG g s → gW g f a H → va_S (gA g) s.heap H locs → ls.size = nL → cats rest ≤ 8 → As.length = n → (∀ v ∈ As, vld v) →
    decode cc pc = .ok (bif b then .invokestatic idx else .invokevirtual idx, 3) → sp As f a Q →
    (∀ (r : Option AV) (f' : FF) (a' : AA) (H1 : Heap) (locs1 : List Loc), Q r f' a' → (∀ v, r = some v → vld v) → gW g f' a' H1 → va_S (gA g) s.heap H1 locs1 → W p (gL g) e (rmL lvl) s m args below meth c H1 locs1 0 0 Qg (F0 m (pc + 3) ls ((r.toList ++ rest).map (cv (gAd g))))) →
    W p (gL g) e (rmL lvl) s m args below meth c H locs 0 0 Qg (F0 m pc ls ((As.reverse ++ rest).map (cv (gAd g))))
def CstOK (g : Gm) (own : String) (idx : Nat) (v : AV) : Prop :=
  ∀ (p : Program) (e : Env) (R : Room) (s : State) (m : MethodId) (args : Array Value) (below : List Frame) (meth : Method) (c : Code) (cc : ByteArray) (Qg : State → Prop) (H : Heap) (locs : List Loc) (ls : Array Slot) (pc len : Nat) (rest : List Value) (i : Instr),
    p.tables.exec = Jvm.exec → c.code = cc → s.vm.findClass own = some m.cls → (∀ w ∈ WS, w.before args s = true) → gG g s → va_S (gA g) s.heap H locs →
    decode cc pc = .ok (i, len) → len = lenI i → cstI i idx v → W p (gL g) e R s m args below meth c H locs 0 0 Qg (F0 m (pc + len) ls (cv (gAd g) v :: rest)) →
    W p (gL g) e R s m args below meth c H locs 0 0 Qg (F0 m pc ls rest)
def FldOK (own : String) (idx t k : Nat) : Prop :=
  ∃ (C : String) (T : u_T) (N : Nat), vwCl[t]? = some (C, T, N) ∧ k < N ∧ Cond.fieldLink own idx (T k).1 (T k).2.1 (T k).2.2.1 ∈ WS ∧ ∀ w ∈ u_ws C T N, w ∈ WS
end
section
/-! the world: where a cell stands, what a write makes of it -/
theorem ks_nd : KS.Nodup := by decide +kernel
theorem ks_get0 : KS.all (fun q => !(Nat.beq q.2.2 0) || (List.range (nfl q.1)).all (fun k => match fk q.1 k with
    | 0 => true
    | 1 => true
    | 6 => KS.contains (oref k)
    | _ => KS.contains (q.1, q.2.1, k + 1))) = true := by decide +kernel
theorem ks_ref0 : KS.all (fun q => match q with
    | (4, _, k + 1) => !(Nat.beq (fk 4 k) 5) || (List.range (al 4 k)).all (fun j => KS.contains ((raf k).1, (raf k).2 + j, 0))
    | _ => true) = true := by decide +kernel
theorem ks_nine : ∀ q ∈ KS, q.1 < 6 := by decide +kernel
theorem ks_nfl : ∀ t, t < 6 → (vwCl[t]?).map (fun q => q.2.2) = some (nfl t) := by decide +kernel
theorem ks_has {q : Ky} (h : kok q) (hn : q.1 < 6) : q ∈ KS := h.elim id (fun h => by have := h.1; omega)
theorem ks_has1 {t i k : Nat} (h : kok (t, i, k + 1)) : (t, i, k + 1) ∈ KS := h.elim id (fun h => absurd h.2.2 (Nat.succ_ne_zero k))
theorem ks_get (f : FF) {t i k : Nat} (h : (t, i, 0) ∈ KS) (hk : k < nfl t) : vld (gfv f t i k) := by
  have h1 := List.all_eq_true.mp ks_get0 _ h
  simp only [Nat.beq_refl, Bool.not_true, Bool.false_or] at h1
  have h2 := List.all_eq_true.mp h1 k (List.mem_range.mpr hk)
  unfold gfv
  split <;> rename_i hf <;> simp only [hf] at h2
  · trivial
  · trivial
  · exact Or.inl (List.contains_iff_mem.mp h2)
  · exact Or.inl (List.contains_iff_mem.mp h2)
theorem ks_ref {i k j : Nat} (h : (4, i, k + 1) ∈ KS) (hf : fk 4 k = 5) (hj : j < al 4 k) : ((raf k).1, (raf k).2 + j, 0) ∈ KS := by
  have h1 := List.all_eq_true.mp ks_ref0 _ h
  simp only [hf, Nat.beq_refl, Bool.not_true, Bool.false_or] at h1
  exact List.contains_iff_mem.mp (List.all_eq_true.mp h1 j (List.mem_range.mpr hj))
theorem cells_at {ad : Ky → Nat} {cy : Nat → ClassId} (f : FF) (a : AA) {q : Ky} (h : q ∈ KS) : ∃ q0 : Nat, KS[q0]? = some q ∧ (cells ad cy f a)[q0]? = some (ad q, el ad cy f a q) := by
  obtain ⟨q0, h0⟩ := List.getElem?_of_mem h
  exact ⟨q0, h0, by rw [cells, List.getElem?_map, h0]; rfl⟩
theorem cells_set {ad : Ky → Nat} {cy : Nat → ClassId} {f f' : FF} {a a' : AA} {q : Ky} {q0 : Nat} {e : va_E} (h0 : KS[q0]? = some q) (he : el ad cy f' a' q = e) (ho : ∀ q', q' ≠ q → el ad cy f' a' q' = el ad cy f a q') : (cells ad cy f a).set q0 (ad q, e) = cells ad cy f' a' := by
  apply List.ext_getElem?
  intro j
  by_cases hj : j = q0
  · subst hj
    have hl : j < (cells ad cy f a).length := by
      rw [cells, List.length_map]
      exact (List.getElem?_eq_some_iff.mp h0).1
    rw [List.getElem?_set_self hl, cells, List.getElem?_map, h0, ← he]
    rfl
  · rw [List.getElem?_set_ne (Ne.symm hj), cells, cells, List.getElem?_map, List.getElem?_map]
    cases hk : KS[j]? with
    | none => rfl
    | some q' =>
      have hne : q' ≠ q := by
        intro heq
        subst heq
        exact hj ((List.getElem?_inj (List.getElem?_eq_some_iff.mp hk).1 ks_nd).mp (hk.trans h0.symm))
      show some (ad q', _) = some (ad q', _)
      rw [ho q' hne]
theorem upf_ne {f : FF} {t i k t' i' k' : Nat} {x : Int32} (h : ¬ (t' = t ∧ i' = i ∧ k' = k)) : upf f t i k x t' i' k' = f t' i' k' := if_neg h
theorem upf_eq {f : FF} {t i k : Nat} {x : Int32} : upf f t i k x t i k = x := if_pos ⟨rfl, rfl, rfl⟩
theorem upA_ne {a : AA} {t i k t' i' k' : Nat} {x : Nat → Int32} (h : ¬ (t' = t ∧ i' = i ∧ k' = k)) : upA a t i k x t' i' k' = a t' i' k' := if_neg h
theorem upA_eq {a : AA} {t i k : Nat} {x : Nat → Int32} : upA a t i k x t i k = x := if_pos ⟨rfl, rfl, rfl⟩
theorem gfv_ne {f : FF} {t i k t' i' k' : Nat} {x : Int32} (h : ¬ (t' = t ∧ i' = i ∧ k' = k)) : gfv (upf f t i k x) t' i' k' = gfv f t' i' k' := by
  unfold gfv
  rw [upf_ne h]
theorem el_upf {ad : Ky → Nat} {cy : Nat → ClassId} {f : FF} {a : AA} {t i k : Nat} {x : Int32} (hf : fk t k = 0 ∨ fk t k = 1) : el ad cy (upf f t i k x) a (t, i, 0) = .inr (t, ((List.range (nfl t)).map (fun k => cv ad (gfv f t i k))).set k (.int x)) := by
  show Sum.inr (t, _) = _
  congr 2
  apply List.ext_getElem?
  intro j
  rw [List.getElem?_map]
  by_cases hj : j = k
  · subst hj
    by_cases hl : j < nfl t
    · rw [List.getElem?_set_self (by rw [List.length_map, List.length_range]; exact hl), List.getElem?_range hl]
      show some _ = some _
      congr 1
      unfold gfv
      rcases hf with hf | hf <;> simp [hf, cv, upf]
    · rw [List.getElem?_eq_none (by rw [List.length_range]; omega), List.getElem?_eq_none (by rw [List.length_set, List.length_map, List.length_range]; omega)]
      rfl
  · rw [List.getElem?_set_ne (Ne.symm hj), List.getElem?_map]
    by_cases hl : j < nfl t
    · rw [List.getElem?_range hl]
      show some (cv ad (gfv (upf f t i k x) t i j)) = some (cv ad (gfv f t i j))
      rw [gfv_ne (t' := t) (i' := i) (k' := j) (fun q => hj q.2.2)]
    · rw [List.getElem?_eq_none (by rw [List.length_range]; omega)]
      rfl
theorem el_upf' {ad : Ky → Nat} {cy : Nat → ClassId} {f : FF} {a : AA} {t i k : Nat} {x : Int32} (q : Ky) (h : q ≠ (t, i, 0)) : el ad cy (upf f t i k x) a q = el ad cy f a q := by
  obtain ⟨t', i', k'⟩ := q
  cases k' with
  | succ k' => rfl
  | zero =>
    have hn : ∀ j, ¬ (t' = t ∧ i' = i ∧ j = k) := fun j hj => h (by rw [hj.1, hj.2.1])
    show Sum.inr (t', _) = Sum.inr (t', _)
    congr 2
    apply List.map_congr_left
    intro j _
    rw [gfv_ne (hn j)]
theorem el_upA' {ad : Ky → Nat} {cy : Nat → ClassId} {f : FF} {a : AA} {t i k : Nat} {x : Nat → Int32} (q : Ky) (h : q ≠ (t, i, k + 1)) : el ad cy f (upA a t i k x) q = el ad cy f a q := by
  obtain ⟨t', i', k'⟩ := q
  cases k' with
  | zero => rfl
  | succ k' =>
    have hn : ¬ (t' = t ∧ i' = i ∧ k' = k) := fun hj => h (by rw [hj.1, hj.2.1, hj.2.2])
    simp only [el, upA_ne hn]
/-- the place of a row in the list of array kinds -/
theorem el_row {ad : Ky → Nat} {cy : Nat → ClassId} {f : FF} {a : AA} {t i k : Nat} : (fk t k = 2 → el ad cy f a (t, i, k + 1) = .inl (cy 0, al t k, .inl (a t i k))) ∧ (fk t k = 3 → el ad cy f a (t, i, k + 1) = .inl (cy 1, al t k, .inl (a t i k))) ∧ (fk t k = 4 → el ad cy f a (t, i, k + 1) = .inl (cy 2, al t k, .inl (a t i k))) ∧ (fk t k = 5 → el ad cy f a (t, i, k + 1) = .inl (cy (2 + (raf k).1), al t k, .inr (.inr (.inr (.inr (fun j => some (ad ((raf k).1, (raf k).2 + j, 0)))))))) := by
  refine ⟨?_, ?_, ?_, ?_⟩ <;> intro h <;> simp only [el, h]
theorem gD_ok {g : Gm} (hg : GmOK g) (f : FF) (a : AA) : va_D (gA g) (cells (gAd g) (gCy g) f a) := by
  refine ⟨fun i j p q hi hj hpq => ?_, fun k q hk => ?_⟩
  · rw [cells, List.getElem?_map] at hi hj
    cases h1 : KS[i]? with
    | none => rw [h1] at hi; cases hi
    | some x =>
      cases h2 : KS[j]? with
      | none => rw [h2] at hj; cases hj
      | some y =>
        rw [h1] at hi; rw [h2] at hj
        cases hi; cases hj
        have hxy : x = y := hg.1 x y (List.mem_of_getElem? h1) (List.mem_of_getElem? h2) hpq
        subst hxy
        exact (List.getElem?_inj (List.getElem?_eq_some_iff.mp h1).1 ks_nd).mp (h1.trans h2.symm)
  · rw [cells, List.getElem?_map] at hk
    cases h1 : KS[k]? with
    | none => rw [h1] at hk; cases hk
    | some x =>
      rw [h1] at hk
      cases hk
      exact hg.2.1 x (List.mem_of_getElem? h1)
/-! locals -/
theorem lget_lt : ∀ {ls : Lcs} {j : Nat} {v : AV}, lget ls j = some v → j < ls.length
  | [], _, _, h => by cases h
  | _ :: _, 0, _, _ => Nat.succ_pos _
  | _ :: r, j + 1, _, h => Nat.succ_lt_succ (lget_lt (ls := r) h)
theorem lset_len : ∀ (ls : Lcs) (n : Nat) (x : Option AV), (lset ls n x).length = ls.length
  | [], _, _ => rfl
  | _ :: _, 0, _ => rfl
  | _ :: r, n + 1, x => congrArg (· + 1) (lset_len r n x)
theorem lget_set_ne : ∀ (ls : Lcs) {n j : Nat} (x : Option AV), j ≠ n → lget (lset ls n x) j = lget ls j
  | [], _, _, _, _ => rfl
  | _ :: _, 0, 0, _, h => absurd rfl h
  | _ :: _, 0, _ + 1, _, _ => rfl
  | _ :: _, _ + 1, 0, _, _ => rfl
  | _ :: r, n + 1, j + 1, x, h => lget_set_ne r x (fun e => h (by rw [e]))
theorem lget_set_eq : ∀ (ls : Lcs) {n : Nat} (x v : Option AV), lget (lset ls n x) n = v → v = none ∨ v = x
  | [], _, _, _, h => Or.inl h.symm
  | _ :: _, 0, _, _, h => Or.inr h.symm
  | _ :: r, n + 1, x, v, h => lget_set_eq r x v h
theorem frc_eq : ∀ (ls : Lcs) (k : Lcs → Prop), frc ls k = k ls
  | [], _ => rfl
  | v :: r, k => frc_eq r (fun r' => k (v :: r'))
theorem cv_cat (ad : Ky → Nat) (v : AV) : (cv ad v).category = cat1 v := by
  rcases v with x | x | k <;> rfl
theorem LV.at {ad : Ky → Nat} {nL : Nat} {ls : Lcs} {A : Array Slot} (h : LV ad nL ls A) {j : Nat} {v : AV} (hj : lget ls j = some v) : A[j]? = some (.val (cv ad v)) ∧ vld v := by
  obtain ⟨-, lv, hl, hm⟩ := h
  exact ⟨hl.2.2 _ (hm j v hj).1, (hm j v hj).2⟩
theorem LV.set1 {ad : Ky → Nat} {nL : Nat} {ls : Lcs} {A' : Array Slot} {lv : List (Nat × Value)} {n : Nat} {v : AV} (hlen : ls.length = nL) (hm : ∀ (j : Nat) (v : AV), lget ls j = some v → (j, cv ad v) ∈ lv ∧ vld v) (hno : nol ls n = true) (hv : vld v)
    (h' : lv_has A' nL ((n, cv ad v) :: lv.filter (fun q => !(q.1 == n) && !(q.1 + 1 == n && q.2.category == 2)))) : LV ad nL (lset ls n (some v)) A' := by
  refine ⟨(lset_len ls n _).trans hlen, _, h', fun j w hj => ?_⟩
  by_cases hjn : j = n
  · subst hjn
    rcases lget_set_eq ls _ _ hj with h | h
    · cases h
    · cases h
      exact ⟨List.mem_cons_self, hv⟩
  · rw [lget_set_ne ls _ hjn] at hj
    refine ⟨List.mem_cons_of_mem _ (List.mem_filter.mpr ⟨(hm j w hj).1, ?_⟩), (hm j w hj).2⟩
    have h1 : (j == n) = false := by simp [hjn]
    have h2 : (j + 1 == n && (cv ad w).category == 2) = false := by
      by_cases hq : j + 1 = n
      · subst hq
        rw [cv_cat]
        have h3 : (match lget ls j with
          | some (.inr (.inl _)) => false
          | _ => true) = true := hno
        rw [hj] at h3
        rcases w with x | x | k
        · simp [cat1]
        · cases h3
        · simp [cat1]
      · simp [hq]
    simp only [h1, h2, Bool.not_false, Bool.and_self]
end
section
/-! each instruction's clause holds of the machine -/
def Wp (g : Gm) (p : Program) (e : Env) (R : Room) (s : State) (m : MethodId) (args : Array Value) (below : List Frame) (meth : Method) (c : Code) (nL : Nat) (Qg : State → Prop) : XT := fun pc ls st f a =>
  ∀ (H : Heap) (locs : List Loc) (A : Array Slot), gW g f a H → va_S (gA g) s.heap H locs → LV (gAd g) nL ls A → (∀ v ∈ st, vld v) → W p (gL g) e R s m args below meth c H locs 0 0 Qg (F0 m pc A (st.map (cv (gAd g))))
def retOK (rt : Nat) (ret : Option FieldType) : Prop := match rt with
  | 0 => ret = some .int
  | 1 => ret = some .boolean
  | 2 => ret = none
  | 3 => ∃ C, ret = some (.object C)
  | _ => False
def EnvOK (g : Gm) (lvl : Nat) (own : String) (cc : ByteArray) (ret : Option FieldType) (E : En) : Prop :=
  okT cc E.1 = true ∧ (∀ idx b n sp, as2 E.2.1 idx = some (b, n, sp) → CallOK g lvl own idx b n sp) ∧ (∀ idx t k, as2 E.2.2.1 idx = some (t, k) → FldOK own idx t k) ∧ (∀ idx v, as2 E.2.2.2.1 idx = some v → CstOK g own idx v ∧ vld v) ∧ retOK E.2.2.2.2 ret
theorem lkc_mem : ∀ {T : List Et} {pc : Nat} {e : Et}, lkc T pc = some e → e ∈ T ∧ e.1 = pc
  | [], _, _, h => by cases h
  | x :: r, pc, e, h => by
    unfold lkc at h
    cases hb : Nat.beq x.1 pc with
    | true =>
      rw [hb] at h
      cases h
      exact ⟨List.mem_cons_self, Nat.eq_of_beq_eq_true hb⟩
    | false =>
      rw [hb] at h
      obtain ⟨h1, h2⟩ := lkc_mem h
      exact ⟨List.mem_cons_of_mem _ h1, h2⟩
theorem lk_mem : ∀ {T : List (Nat × List Et)} {pc : Nat} {e : Et}, lk T pc = some e → ∃ ch ∈ T, e ∈ ch.2 ∧ e.1 = pc
  | [], _, _, h => by cases h
  | x :: r, pc, e, h => by
    unfold lk at h
    cases hb : Nat.ble pc x.1 with
    | true =>
      rw [hb] at h
      exact ⟨x, List.mem_cons_self, lkc_mem h⟩
    | false =>
      rw [hb] at h
      obtain ⟨ch, h1, h2⟩ := lk_mem h
      exact ⟨ch, List.mem_cons_of_mem _ h1, h2⟩
theorem va_lt {v : AV} {r : List AV} (h : ∀ w ∈ v :: r, vld w) : vld v ∧ ∀ w ∈ r, vld w := ⟨h v List.mem_cons_self, fun w hw => h w (List.mem_cons_of_mem _ hw)⟩
theorem va_ad {v : AV} {r : List AV} (hv : vld v) (h : ∀ w ∈ r, vld w) : ∀ w ∈ v :: r, vld w := fun w hw => (List.mem_cons.mp hw).elim (fun e => e ▸ hv) (h w)
theorem popA_ok : ∀ {n : Nat} {acc st : List AV} {k : List AV → List AV → Prop}, popA n acc st k → ∃ As r, k (As ++ acc) r ∧ st = As.reverse ++ r ∧ As.length = n
  | 0, acc, st, k, h => ⟨[], st, h, rfl, rfl⟩
  | n + 1, acc, [], k, h => h.elim
  | n + 1, acc, v :: st, k, h => by
    obtain ⟨As, r, h1, h2, h3⟩ := popA_ok (n := n) h
    refine ⟨As ++ [v], r, by rw [List.append_assoc]; exact h1, ?_, by rw [List.length_append, h3]; rfl⟩
    rw [h2, List.reverse_append]
    rfl
theorem cats_sum (ad : Ky → Nat) : ∀ r : List AV, ((r.map (cv ad)).map fun v => v.category).sum = cats r
  | [] => rfl
  | v :: r => by
    rw [List.map_cons, List.map_cons, List.sum_cons, cv_cat, cats_sum ad r]
    rfl
section Steps
variable {g : Gm} {p : Program} {e : Env} {lvl : Nat} {s : State} {m : MethodId} {args : Array Value} {below : List Frame} {meth : Method} {c : Code} {cc : ByteArray} {nL : Nat} {own : String} {Qg : State → Prop} {Y : XT} {pc nxt tgt len : Nat} {ls : Lcs} {st : List AV} {f : FF} {a : AA}
/-- what holds of the machine all the while -/
def Fx (g : Gm) (p : Program) (s : State) (m : MethodId) (args : Array Value) (c : Code) (cc : ByteArray) (nL : Nat) (own : String) : Prop :=
  p.tables.exec = Jvm.exec ∧ c.code = cc ∧ c.maxLocals = nL ∧ s.vm.findClass own = some m.cls ∧ (∀ w ∈ WS, w.before args s = true) ∧ gG g s
theorem s_ldI (F : Fx g p s m args c cc nL own) (hY : ∀ pc ls st f a, Y pc ls st f a → Wp g p e (rmL lvl) s m args below meth c nL Qg pc ls st f a) {n : Nat} (hd : (∃ k : Fin 4, k.val = n ∧ decode cc pc = .ok (.iload_n k, 1) ∧ nxt = pc + 1) ∨ (decode cc pc = .ok (.iload n, 2) ∧ nxt = pc + 2)) (h : ldI Y n nxt ls st f a) : Wp g p e (rmL lvl) s m args below meth c nL Qg pc ls st f a := by
  intro H locs A hP hS hL hV
  unfold ldI at h
  split at h
  · rename_i x hx
    have hA := (hL.at hx).1
    rcases hd with ⟨k, hk, hd, rfl⟩ | ⟨hd, rfl⟩
    · exact lv_iload_n F.1 F.2.1 hd hk hA (hY _ _ _ _ _ h H locs A hP hS hL (va_ad trivial hV))
    · exact lv_iload F.1 F.2.1 hd hA (hY _ _ _ _ _ h H locs A hP hS hL (va_ad trivial hV))
  · exact h.elim
theorem s_ldL (F : Fx g p s m args c cc nL own) (hY : ∀ pc ls st f a, Y pc ls st f a → Wp g p e (rmL lvl) s m args below meth c nL Qg pc ls st f a) {n : Nat} (hd : (∃ k : Fin 4, k.val = n ∧ decode cc pc = .ok (.lload_n k, 1) ∧ nxt = pc + 1) ∨ (decode cc pc = .ok (.lload n, 2) ∧ nxt = pc + 2)) (h : ldL Y n nxt ls st f a) : Wp g p e (rmL lvl) s m args below meth c nL Qg pc ls st f a := by
  intro H locs A hP hS hL hV
  unfold ldL at h
  split at h
  · rename_i x hx
    have hA := (hL.at hx).1
    rcases hd with ⟨k, hk, hd, rfl⟩ | ⟨hd, rfl⟩
    · exact lv_lload_n F.1 F.2.1 hd hk hA (hY _ _ _ _ _ h H locs A hP hS hL (va_ad trivial hV))
    · exact lv_lload F.1 F.2.1 hd hA (hY _ _ _ _ _ h H locs A hP hS hL (va_ad trivial hV))
  · exact h.elim
theorem s_ldA (F : Fx g p s m args c cc nL own) (hY : ∀ pc ls st f a, Y pc ls st f a → Wp g p e (rmL lvl) s m args below meth c nL Qg pc ls st f a) {n : Nat} (hd : (∃ k : Fin 4, k.val = n ∧ decode cc pc = .ok (.aload_n k, 1) ∧ nxt = pc + 1) ∨ (decode cc pc = .ok (.aload n, 2) ∧ nxt = pc + 2)) (h : ldA Y n nxt ls st f a) : Wp g p e (rmL lvl) s m args below meth c nL Qg pc ls st f a := by
  intro H locs A hP hS hL hV
  unfold ldA at h
  split at h
  · rename_i x hx
    have hA := hL.at hx
    rcases hd with ⟨k, hk, hd, rfl⟩ | ⟨hd, rfl⟩
    · exact lv_aload_n F.1 F.2.1 hd hk hA.1 (hY _ _ _ _ _ h H locs A hP hS hL (va_ad hA.2 hV))
    · exact lv_aload F.1 F.2.1 hd hA.1 (hY _ _ _ _ _ h H locs A hP hS hL (va_ad hA.2 hV))
  · exact h.elim
theorem s_stI (F : Fx g p s m args c cc nL own) (hY : ∀ pc ls st f a, Y pc ls st f a → Wp g p e (rmL lvl) s m args below meth c nL Qg pc ls st f a) {n : Nat} (hd : (∃ k : Fin 4, k.val = n ∧ decode cc pc = .ok (.istore_n k, 1) ∧ nxt = pc + 1) ∨ (decode cc pc = .ok (.istore n, 2) ∧ nxt = pc + 2)) (h : stI Y n nxt ls st f a) : Wp g p e (rmL lvl) s m args below meth c nL Qg pc ls st f a := by
  intro H locs A hP hS hL hV
  unfold stI at h
  split at h
  · rename_i hno hlt
    rw [frc_eq] at h
    obtain ⟨hlen, lv, hl, hm⟩ := hL
    have hn : n < nL := by
      have h1 : Nat.ble (n + 1) ls.length = true := hlt
      have := Nat.le_of_ble_eq_true h1
      omega
    rcases hd with ⟨k, hk, hd, rfl⟩ | ⟨hd, rfl⟩
    · exact lv_istore_n F.1 F.2.1 hd hk hl hn rfl (fun A' hA' => hY _ _ _ _ _ h H locs A' hP hS (LV.set1 hlen hm hno trivial hA') (va_lt hV).2)
    · exact lv_istore F.1 F.2.1 hd hl hn rfl (fun A' hA' => hY _ _ _ _ _ h H locs A' hP hS (LV.set1 hlen hm hno trivial hA') (va_lt hV).2)
  · exact h.elim
theorem s_stA (F : Fx g p s m args c cc nL own) (hY : ∀ pc ls st f a, Y pc ls st f a → Wp g p e (rmL lvl) s m args below meth c nL Qg pc ls st f a) {n : Nat} (hd : (∃ k : Fin 4, k.val = n ∧ decode cc pc = .ok (.astore_n k, 1) ∧ nxt = pc + 1) ∨ (decode cc pc = .ok (.astore n, 2) ∧ nxt = pc + 2)) (h : stA Y n nxt ls st f a) : Wp g p e (rmL lvl) s m args below meth c nL Qg pc ls st f a := by
  intro H locs A hP hS hL hV
  unfold stA at h
  split at h
  · rename_i hno hlt
    rw [frc_eq] at h
    obtain ⟨hlen, lv, hl, hm⟩ := hL
    have hn : n < nL := by
      have h1 : Nat.ble (n + 1) ls.length = true := hlt
      have := Nat.le_of_ble_eq_true h1
      omega
    rcases hd with ⟨k, hk, hd, rfl⟩ | ⟨hd, rfl⟩
    · exact lv_astore_n F.1 F.2.1 hd hk hl hn rfl (fun A' hA' => hY _ _ _ _ _ h H locs A' hP hS (LV.set1 hlen hm hno (va_lt hV).1 hA') (va_lt hV).2)
    · exact lv_astore F.1 F.2.1 hd hl hn rfl (fun A' hA' => hY _ _ _ _ _ h H locs A' hP hS (LV.set1 hlen hm hno (va_lt hV).1 hA') (va_lt hV).2)
  · exact h.elim
theorem s_inc (F : Fx g p s m args c cc nL own) (hY : ∀ pc ls st f a, Y pc ls st f a → Wp g p e (rmL lvl) s m args below meth c nL Qg pc ls st f a) {n : Nat} {z : Int} {iv : Int32} (hd : decode cc pc = .ok (.iinc n z, 3) ∧ nxt = pc + 3) (hz : Int32.ofInt z = iv) (h : incX Y n iv nxt ls st f a) : Wp g p e (rmL lvl) s m args below meth c nL Qg pc ls st f a := by
  intro H locs A hP hS hL hV
  unfold incX at h
  split at h
  · rename_i x hx hno
    rw [frc_eq] at h
    obtain ⟨hlen, lv, hl, hm⟩ := hL
    have hn : n < nL := by
      have := lget_lt hx
      omega
    obtain ⟨k, hk⟩ := List.getElem?_of_mem (hm n _ hx).1
    obtain ⟨hd, rfl⟩ := hd
    exact lv_iinc F.1 F.2.1 hd hl hk (by rw [hz]) hn rfl (fun A' hA' => hY _ _ _ _ _ h H locs A' hP hS (LV.set1 hlen hm hno trivial hA') hV)
  · exact h.elim
theorem s_stL (F : Fx g p s m args c cc nL own) (hY : ∀ pc ls st f a, Y pc ls st f a → Wp g p e (rmL lvl) s m args below meth c nL Qg pc ls st f a) {n : Nat} (hd : decode cc pc = .ok (.lstore n, 2) ∧ nxt = pc + 2) (h : stL Y n nxt ls st f a) : Wp g p e (rmL lvl) s m args below meth c nL Qg pc ls st f a := by
  intro H locs A hP hS hL hV
  unfold stL at h
  split at h
  · rename_i hno hlt
    rw [frc_eq] at h
    obtain ⟨hlen, lv, hl, hm⟩ := hL
    have hn : n + 1 < nL := by
      have h1 : Nat.ble (n + 1 + 1) ls.length = true := hlt
      have := Nat.le_of_ble_eq_true h1
      omega
    obtain ⟨hd, rfl⟩ := hd
    refine lv_lstore F.1 F.2.1 hd hl hn rfl (fun A' hA' => hY _ _ _ _ _ h H locs A' hP hS ?_ (va_lt hV).2)
    refine ⟨by rw [lset_len, lset_len, hlen], _, hA', fun j w hj => ?_⟩
    by_cases h1 : j = n + 1
    · subst h1
      rcases lget_set_eq _ _ _ hj with q | q <;> cases q
    · rw [lget_set_ne _ _ h1] at hj
      by_cases h2 : j = n
      · subst h2
        rcases lget_set_eq _ _ _ hj with q | q
        · cases q
        · cases q
          exact ⟨List.mem_cons_self, trivial⟩
      · rw [lget_set_ne _ _ h2] at hj
        refine ⟨List.mem_cons_of_mem _ (List.mem_filter.mpr ⟨(hm j w hj).1, ?_⟩), (hm j w hj).2⟩
        have h4 : (j + 1 == n && (cv (gAd g) w).category == 2) = false := by
          by_cases hq : j + 1 = n
          · subst hq
            rw [cv_cat]
            have h3 : (match lget ls j with
              | some (.inr (.inl _)) => false
              | _ => true) = true := hno
            rw [hj] at h3
            rcases w with x | x | k
            · simp [cat1]
            · cases h3
            · simp [cat1]
          · simp [hq]
        have h5 : (j == n) = false := by simp [h2]
        have h6 : (j == n + 1) = false := by simp [h1]
        simp only [h4, h5, h6, Bool.not_false, Bool.and_self]
  · exact h.elim
end Steps
end
section
/-! fields, rows, calls, returns; all of it together -/
theorem cl_ty : ∀ (t : Nat) (C : String) (T : u_T) (N : Nat), vwCl[t]? = some (C, T, N) → ∃ ty0 : Nat → FieldType, (∀ k, k < N → parseFieldDescriptor (T k).2.2.1 = some (ty0 k)) ∧ ∀ a, a < N → ∀ b, b < N → a ≠ b → (T a).2.1 ≠ (T b).2.1
  | 0, _, _, _, h => by cases h; exact ⟨_, tyX0_ok, nmX0⟩
  | 1, _, _, _, h => by cases h; exact ⟨_, tyX1_ok, nmX1⟩
  | 2, _, _, _, h => by cases h; exact ⟨_, tyX2_ok, nmX2⟩
  | 3, _, _, _, h => by cases h; exact ⟨_, tyX3_ok, nmX3⟩
  | 4, _, _, _, h => by cases h; exact ⟨_, tyX4_ok, nmX4⟩
  | 5, _, _, _, h => by cases h; exact ⟨_, tyX5_ok, nmX5⟩
  | t + 6, _, _, _, h => by cases h
def fkOK (t : Nat) (T : u_T) (k : Nat) : Bool := (!(Nat.beq (fk t k) 0) || (decide ((T k).2.2.2 = false) && decide (parseFieldDescriptor (T k).2.2.1 = some .int))) && (!(Nat.beq (fk t k) 1) || (decide ((T k).2.2.2 = false) && decide (parseFieldDescriptor (T k).2.2.1 = some .boolean)))
theorem cl_fk0 : ∀ (t : Nat) (C : String) (T : u_T) (N : Nat), vwCl[t]? = some (C, T, N) → ∀ k, k < N → fkOK t T k = true
  | 0, _, _, _, h => by cases h; decide +kernel
  | 1, _, _, _, h => by cases h; decide +kernel
  | 2, _, _, _, h => by cases h; decide +kernel
  | 3, _, _, _, h => by cases h; decide +kernel
  | 4, _, _, _, h => by cases h; decide +kernel
  | 5, _, _, _, h => by cases h; decide +kernel
  | t + 6, _, _, _, h => by cases h
theorem cl_fk {t : Nat} {C : String} {T : u_T} {N k : Nat} (h : vwCl[t]? = some (C, T, N)) (hk : k < N) : (fk t k = 0 → (T k).2.2.2 = false ∧ parseFieldDescriptor (T k).2.2.1 = some .int) ∧ (fk t k = 1 → (T k).2.2.2 = false ∧ parseFieldDescriptor (T k).2.2.1 = some .boolean) := by
  have h1 := cl_fk0 t C T N h k hk
  unfold fkOK at h1
  simp only [Bool.and_eq_true, Bool.or_eq_true, Bool.not_eq_true', decide_eq_true_eq] at h1
  refine ⟨fun hf => ?_, fun hf => ?_⟩
  · rcases h1.1 with q | q
    · rw [hf] at q; cases q
    · exact q
  · rcases h1.2 with q | q
    · rw [hf] at q; cases q
    · exact q
theorem cl_n {t : Nat} {C : String} {T : u_T} {N : Nat} (h : vwCl[t]? = some (C, T, N)) : t < 6 ∧ N = nfl t := by
  have h1 : t < 6 := (List.getElem?_eq_some_iff.mp h).1
  have h2 := ks_nfl t h1
  rw [h] at h2
  exact ⟨h1, Option.some.inj h2⟩
theorem ks_row0 : KS.all (fun q => match q with
    | (t, _, k + 1) => Nat.beq (fk t k) 2 || (Nat.beq (fk t k) 3 || (Nat.beq (fk t k) 4 || Nat.beq (fk t k) 5))
    | _ => true) = true := by decide +kernel
theorem ks_row {t i k : Nat} (h : (t, i, k + 1) ∈ KS) : fk t k = 2 ∨ fk t k = 3 ∨ fk t k = 4 ∨ fk t k = 5 := by
  have h1 := List.all_eq_true.mp ks_row0 _ h
  simp only [Bool.or_eq_true] at h1
  rcases h1 with h | h | h | h
  · exact Or.inl (Nat.eq_of_beq_eq_true h)
  · exact Or.inr (Or.inl (Nat.eq_of_beq_eq_true h))
  · exact Or.inr (Or.inr (Or.inl (Nat.eq_of_beq_eq_true h)))
  · exact Or.inr (Or.inr (Or.inr (Nat.eq_of_beq_eq_true h)))
theorem tyl_raf (cy : Nat → ClassId) (k : Nat) : ∃ C, (tyl cy)[2 + (raf k).1]? = some (cy (2 + (raf k).1), .object C) := by
  unfold raf
  split
  · exact ⟨_, rfl⟩
  · exact ⟨_, rfl⟩
theorem nar_bool {x : Int32} (h : x = 0 ∨ x = 1) : narrow .boolean (.int x) = .int x := by
  rcases h with rfl | rfl <;> decide
section Steps2
variable {g : Gm} {p : Program} {e : Env} {lvl : Nat} {s : State} {m : MethodId} {args : Array Value} {below : List Frame} {meth : Method} {c : Code} {cc : ByteArray} {nL : Nat} {own : String} {Qg : State → Prop} {Y : XT} {pc nxt tgt len : Nat} {ls : Lcs} {st : List AV} {f : FF} {a : AA}
theorem s_getF (hg : GmOK g) (F : Fx g p s m args c cc nL own) (hY : ∀ pc ls st f a, Y pc ls st f a → Wp g p e (rmL lvl) s m args below meth c nL Qg pc ls st f a) {n : Nat} {tk : Option (Nat × Nat)} (hf : ∀ t k, tk = some (t, k) → FldOK own n t k) (hd : decode cc pc = .ok (.getfield n, 3) ∧ nxt = pc + 3) (h : getF Y tk nxt ls st f a) : Wp g p e (rmL lvl) s m args below meth c nL Qg pc ls st f a := by
  intro H locs A hP hS hL hV
  unfold getF at h
  split at h
  · rename_i t k t' i r
    cases hb : Nat.beq t t' with
    | false => rw [hb] at h; exact h.elim
    | true =>
      rw [hb] at h
      have ht := Nat.eq_of_beq_eq_true hb
      subst ht
      obtain ⟨C, T, N, h1, h2, h3, h4⟩ := hf t k rfl
      obtain ⟨ht6, hN⟩ := cl_n h1
      have hks : (t, i, 0) ∈ KS := ks_has (va_lt hV).1 ht6
      obtain ⟨q0, -, hq⟩ := cells_at (ad := gAd g) (cy := gCy g) f a hks
      obtain ⟨hd, rfl⟩ := hd
      have hv : ((List.range (nfl t)).map (fun k => cv (gAd g) (gfv f t i k)))[k]? = some (cv (gAd g) (gfv f t i k)) := by
        rw [List.getElem?_map, List.getElem?_range (by omega)]; rfl
      exact va_get (D := gD g) (Ts := WS) F.1 F.2.1 F.2.2.2.2.1 h4 F.2.2.2.1 (hg.2.2.1 s F.2.2.2.2.2) hP q0 hq h1 k h2 (F.2.2.2.2.1 _ h3) (fun _ q => q) hv hd (hY _ _ _ _ _ h H locs A hP hS hL (va_ad (ks_get f hks (by omega)) (va_lt hV).2))
  · exact h.elim
theorem s_putF (hg : GmOK g) (F : Fx g p s m args c cc nL own) (hY : ∀ pc ls st f a, Y pc ls st f a → Wp g p e (rmL lvl) s m args below meth c nL Qg pc ls st f a) {n : Nat} {tk : Option (Nat × Nat)} (hf : ∀ t k, tk = some (t, k) → FldOK own n t k) (hd : decode cc pc = .ok (.putfield n, 3) ∧ nxt = pc + 3) (h : putF Y tk nxt ls st f a) : Wp g p e (rmL lvl) s m args below meth c nL Qg pc ls st f a := by
  intro H locs A hP hS hL hV
  unfold putF at h
  split at h
  · rename_i t k x t' i r
    cases hb : Nat.beq t t' with
    | false => rw [hb] at h; exact h.elim
    | true =>
      rw [hb] at h
      have ht := Nat.eq_of_beq_eq_true hb
      subst ht
      obtain ⟨C, T, N, h1, h2, h3, h4⟩ := hf t k rfl
      obtain ⟨ht6, hN⟩ := cl_n h1
      have hks : (t, i, 0) ∈ KS := ks_has (va_lt (va_lt hV).2).1 ht6
      obtain ⟨q0, hq0, hq⟩ := cells_at (ad := gAd g) (cy := gCy g) f a hks
      obtain ⟨hd, rfl⟩ := hd
      obtain ⟨ty0, hty, hnm⟩ := cl_ty t C T N h1
      have hl : k < ((List.range (nfl t)).map (fun k => cv (gAd g) (gfv f t i k))).length := by
        rw [List.length_map, List.length_range]; omega
      obtain ⟨hf0, hf1⟩ := cl_fk h1 h2
      have key : (fk t k = 0 ∨ fk t k = 1) → Y (pc + 3) ls r (upf f t i k x) a → ∀ (H1 : Heap) (locs1 : List Loc), va_P (gD g) vwCl ((cells (gAd g) (gCy g) f a).set q0 (gAd g (t, i, 0), .inr (t, ((List.range (nfl t)).map (fun k => cv (gAd g) (gfv f t i k))).set k (.int x)))) H1 → va_S (gA g) s.heap H1 locs1 → W p (gL g) e (rmL lvl) s m args below meth c H1 locs1 0 0 Qg (F0 m (pc + 3) A (r.map (cv (gAd g)))) := by
        intro hfk hh H1 locs1 hP1 hS1
        rw [cells_set (f' := upf f t i k x) (a' := a) hq0 (el_upf hfk) (fun q' hq' => el_upf' q' hq')] at hP1
        exact hY _ _ _ _ _ hh H1 locs1 A hP1 hS1 hL (va_lt (va_lt hV).2).2
      simp only [cond_true] at h
      split at h
      · rename_i hfk
        exact va_put (D := gD g) (Ts := WS) (v := .int x) F.1 F.2.1 F.2.2.2.2.1 h4 ty0 hty hnm F.2.2.2.1 (hg.2.2.1 s F.2.2.2.2.2) hP (gD_ok hg f a) hS q0 hq h1 k h2 (F.2.2.2.2.1 _ h3) (fun _ q => q) (hf0 hfk).1 (hf0 hfk).2 rfl rfl hl hd (fun H1 locs1 hP1 _ hS1 => key (Or.inl hfk) h H1 locs1 hP1 hS1)
      · rename_i hfk
        exact va_put (D := gD g) (Ts := WS) (v := .int x) F.1 F.2.1 F.2.2.2.2.1 h4 ty0 hty hnm F.2.2.2.1 (hg.2.2.1 s F.2.2.2.2.2) hP (gD_ok hg f a) hS q0 hq h1 k h2 (F.2.2.2.2.1 _ h3) (fun _ q => q) (hf1 hfk).1 (hf1 hfk).2 (nar_bool h.1) (by rcases h.1 with rfl | rfl <;> rfl) hl hd (fun H1 locs1 hP1 _ hS1 => key (Or.inr hfk) h.2 H1 locs1 hP1 hS1)
      · exact h.elim
  · exact h.elim
theorem s_iald (hg : GmOK g) (F : Fx g p s m args c cc nL own) (hY : ∀ pc ls st f a, Y pc ls st f a → Wp g p e (rmL lvl) s m args below meth c nL Qg pc ls st f a) (hd : decode cc pc = .ok (.iaload, 1) ∧ nxt = pc + 1) (h : ldX Y (fun n => Nat.beq n 2) nxt ls st f a) : Wp g p e (rmL lvl) s m args below meth c nL Qg pc ls st f a := by
  intro H locs A hP hS hL hV
  unfold ldX at h
  split at h
  · rename_i j t i k r
    dsimp only at h
    cases hb : Nat.beq (fk t k) 2 with
    | false => rw [hb] at h; exact h.elim
    | true =>
      rw [hb] at h
      have hks := ks_has1 (va_lt (va_lt hV).2).1
      obtain ⟨q0, -, hq⟩ := cells_at (ad := gAd g) (cy := gCy g) f a hks
      rw [el_row.1 (Nat.eq_of_beq_eq_true hb)] at hq
      obtain ⟨hd, rfl⟩ := hd
      exact va_iald (D := gD g) F.1 F.2.1 (hg.2.2.1 s F.2.2.2.2.2) hP q0 0 hq rfl h.1 hd (hY _ _ _ _ _ h.2 H locs A hP hS hL (va_ad trivial (va_lt (va_lt hV).2).2))
  · exact h.elim
theorem s_bald (hg : GmOK g) (F : Fx g p s m args c cc nL own) (hY : ∀ pc ls st f a, Y pc ls st f a → Wp g p e (rmL lvl) s m args below meth c nL Qg pc ls st f a) (hd : decode cc pc = .ok (.baload, 1) ∧ nxt = pc + 1) (h : ldX Y (fun n => Nat.beq n 3 || Nat.beq n 4) nxt ls st f a) : Wp g p e (rmL lvl) s m args below meth c nL Qg pc ls st f a := by
  intro H locs A hP hS hL hV
  unfold ldX at h
  split at h
  · rename_i j t i k r
    dsimp only at h
    have hks := ks_has1 (va_lt (va_lt hV).2).1
    obtain ⟨q0, -, hq⟩ := cells_at (ad := gAd g) (cy := gCy g) f a hks
    obtain ⟨hd, rfl⟩ := hd
    cases hb : Nat.beq (fk t k) 3 with
    | true =>
      rw [hb] at h
      rw [el_row.2.1 (Nat.eq_of_beq_eq_true hb)] at hq
      exact va_bald (D := gD g) F.1 F.2.1 (hg.2.2.1 s F.2.2.2.2.2) hP q0 1 hq rfl h.1 hd (hY _ _ _ _ _ h.2 H locs A hP hS hL (va_ad trivial (va_lt (va_lt hV).2).2))
    | false =>
      cases hb2 : Nat.beq (fk t k) 4 with
      | true =>
        rw [hb, hb2] at h
        rw [el_row.2.2.1 (Nat.eq_of_beq_eq_true hb2)] at hq
        exact va_zald (D := gD g) F.1 F.2.1 (hg.2.2.1 s F.2.2.2.2.2) hP q0 2 hq rfl h.1 hd (hY _ _ _ _ _ h.2 H locs A hP hS hL (va_ad trivial (va_lt (va_lt hV).2).2))
      | false => rw [hb, hb2] at h; exact h.elim
  · exact h.elim
theorem s_aald (hg : GmOK g) (F : Fx g p s m args c cc nL own) (hY : ∀ pc ls st f a, Y pc ls st f a → Wp g p e (rmL lvl) s m args below meth c nL Qg pc ls st f a) (hd : decode cc pc = .ok (.aaload, 1) ∧ nxt = pc + 1) (h : ldR Y nxt ls st f a) : Wp g p e (rmL lvl) s m args below meth c nL Qg pc ls st f a := by
  intro H locs A hP hS hL hV
  unfold ldR at h
  split at h
  · rename_i j t i k r
    cases hb : (Nat.beq (fk t k) 5 && Nat.beq t 4) with
    | false => rw [hb] at h; exact h.elim
    | true =>
      rw [hb] at h
      simp only [Bool.and_eq_true] at hb
      have h5 := Nat.eq_of_beq_eq_true hb.1
      have h4 := Nat.eq_of_beq_eq_true hb.2
      subst h4
      have hks := ks_has1 (va_lt (va_lt hV).2).1
      obtain ⟨q0, -, hq⟩ := cells_at (ad := gAd g) (cy := gCy g) f a hks
      rw [el_row.2.2.2 h5] at hq
      obtain ⟨hd, rfl⟩ := hd
      obtain ⟨C, hC⟩ := tyl_raf (gCy g) k
      have hlt : j.toNatClampNeg < al 4 k := Nat.not_le.mp fun q => h.1 (Or.inr q)
      exact va_aldq (D := gD g) F.1 F.2.1 (hg.2.2.1 s F.2.2.2.2.2) hP q0 _ hq hC h.1 hd (hY _ _ _ _ _ h.2 H locs A hP hS hL (va_ad (Or.inl (ks_ref hks h5 hlt)) (va_lt (va_lt hV).2).2))
  · exact h.elim
theorem s_alen (hg : GmOK g) (F : Fx g p s m args c cc nL own) (hY : ∀ pc ls st f a, Y pc ls st f a → Wp g p e (rmL lvl) s m args below meth c nL Qg pc ls st f a) (hd : decode cc pc = .ok (.arraylength, 1) ∧ nxt = pc + 1) (h : alN Y nxt ls st f a) : Wp g p e (rmL lvl) s m args below meth c nL Qg pc ls st f a := by
  intro H locs A hP hS hL hV
  unfold alN at h
  split at h
  · rename_i t i k r
    have hks := ks_has1 (va_lt hV).1
    obtain ⟨q0, -, hq⟩ := cells_at (ad := gAd g) (cy := gCy g) f a hks
    obtain ⟨hd, rfl⟩ := hd
    have K := hY _ _ _ _ _ h H locs A hP hS hL (va_ad trivial (va_lt hV).2)
    rcases ks_row hks with q | q | q | q
    · rw [el_row.1 q] at hq
      exact va_alen (D := gD g) F.1 F.2.1 (hg.2.2.1 s F.2.2.2.2.2) hP q0 0 hq rfl rfl hd K
    · rw [el_row.2.1 q] at hq
      exact va_alen (D := gD g) F.1 F.2.1 (hg.2.2.1 s F.2.2.2.2.2) hP q0 1 hq rfl rfl hd K
    · rw [el_row.2.2.1 q] at hq
      exact va_alen (D := gD g) F.1 F.2.1 (hg.2.2.1 s F.2.2.2.2.2) hP q0 2 hq rfl rfl hd K
    · rw [el_row.2.2.2 q] at hq
      obtain ⟨C, hC⟩ := tyl_raf (gCy g) k
      exact va_alen (D := gD g) F.1 F.2.1 (hg.2.2.1 s F.2.2.2.2.2) hP q0 _ hq hC rfl hd K
  · exact h.elim
theorem s_iast (hg : GmOK g) (F : Fx g p s m args c cc nL own) (hY : ∀ pc ls st f a, Y pc ls st f a → Wp g p e (rmL lvl) s m args below meth c nL Qg pc ls st f a) (hd : decode cc pc = .ok (.iastore, 1) ∧ nxt = pc + 1) (h : stX Y nxt ls st f a) : Wp g p e (rmL lvl) s m args below meth c nL Qg pc ls st f a := by
  intro H locs A hP hS hL hV
  unfold stX at h
  split at h
  · rename_i x j t i k r
    cases hb : Nat.beq (fk t k) 2 with
    | false => rw [hb] at h; exact h.elim
    | true =>
      rw [hb] at h
      have hks := ks_has1 (va_lt (va_lt (va_lt hV).2).2).1
      obtain ⟨q0, hq0, hq⟩ := cells_at (ad := gAd g) (cy := gCy g) f a hks
      have hfk := Nat.eq_of_beq_eq_true hb
      rw [el_row.1 hfk] at hq
      obtain ⟨hd, rfl⟩ := hd
      refine va_iast (D := gD g) F.1 F.2.1 (hg.2.2.1 s F.2.2.2.2.2) hP (gD_ok hg f a) hS q0 0 hq rfl h.1 hd (fun H1 locs1 hP1 _ hS1 => ?_)
      rw [cells_set (f' := f) (a' := upa a t i k j.toNatClampNeg x) hq0 (by rw [el_row.1 hfk, upa, upA_eq]) (fun q' hq' => el_upA' q' hq')] at hP1
      exact hY _ _ _ _ _ h.2 H1 locs1 A hP1 hS1 hL (va_lt (va_lt (va_lt hV).2).2).2
  · exact h.elim
theorem s_bast (hg : GmOK g) (F : Fx g p s m args c cc nL own) (hY : ∀ pc ls st f a, Y pc ls st f a → Wp g p e (rmL lvl) s m args below meth c nL Qg pc ls st f a) (hd : decode cc pc = .ok (.bastore, 1) ∧ nxt = pc + 1) (h : stB Y nxt ls st f a) : Wp g p e (rmL lvl) s m args below meth c nL Qg pc ls st f a := by
  intro H locs A hP hS hL hV
  unfold stB at h
  split at h
  · rename_i x j t i k r
    have hks := ks_has1 (va_lt (va_lt (va_lt hV).2).2).1
    obtain ⟨q0, hq0, hq⟩ := cells_at (ad := gAd g) (cy := gCy g) f a hks
    obtain ⟨hd, rfl⟩ := hd
    split at h
    · rename_i hfk
      rw [el_row.2.1 hfk] at hq
      refine va_bast (D := gD g) F.1 F.2.1 (hg.2.2.1 s F.2.2.2.2.2) hP (gD_ok hg f a) hS q0 1 hq rfl h.1 hd (fun H1 locs1 hP1 _ hS1 => ?_)
      rw [cells_set (f' := f) (a' := upa a t i k j.toNatClampNeg (vp_nar .byte x)) hq0 (by rw [el_row.2.1 hfk, upa, upA_eq]) (fun q' hq' => el_upA' q' hq')] at hP1
      exact hY _ _ _ _ _ h.2 H1 locs1 A hP1 hS1 hL (va_lt (va_lt (va_lt hV).2).2).2
    · rename_i hfk
      rw [el_row.2.2.1 hfk] at hq
      refine va_zast (D := gD g) F.1 F.2.1 (hg.2.2.1 s F.2.2.2.2.2) hP (gD_ok hg f a) hS q0 2 hq rfl h.1 hd (fun H1 locs1 hP1 _ hS1 => ?_)
      rw [cells_set (f' := f) (a' := upa a t i k j.toNatClampNeg (vp_nar .boolean x)) hq0 (by rw [el_row.2.2.1 hfk, upa, upA_eq]) (fun q' hq' => el_upA' q' hq')] at hP1
      exact hY _ _ _ _ _ h.2 H1 locs1 A hP1 hS1 hL (va_lt (va_lt (va_lt hV).2).2).2
    · exact h.elim
  · exact h.elim
theorem s_call (F : Fx g p s m args c cc nL own) (hY : ∀ pc ls st f a, Y pc ls st f a → Wp g p e (rmL lvl) s m args below meth c nL Qg pc ls st f a) {n : Nat} {b : Bool} {ns : Option (Bool × Nat × SP)} (hc : ∀ b k sp, ns = some (b, k, sp) → CallOK g lvl own n b k sp) (hd : decode cc pc = .ok (bif b then .invokestatic n else .invokevirtual n, 3) ∧ nxt = pc + 3) (h : callX Y b ns nxt ls st f a) : Wp g p e (rmL lvl) s m args below meth c nL Qg pc ls st f a := by
  intro H locs A hP hS hL hV
  have key : ∀ (k : Nat) (sp : SP), CallOK g lvl own n b k sp → popA k [] st (fun As r => bif Nat.ble (cats r) 8 then sp As f a (fun v f' a' => Y nxt ls (v.toList ++ r) f' a') else False) → W p (gL g) e (rmL lvl) s m args below meth c H locs 0 0 Qg (F0 m pc A (st.map (cv (gAd g)))) := by
    intro k sp hc h
    obtain ⟨As, r, h1, h2, h3⟩ := popA_ok h
    rw [List.append_nil] at h1
    cases hb : Nat.ble (cats r) 8 with
    | false => rw [hb] at h1; exact h1.elim
    | true =>
      rw [hb] at h1
      obtain ⟨hd, rfl⟩ := hd
      subst h2
      refine hc p e s m args below meth c cc nL Qg H locs A pc As r f a _ F.1 F.2.1 F.2.2.1 F.2.2.2.1 F.2.2.2.2.1 F.2.2.2.2.2 hP hS ?_ (Nat.le_of_ble_eq_true hb) h3 (fun v hv => hV v (List.mem_append_left _ (List.mem_reverse.mpr hv))) hd h1 ?_
      · obtain ⟨-, lv, hl, -⟩ := hL
        exact hl.1
      · intro v f' a' H1 locs1 hh hv hP1 hS1
        refine hY _ _ _ _ _ hh H1 locs1 A hP1 hS1 hL (fun w hw => ?_)
        rcases List.mem_append.mp hw with q | q
        · exact hv w (Option.mem_toList.mp q)
        · exact hV w (List.mem_append_right _ q)
  unfold callX at h
  split at h
  · exact key _ _ (hc _ _ _ rfl) h
  · exact key _ _ (hc _ _ _ rfl) h
  · exact h.elim
end Steps2
end
section
section Sound
variable {g : Gm} {p : Program} {e : Env} {lvl : Nat} {s : State} {m : MethodId} {args : Array Value} {below : List Frame} {meth : Method} {c : Code} {cc : ByteArray} {nL : Nat} {own : String} {ret : Option FieldType} {E : En} {post : PT} {Y : XT} {pc : Nat} {ls : Lcs} {st : List AV} {f : FF} {a : AA}
theorem allT_ok {x : Int32} {P : Nat → Prop} : ∀ {ts : List Nat} {j : Nat} {lo : Int}, allT x P ts j lo → ∀ (k t : Nat), ts[k]? = some t → x.toInt = lo + ((j + k : Nat) : Int) → P t
  | [], _, _, _, _, _, h, _ => by cases h
  | t :: ts, j, lo, h, 0, t', hk, hx => by
    cases hk
    exact h.1 hx
  | t :: ts, j, lo, h, k + 1, t', hk, hx => allT_ok (ts := ts) h.2 k t' hk (by rw [hx]; congr 1; omega)
set_option maxHeartbeats 4000000 in
theorem ins_ok (hg : GmOK g) (F : Fx g p s m args c cc nL own) (hE : EnvOK g lvl own cc ret E) (hr : meth.sig.returnType = ret) (hlocks : meth.locks = false)
    (hY : ∀ pc ls st f a, Y pc ls st f a → Wp g p e (rmL lvl) s m args below meth c nL (MQ below (PostC g post) args s 0 0 (gA g)) pc ls st f a)
    {i : Instr} {len nxt tgt : Nat} {ts : List Nat} {iv : Int32} (hd : decode cc pc = .ok (i, len)) (hlen : lenI i = 0 ∨ lenI i = len) (hn : nxt = pc + len) (hj : ∀ o, jmpI i = some o → (pc : Int) + o = (tgt : Int)) (hnum : ∀ v, numI i = some v → v = iv) (hsz : szI i = true) (hsw : (swI i).map (fun o => (pc : Int) + o) = ts.map (fun (t : Nat) => (t : Int)))
    (h : ins E post Y i nxt tgt ts iv ls st f a) : Wp g p e (rmL lvl) s m args below meth c nL (MQ below (PostC g post) args s 0 0 (gA g)) pc ls st f a := by
  have L1 : ∀ n, lenI i = n + 1 → len = n + 1 := fun n hn1 => hlen.elim (fun q => by omega) (fun q => by omega)
  cases i with
  | iconst n =>
    obtain rfl := L1 0 rfl
    subst hn
    intro H locs A hP hS hL hV
    exact lv_iconst F.1 F.2.1 hd (hnum _ rfl) (hY _ _ _ _ _ h H locs A hP hS hL (va_ad trivial hV))
  | bipush n =>
    obtain rfl := L1 1 rfl
    subst hn
    intro H locs A hP hS hL hV
    exact lv_bipush F.1 F.2.1 hd (hnum _ rfl) (hY _ _ _ _ _ h H locs A hP hS hL (va_ad trivial hV))
  | sipush n =>
    obtain rfl := L1 2 rfl
    subst hn
    intro H locs A hP hS hL hV
    exact lv_sipush F.1 F.2.1 hd (hnum _ rfl) (hY _ _ _ _ _ h H locs A hP hS hL (va_ad trivial hV))
  | lconst n =>
    obtain rfl := L1 0 rfl
    subst hn
    intro H locs A hP hS hL hV
    exact lv_lconst F.1 F.2.1 hd rfl (hY _ _ _ _ _ h H locs A hP hS hL (va_ad trivial hV))
  | ldc n =>
    intro H locs A hP hS hL hV
    subst hn
    have hc := hE.2.2.2.1 n
    simp only [ins, ldcX] at h
    split at h
    · rename_i x hx
      exact (hc _ hx).1 p e _ s m args below meth c cc _ H locs A pc len _ _ F.1 F.2.1 F.2.2.2.1 F.2.2.2.2.1 F.2.2.2.2.2 hS hd (L1 1 rfl) (Or.inl rfl) (hY _ _ _ _ _ h H locs A hP hS hL (va_ad (hc _ hx).2 hV))
    · rename_i x hx
      exact (hc _ hx).1 p e _ s m args below meth c cc _ H locs A pc len _ _ F.1 F.2.1 F.2.2.2.1 F.2.2.2.2.1 F.2.2.2.2.2 hS hd (L1 1 rfl) rfl (hY _ _ _ _ _ h H locs A hP hS hL (va_ad (hc _ hx).2 hV))
    · exact h.elim
  | ldc_w n =>
    intro H locs A hP hS hL hV
    subst hn
    have hc := hE.2.2.2.1 n
    simp only [ins, ldwX] at h
    split at h
    · rename_i x hx
      exact (hc _ hx).1 p e _ s m args below meth c cc _ H locs A pc len _ _ F.1 F.2.1 F.2.2.2.1 F.2.2.2.2.1 F.2.2.2.2.2 hS hd (L1 2 rfl) (Or.inr rfl) (hY _ _ _ _ _ h H locs A hP hS hL (va_ad (hc _ hx).2 hV))
    · exact h.elim
  | ldc2_w n =>
    intro H locs A hP hS hL hV
    subst hn
    have hc := hE.2.2.2.1 n
    simp only [ins, ld2X] at h
    split at h
    · rename_i x hx
      exact (hc _ hx).1 p e _ s m args below meth c cc _ H locs A pc len _ _ F.1 F.2.1 F.2.2.2.1 F.2.2.2.2.1 F.2.2.2.2.2 hS hd (L1 2 rfl) rfl (hY _ _ _ _ _ h H locs A hP hS hL (va_ad (hc _ hx).2 hV))
    · exact h.elim
  | iload_n n => obtain rfl := L1 0 rfl; exact s_ldI F hY (Or.inl ⟨n, rfl, hd, hn⟩) h
  | iload n => obtain rfl := L1 1 rfl; exact s_ldI F hY (Or.inr ⟨hd, hn⟩) h
  | lload_n n => obtain rfl := L1 0 rfl; exact s_ldL F hY (Or.inl ⟨n, rfl, hd, hn⟩) h
  | lload n => obtain rfl := L1 1 rfl; exact s_ldL F hY (Or.inr ⟨hd, hn⟩) h
  | aload_n n => obtain rfl := L1 0 rfl; exact s_ldA F hY (Or.inl ⟨n, rfl, hd, hn⟩) h
  | aload n => obtain rfl := L1 1 rfl; exact s_ldA F hY (Or.inr ⟨hd, hn⟩) h
  | istore_n n => obtain rfl := L1 0 rfl; exact s_stI F hY (Or.inl ⟨n, rfl, hd, hn⟩) h
  | istore n => obtain rfl := L1 1 rfl; exact s_stI F hY (Or.inr ⟨hd, hn⟩) h
  | astore_n n => obtain rfl := L1 0 rfl; exact s_stA F hY (Or.inl ⟨n, rfl, hd, hn⟩) h
  | astore n => obtain rfl := L1 1 rfl; exact s_stA F hY (Or.inr ⟨hd, hn⟩) h
  | lstore n => obtain rfl := L1 1 rfl; exact s_stL F hY ⟨hd, hn⟩ h
  | iinc n z => obtain rfl := L1 2 rfl; exact s_inc F hY ⟨hd, hn⟩ (hnum _ rfl) h
  | getfield n => obtain rfl := L1 2 rfl; exact s_getF hg F hY (fun t k q => hE.2.2.1 n t k q) ⟨hd, hn⟩ h
  | putfield n => obtain rfl := L1 2 rfl; exact s_putF hg F hY (fun t k q => hE.2.2.1 n t k q) ⟨hd, hn⟩ h
  | iaload => obtain rfl := L1 0 rfl; exact s_iald hg F hY ⟨hd, hn⟩ h
  | baload => obtain rfl := L1 0 rfl; exact s_bald hg F hY ⟨hd, hn⟩ h
  | aaload => obtain rfl := L1 0 rfl; exact s_aald hg F hY ⟨hd, hn⟩ h
  | arraylength => obtain rfl := L1 0 rfl; exact s_alen hg F hY ⟨hd, hn⟩ h
  | iastore => obtain rfl := L1 0 rfl; exact s_iast hg F hY ⟨hd, hn⟩ h
  | bastore => obtain rfl := L1 0 rfl; exact s_bast hg F hY ⟨hd, hn⟩ h
  | invokevirtual n => obtain rfl := L1 2 rfl; exact s_call (b := false) F hY (fun b k sp q => hE.2.1 n b k sp q) ⟨hd, hn⟩ h
  | invokestatic n => obtain rfl := L1 2 rfl; exact s_call (b := true) F hY (fun b k sp q => hE.2.1 n b k sp q) ⟨hd, hn⟩ h
  | goto o =>
    intro H locs A hP hS hL hV
    obtain rfl := L1 2 rfl
    exact lv_goto F.1 F.2.1 hd (hj _ rfl) (hY _ _ _ _ _ h H locs A hP hS hL hV)
  | ifCond cn o =>
    intro H locs A hP hS hL hV
    obtain rfl := L1 2 rfl
    subst hn
    simp only [ins, br1] at h
    split at h
    · exact lv_if_eq F.1 F.2.1 hd (hj _ rfl) (fun q => hY _ _ _ _ _ (h.1 q) H locs A hP hS hL (va_lt hV).2) (fun q => hY _ _ _ _ _ (h.2 q) H locs A hP hS hL (va_lt hV).2)
    · exact lv_if_ne F.1 F.2.1 hd (hj _ rfl) (fun q => hY _ _ _ _ _ (h.1 q) H locs A hP hS hL (va_lt hV).2) (fun q => hY _ _ _ _ _ (h.2 q) H locs A hP hS hL (va_lt hV).2)
    · exact lv_if_lt F.1 F.2.1 hd (hj _ rfl) (fun q => hY _ _ _ _ _ (h.1 q) H locs A hP hS hL (va_lt hV).2) (fun q => hY _ _ _ _ _ (h.2 q) H locs A hP hS hL (va_lt hV).2)
    · exact lv_if_ge F.1 F.2.1 hd (hj _ rfl) (fun q => hY _ _ _ _ _ (h.1 q) H locs A hP hS hL (va_lt hV).2) (fun q => hY _ _ _ _ _ (h.2 q) H locs A hP hS hL (va_lt hV).2)
    · exact lv_if_gt F.1 F.2.1 hd (hj _ rfl) (fun q => hY _ _ _ _ _ (h.1 q) H locs A hP hS hL (va_lt hV).2) (fun q => hY _ _ _ _ _ (h.2 q) H locs A hP hS hL (va_lt hV).2)
    · exact lv_if_le F.1 F.2.1 hd (hj _ rfl) (fun q => hY _ _ _ _ _ (h.1 q) H locs A hP hS hL (va_lt hV).2) (fun q => hY _ _ _ _ _ (h.2 q) H locs A hP hS hL (va_lt hV).2)
    · exact h.elim
  | if_icmp cn o =>
    intro H locs A hP hS hL hV
    obtain rfl := L1 2 rfl
    subst hn
    simp only [ins, br2] at h
    split at h
    · exact lv_icmp_eq F.1 F.2.1 hd (hj _ rfl) (fun q => hY _ _ _ _ _ (h.1 q) H locs A hP hS hL (va_lt (va_lt hV).2).2) (fun q => hY _ _ _ _ _ (h.2 q) H locs A hP hS hL (va_lt (va_lt hV).2).2)
    · exact lv_icmp_ne F.1 F.2.1 hd (hj _ rfl) (fun q => hY _ _ _ _ _ (h.1 q) H locs A hP hS hL (va_lt (va_lt hV).2).2) (fun q => hY _ _ _ _ _ (h.2 q) H locs A hP hS hL (va_lt (va_lt hV).2).2)
    · exact lv_icmp_lt F.1 F.2.1 hd (hj _ rfl) (fun q => hY _ _ _ _ _ (h.1 q) H locs A hP hS hL (va_lt (va_lt hV).2).2) (fun q => hY _ _ _ _ _ (h.2 q) H locs A hP hS hL (va_lt (va_lt hV).2).2)
    · exact lv_icmp_ge F.1 F.2.1 hd (hj _ rfl) (fun q => hY _ _ _ _ _ (h.1 q) H locs A hP hS hL (va_lt (va_lt hV).2).2) (fun q => hY _ _ _ _ _ (h.2 q) H locs A hP hS hL (va_lt (va_lt hV).2).2)
    · exact lv_icmp_gt F.1 F.2.1 hd (hj _ rfl) (fun q => hY _ _ _ _ _ (h.1 q) H locs A hP hS hL (va_lt (va_lt hV).2).2) (fun q => hY _ _ _ _ _ (h.2 q) H locs A hP hS hL (va_lt (va_lt hV).2).2)
    · exact lv_icmp_le F.1 F.2.1 hd (hj _ rfl) (fun q => hY _ _ _ _ _ (h.1 q) H locs A hP hS hL (va_lt (va_lt hV).2).2) (fun q => hY _ _ _ _ _ (h.2 q) H locs A hP hS hL (va_lt (va_lt hV).2).2)
    · exact h.elim
  | tableswitch d lo hi o =>
    intro H locs A hP hS hL hV
    simp only [ins] at h
    split at h
    · rename_i x r
      have V := (va_lt hV).2
      by_cases h1 : x.toInt < lo ∨ hi < x.toInt
      · exact lv_tableOut F.1 F.2.1 hd h1 (hj _ rfl) (hY _ _ _ _ _ (h.2 h1) H locs A hP hS hL V)
      · have e1 : ¬ x.toInt < lo := fun q => h1 (Or.inl q)
        have e2 : ¬ hi < x.toInt := fun q => h1 (Or.inr q)
        have e3 : hi - lo + 1 = (o.toList.length : Int) := of_decide_eq_true hsz
        have hk : (x.toInt - lo).toNat < o.toList.length := by omega
        have ho : o[(x.toInt - lo).toNat]? = some o.toList[(x.toInt - lo).toNat] := by
          rw [← Array.getElem?_toList, List.getElem?_eq_getElem hk]
        have hsw' : o.toList.map (fun o => (pc : Int) + o) = ts.map (fun (t : Nat) => (t : Int)) := hsw
        have e4 : (o.toList.map (fun o => (pc : Int) + o))[(x.toInt - lo).toNat]? = some ((pc : Int) + o.toList[(x.toInt - lo).toNat]) := by
          rw [List.getElem?_map, List.getElem?_eq_getElem hk]; rfl
        rw [hsw', List.getElem?_map] at e4
        cases hts : ts[(x.toInt - lo).toNat]? with
        | none => rw [hts] at e4; cases e4
        | some t =>
          rw [hts] at e4
          have e5 : (pc : Int) + o.toList[(x.toInt - lo).toNat] = (t : Int) := (Option.some.inj e4).symm
          exact lv_tableIn F.1 F.2.1 hd e1 e2 ho e5 (hY _ _ _ _ _ (allT_ok h.1 _ t hts (by rw [Nat.zero_add]; omega)) H locs A hP hS hL V)
    · exact h.elim
  | ireturn =>
    intro H locs A hP hS hL hV
    obtain rfl := L1 0 rfl
    have hro := hE.2.2.2.2
    simp only [ins, retI] at h
    split at h
    · rename_i x hrt
      rw [hrt] at hro
      exact W.iret F.1 F.2.1 (hr.trans hro) (fun t ht hW => ⟨⟨some (.inl x), f, a, rfl, h, fun v hv => by cases hv; trivial, by rw [ht]; exact hP⟩, hS.F ht⟩) hS.2.2 hd hlocks
    · rename_i x hrt
      rw [hrt] at hro
      exact W.zret F.1 F.2.1 (hr.trans hro) (nar_bool h.1) (fun t ht hW => ⟨⟨some (.inl x), f, a, rfl, h.2, fun v hv => by cases hv; trivial, by rw [ht]; exact hP⟩, hS.F ht⟩) hS.2.2 hd hlocks
    · exact h.elim
  | return_ =>
    intro H locs A hP hS hL hV
    obtain rfl := L1 0 rfl
    have hro := hE.2.2.2.2
    simp only [ins, retV] at h
    split at h
    · rename_i hrt
      rw [hrt] at hro
      exact W.vret F.1 F.2.1 (hr.trans hro) (fun t ht hW => ⟨⟨none, f, a, rfl, h, (fun v hv => by cases hv), by rw [ht]; exact hP⟩, hS.F ht⟩) hS.2.2 hd hlocks
    · exact h.elim
  | areturn =>
    intro H locs A hP hS hL hV
    obtain rfl := L1 0 rfl
    have hro := hE.2.2.2.2
    simp only [ins, retA] at h
    split at h
    · rename_i k hrt
      rw [hrt] at hro
      obtain ⟨C, hC⟩ := hro
      exact W.aret F.1 F.2.1 (hr.trans hC) (Or.inl ⟨C, rfl⟩) (Or.inr ⟨_, rfl⟩) (fun t ht hW => ⟨⟨some (.inr (.inr k)), f, a, rfl, h, fun v hv => by cases hv; exact (va_lt hV).1, by rw [ht]; exact hP⟩, hS.F ht⟩) hS.2.2 hd hlocks
    · exact h.elim
  | iadd | isub | imul | iand | ior | ixor | ishl | ishr | iushr =>
    intro H locs A hP hS hL hV
    obtain rfl := L1 0 rfl
    subst hn
    simp only [ins, op2] at h
    split at h
    · have K := hY _ _ _ _ _ h H locs A hP hS hL (va_ad trivial (va_lt (va_lt hV).2).2)
      first
        | exact lv_iadd F.1 F.2.1 hd K
        | exact lv_isub F.1 F.2.1 hd K
        | exact lv_imul F.1 F.2.1 hd K
        | exact lv_iand F.1 F.2.1 hd K
        | exact lv_ior F.1 F.2.1 hd K
        | exact lv_ixor F.1 F.2.1 hd K
        | exact lv_ishl F.1 F.2.1 hd K
        | exact lv_ishr F.1 F.2.1 hd K
        | exact lv_iushr F.1 F.2.1 hd rfl K
    · exact h.elim
  | idiv | irem =>
    intro H locs A hP hS hL hV
    obtain rfl := L1 0 rfl
    subst hn
    simp only [ins, dv2] at h
    split at h
    · have K := hY _ _ _ _ _ h.2 H locs A hP hS hL (va_ad trivial (va_lt (va_lt hV).2).2)
      first
        | exact lv_idiv F.1 F.2.1 hd h.1 K
        | exact lv_irem F.1 F.2.1 hd h.1 K
    · exact h.elim
  | i2b | i2s =>
    intro H locs A hP hS hL hV
    obtain rfl := L1 0 rfl
    subst hn
    simp only [ins, op1] at h
    split at h
    · have K := hY _ _ _ _ _ h H locs A hP hS hL (va_ad trivial (va_lt hV).2)
      first
        | exact lv_i2b F.1 F.2.1 hd rfl K
        | exact lv_i2s F.1 F.2.1 hd rfl K
    · exact h.elim
  | i2l =>
    intro H locs A hP hS hL hV
    obtain rfl := L1 0 rfl
    subst hn
    simp only [ins] at h
    split at h
    · exact lv_i2l F.1 F.2.1 hd rfl (hY _ _ _ _ _ h H locs A hP hS hL (va_ad trivial (va_lt hV).2))
    · exact h.elim
  | ladd =>
    intro H locs A hP hS hL hV
    obtain rfl := L1 0 rfl
    subst hn
    simp only [ins] at h
    split at h
    · exact lv_ladd F.1 F.2.1 hd (hY _ _ _ _ _ h H locs A hP hS hL (va_ad trivial (va_lt (va_lt hV).2).2))
    · exact h.elim
  | lcmp =>
    intro H locs A hP hS hL hV
    obtain rfl := L1 0 rfl
    subst hn
    simp only [ins] at h
    split at h
    · exact W.lcmp F.1 F.2.1 hd (hY _ _ _ _ _ h H locs A hP hS hL (va_ad trivial (va_lt (va_lt hV).2).2))
    · exact h.elim
  | dup =>
    intro H locs A hP hS hL hV
    obtain rfl := L1 0 rfl
    subst hn
    simp only [ins, dupX] at h
    split at h
    · exact lv_dup F.1 F.2.1 hd rfl (hY _ _ _ _ _ h H locs A hP hS hL (va_ad trivial hV))
    · exact lv_dup F.1 F.2.1 hd rfl (hY _ _ _ _ _ h H locs A hP hS hL (va_ad (va_lt hV).1 hV))
    · exact h.elim
  | dup2 =>
    intro H locs A hP hS hL hV
    obtain rfl := L1 0 rfl
    subst hn
    simp only [ins, dp2X] at h
    split at h
    · exact lv_dup2_11 F.1 F.2.1 hd rfl rfl (hY _ _ _ _ _ h H locs A hP hS hL (va_ad trivial (va_ad (va_lt (va_lt hV).2).1 hV)))
    · exact h.elim
  | pop =>
    intro H locs A hP hS hL hV
    obtain rfl := L1 0 rfl
    subst hn
    simp only [ins] at h
    split at h
    · exact lv_pop F.1 F.2.1 hd rfl (hY _ _ _ _ _ h H locs A hP hS hL (va_lt hV).2)
    · exact h.elim
  | _ => exact False.elim h
theorem stp_ok (hg : GmOK g) (F : Fx g p s m args c cc nL own) (hE : EnvOK g lvl own cc ret E) (hr : meth.sig.returnType = ret) (hlocks : meth.locks = false)
    (hY : ∀ pc ls st f a, Y pc ls st f a → Wp g p e (rmL lvl) s m args below meth c nL (MQ below (PostC g post) args s 0 0 (gA g)) pc ls st f a)
    (h : stp E post Y pc ls st f a) : Wp g p e (rmL lvl) s m args below meth c nL (MQ below (PostC g post) args s 0 0 (gA g)) pc ls st f a := by
  unfold stp at h
  split at h
  · rename_i pc' i len nxt tgt ts iv hen
    obtain ⟨ch, h1, h2, h3⟩ := lk_mem hen
    have h4 := List.all_eq_true.mp (List.all_eq_true.mp hE.1 ch h1) _ h2
    dsimp only at h3
    unfold okE at h4
    simp only [Bool.and_eq_true, Bool.or_eq_true, decide_eq_true_eq] at h4
    obtain ⟨⟨⟨⟨⟨⟨a1, a2⟩, a3⟩, a4⟩, a5⟩, a6⟩, a7⟩ := h4
    rw [h3] at a1 a3 a4 a6
    refine ins_ok hg F hE hr hlocks hY a1 (a2.elim (fun q => Or.inl (Nat.eq_of_beq_eq_true q)) (fun q => Or.inr (Nat.eq_of_beq_eq_true q))) (Nat.eq_of_beq_eq_true a3) (fun o ho => ?_) (fun v hv => ?_) a7 a6 h
    · rw [ho] at a4
      exact of_decide_eq_true a4
    · rw [hv] at a5
      exact of_decide_eq_true a5
  · exact h.elim
theorem sym_ok (hg : GmOK g) (F : Fx g p s m args c cc nL own) (hE : EnvOK g lvl own cc ret E) (hr : meth.sig.returnType = ret) (hlocks : meth.locks = false) (B : List Nat) :
    ∀ (n pc : Nat) (ls : Lcs) (st : List AV) (f : FF) (a : AA), sym E post (Wp g p e (rmL lvl) s m args below meth c nL (MQ below (PostC g post) args s 0 0 (gA g))) B n pc ls st f a → Wp g p e (rmL lvl) s m args below meth c nL (MQ below (PostC g post) args s 0 0 (gA g)) pc ls st f a
  | 0, _, _, _, _, _, h => h
  | n + 1, pc, ls, st, f, a, h => by
    refine stp_ok hg F hE hr hlocks (fun pc' ls' st' f' a' q => ?_) h
    cases hb : inB B pc' with
    | true => rw [hb] at q; exact q
    | false => rw [hb] at q; exact sym_ok hg F hE hr hlocks B n pc' ls' st' f' a' q
end Sound
theorem ent_args (ad : Ky → Nat) : ∀ (av : List AV) (k j : Nat) (v : AV), lget (ent av) j = some v → (k + j, cv ad v) ∈ lv_args k (av.map (cv ad)) ∧ v ∈ av
  | [], _, _, _, h => by cases h
  | .inl x :: r, k, 0, v, h => by
    cases h
    exact ⟨List.mem_cons_self, List.mem_cons_self⟩
  | .inl x :: r, k, j + 1, v, h => by
    obtain ⟨h1, h2⟩ := ent_args ad r (k + 1) j v h
    refine ⟨?_, List.mem_cons_of_mem _ h2⟩
    rw [show k + (j + 1) = k + 1 + j by omega]
    exact List.mem_cons_of_mem _ h1
  | .inr (.inr x) :: r, k, 0, v, h => by
    cases h
    exact ⟨List.mem_cons_self, List.mem_cons_self⟩
  | .inr (.inr x) :: r, k, j + 1, v, h => by
    obtain ⟨h1, h2⟩ := ent_args ad r (k + 1) j v h
    refine ⟨?_, List.mem_cons_of_mem _ h2⟩
    rw [show k + (j + 1) = k + 1 + j by omega]
    exact List.mem_cons_of_mem _ h1
  | .inr (.inl x) :: r, k, 0, v, h => by
    cases h
    exact ⟨List.mem_cons_self, List.mem_cons_self⟩
  | .inr (.inl x) :: r, k, 1, v, h => by cases h
  | .inr (.inl x) :: r, k, j + 2, v, h => by
    obtain ⟨h1, h2⟩ := ent_args ad r (k + 2) j v h
    refine ⟨?_, List.mem_cons_of_mem _ h2⟩
    rw [show k + (j + 2) = k + 2 + j by omega]
    exact List.mem_cons_of_mem _ h1
theorem padL_len : ∀ (n : Nat) (ls : Lcs), (padL n ls).length = n
  | 0, _ => rfl
  | n + 1, [] => congrArg (· + 1) (padL_len n [])
  | n + 1, _ :: r => congrArg (· + 1) (padL_len n r)
theorem padL_get : ∀ (n : Nat) (ls : Lcs) (j : Nat) (v : AV), lget (padL n ls) j = some v → lget ls j = some v
  | 0, _, _, _, h => by cases h
  | n + 1, [], 0, _, h => by cases h
  | n + 1, [], j + 1, v, h => padL_get n [] j v h
  | n + 1, _ :: _, 0, _, h => h
  | n + 1, _ :: r, j + 1, v, h => padL_get n r j v h
theorem ws_good : ∀ w ∈ WS, (w.onTables && w.keeps) = true ∨ ∃ ty, w = .arrayClass ty := fun w h => good_of_word (List.mem_filter.mp h).2
/-- a contract out of a run of the abstract machine -/
theorem MetC_of {g : Gm} (hg : GmOK g) {y : MethodName} {cc : ByteArray} {maxL : Nat} {ret : Option FieldType} {lvl : Nat} {sp : SP} (E : En) (hE : EnvOK g lvl y.cls cc ret E) (hy : plainName y.cls = true) (hsl : ∀ av f a post, sp av f a post → (lg_sl (av.map (cv (gAd g)))).length ≤ maxL)
    (h : ∀ (av : List AV) (f : FF) (a : AA) (post : PT), sp av f a post → ∀ X : XT, Clo E post X → X 0 (padL maxL (ent av)) [] f a) : MetC g y cc maxL ret lvl sp := by
  intro av f a post hav hsp
  refine Met.ofW (cc := cc) (maxL := maxL) (ret := ret) hy rfl ?_
  intro p e s m args below meth c s₁ B hml hv
  obtain ⟨rfl, hP, hG⟩ := hv
  have hts := atoms_spec (ws := Cond.code y cc maxL ret :: WS) B.pre
  have F : Fx g p s m (av.map (cv (gAd g))).toArray c cc maxL y.cls := ⟨B.exec, B.bytes, hml, findClass_of_methodNamed B.named, fun w hw => hts w (List.mem_cons_of_mem _ hw), hG⟩
  have hl := lv_entry (av.map (cv (gAd g))) (n := maxL) (hsl av f a post hsp)
  rw [lg_entry_eq]
  refine h av f a post hsp (Wp g p e (rmL lvl) s m _ below meth c maxL (MQ below (PostC g post) _ s 0 0 (gA g))) (fun Bs n pc ls st f a hh => sym_ok hg F hE B.returns B.notSynchronized Bs n pc ls st f a hh) s.heap [] _ hP va_S.rf ?_ (fun v hv => by cases hv)
  refine ⟨padL_len _ _, _, hl, fun j v hj => ?_⟩
  obtain ⟨h1, h2⟩ := ent_args (gAd g) av 0 j v (padL_get _ _ _ _ hj)
  rw [Nat.zero_add] at h1
  exact ⟨h1, hav v h2⟩
theorem PreC_blind {g : Gm} (hg : GmOK g) (av : List AV) (f : FF) (a : AA) : FrameBlind (PreC g av f a) := fun _ U fr mk q => ⟨q.1, q.2.1, hg.2.2.2.1 U (U.calling fr mk _) (State.WarmedH.refl U) (Nat.le_refl _) (fun _ _ _ => rfl) q.2.2⟩
section Calls2
variable {g : Gm} {p : Program} {e : Env} {lvl : Nat} {s : State} {m : MethodId} {args : Array Value} {below : List Frame} {meth : Method} {c : Code} {cc : ByteArray} {nL : Nat} {own : String} {Qg : State → Prop}
/-- behind a call that keeps a contract -/
theorem callC {H : Heap} {locs : List Loc} {ls : Array Slot} {pc : Nat} {st0 : List Value} {rest : List Value} {Q : PT} {av : Array Value}
    (hr : va_Run p (gL g) e (rmL lvl) s m args below meth c H locs 0 0 0 0 (F0 m pc ls st0) rest (PostC g Q av) (gA g)) (hS : va_S (gA g) s.heap H locs)
    (kk : ∀ (r : Option AV) (f' : FF) (a' : AA) (H1 : Heap) (locs1 : List Loc), Q r f' a' → (∀ v, r = some v → vld v) → gW g f' a' H1 → va_S (gA g) s.heap H1 locs1 → W p (gL g) e (rmL lvl) s m args below meth c H1 locs1 0 0 Qg (F0 m (pc + 3) ls ((r.map (cv (gAd g))).toList ++ rest))) : W p (gL g) e (rmL lvl) s m args below meth c H locs 0 0 Qg (F0 m pc ls st0) := by
  intro T hT X
  obtain ⟨v, st₀, t, T', L, h0, X', hL, e1, e2, ⟨⟨r, f', a', hv, hq, hr, hw⟩, hz, hk⟩, st⟩ := hr T hT X
  cases hv
  rw [h0] at hz hk
  rw [← e1] at hw
  obtain ⟨t2, a1, b1⟩ := kk r f' a' T'.heap (locs ++ L) hq hr hw
    ⟨Nat.le_trans hS.1 (by rw [e1]; exact hz), fun q h1 h2 => by rw [e1, hk q (Nat.lt_of_lt_of_le h1 hS.1) h2]; exact hS.2.1 q h1 h2, fun q hq => by
      rcases List.mem_append.mp hq with h | h
      · exact hS.2.2 q h
      · exact hL q h⟩ T' rfl X'
  exact ⟨t2, st t2 a1, b1⟩
end Calls2
/-- what the tables say of a method that is called -/
def LnkOK (y : MethodName) (cc : ByteArray) (maxL : Nat) (ret : Option FieldType) (n : Nat) : Prop := Cond.code y cc maxL ret ∈ WS ∧ Cond.initialized y.cls ∈ WS ∧ (y.cls ≠ "java/lang/invoke/MethodHandle" ∧ y.cls ≠ "java/lang/invoke/VarHandle") ∧ (parseMethodDescriptor y.desc).map (fun d => d.parameters.length) = some n
theorem callB_w {lvl lvc : Nat} {s : State} {args : Array Value} {own : String} {idx n maxL : Nat} {y : MethodName} {cc : ByteArray} {ret : Option FieldType} (hk : LnkOK y cc maxL ret n) (hts : ∀ w ∈ WS, w.before args s = true) (hl : Cond.methodLink own idx y ∈ WS) (hR : lvc + 1 ≤ lvl ∧ maxL ≤ 16) : CallB (rmL lvl) s args own idx y cc maxL ret (Cond.code y cc maxL ret :: WS) (rmL lvc) 0 0 n := by
  refine callB_of (Ts := WS) n hts (fun w hw => ?_) rfl rfl rfl (hts _ hk.2.1) (hts _ hl) ⟨hk.2.2.1.1, hk.2.2.1.2, hk.2.2.2⟩ ⟨hR.1, ?_⟩
  · rcases List.mem_cons.mp hw with rfl | h
    · exact ⟨hk.1, ws_good _ hk.1⟩
    · exact ⟨h, ws_good _ h⟩
  · show 8 + (maxL + 11) + 35 * lvc ≤ 35 * lvl
    omega
theorem revmap (ad : Ky → Nat) (As rest : List AV) : (As.reverse ++ rest).map (cv ad) = (As.map (cv ad)).reverse ++ rest.map (cv ad) := by
  rw [List.map_append, List.map_reverse]
theorem optmap (ad : Ky → Nat) (r : Option AV) (rest : List AV) : (r.toList ++ rest).map (cv ad) = (r.map (cv ad)).toList ++ rest.map (cv ad) := by
  cases r <;> rfl
/-- an own method, not static -/
theorem callV_ok {g : Gm} (hg : GmOK g) {lvl lvc : Nat} {own : String} {idx n maxL t : Nat} {y : MethodName} {cc : ByteArray} {ret : Option FieldType} {sp : SP} (hM : MetC g y cc maxL ret lvc sp) (hk : LnkOK y cc maxL ret n) (hl : Cond.methodLink own idx y ∈ WS) (hi : Cond.instanceMethod y ∈ WS) (hs : Cond.selects y.cls y y ∈ WS) (hR : lvc + 1 ≤ lvl ∧ maxL ≤ 16)
    (hcl : ∃ T N, vwCl[t]? = some (y.cls, T, N)) (hsp : ∀ As f a Q, sp As f a Q → ∃ i r, As = .inr (.inr (t, i, 0)) :: r) : CallOK g lvl own idx false (n + 1) sp := by
  intro p e s m args below meth c cc' nL Qg H locs ls pc As rest f a Q hx hb hml hown hts hG hP hS hsz hc hlen hV hd hq kk
  obtain ⟨i, r, rfl⟩ := hsp As f a Q hq
  obtain ⟨T, N, hcl⟩ := hcl
  have hks : (t, i, 0) ∈ KS := ks_has (hV _ List.mem_cons_self) (cl_n hcl).1
  obtain ⟨q0, -, hq0⟩ := cells_at (ad := gAd g) (cy := gCy g) f a hks
  have hrec := va_recv (hg.2.2.1 s hG) hP hcl hq0
  have cw : CallW (rmL lvl) s args own y.cls idx y cc maxL ret (Cond.code y cc maxL ret :: WS) (rmL lvc) 0 0 n := ⟨callB_w hk hts hl hR, hts _ hi, hts _ hs⟩
  have hp : PreV s H y.cls (gAd g (t, i, 0)) (PreC g (.inr (.inr (t, i, 0)) :: r) f a) (r.map (cv (gAd g))) := ⟨PreC_blind hg _ f a, hrec, fun U hU hW => ⟨rfl, by rw [hU]; exact hP, hg.2.2.2.1 s U hW (by rw [hU]; exact hS.1) (fun q h1 h2 => by rw [hU]; exact hS.2.1 q h1 h2) hG⟩⟩
  have hM1 := hM _ f a Q hV hq
  have hst : (F0 m pc ls ((((Sum.inr (Sum.inr (t, i, 0)) : AV) :: r).reverse ++ rest).map (cv (gAd g)))).stack = (r.map (cv (gAd g))).reverse ++ .ref (gAd g (t, i, 0)) :: rest.map (cv (gAd g)) := by
    show List.map (cv (gAd g)) ((((Sum.inr (Sum.inr (t, i, 0)) : AV) :: r).reverse ++ rest)) = _
    rw [List.reverse_cons, List.append_assoc, List.map_append, List.map_reverse]
    rfl
  refine callC (va_runV (As := r.map (cv (gAd g))) (rest := rest.map (cv (gAd g))) ⟨hx, hb, hml, hown, hts⟩ hM1 cw hp rfl ?_ hsz hst (lv_room (by rw [cats_sum]; exact hc)) hd ⟨Nat.zero_le _, Nat.zero_le _⟩) hS ?_
  · rw [List.length_map]
    exact Nat.succ.inj hlen
  · intro r' f' a' H1 locs1 h1 h2 h3 h4
    rw [← optmap]
    exact kk r' f' a' H1 locs1 h1 h2 h3 h4
/-- an own static method -/
theorem callS_ok {g : Gm} (hg : GmOK g) {lvl lvc : Nat} {own : String} {idx n maxL : Nat} {y : MethodName} {cc : ByteArray} {ret : Option FieldType} {sp : SP} (hM : MetC g y cc maxL ret lvc sp) (hk : LnkOK y cc maxL ret n) (hl : Cond.methodLink own idx y ∈ WS) (hs : Cond.static y ∈ WS) (hR : lvc + 1 ≤ lvl ∧ maxL ≤ 16) : CallOK g lvl own idx true n sp := by
  intro p e s m args below meth c cc' nL Qg H locs ls pc As rest f a Q hx hb hml hown hts hG hP hS hsz hc hlen hV hd hq kk
  have hp : PreS s H (PreC g As f a) (As.map (cv (gAd g))) := ⟨PreC_blind hg _ f a, fun U hU hW => ⟨rfl, by rw [hU]; exact hP, hg.2.2.2.1 s U hW (by rw [hU]; exact hS.1) (fun q h1 h2 => by rw [hU]; exact hS.2.1 q h1 h2) hG⟩⟩
  refine callC (va_runS (As := As.map (cv (gAd g))) (rest := rest.map (cv (gAd g))) ⟨hx, hb, hml, hown, hts⟩ (hM _ f a Q hV hq) ⟨callB_w hk hts hl hR, hts _ hs⟩ hp rfl ?_ hsz (revmap _ _ _) (lv_room (by rw [cats_sum]; exact hc)) hd ⟨Nat.zero_le _, Nat.zero_le _⟩) hS ?_
  · rw [List.length_map]
    exact hlen
  · intro r' f' a' H1 locs1 h1 h2 h3 h4
    rw [← optmap]
    exact kk r' f' a' H1 locs1 h1 h2 h3 h4
/-- a static method of a nest mate -/
theorem callN_ok {g : Gm} (hg : GmOK g) {lvl lvc : Nat} {own host : String} {idx n maxL : Nat} {y : MethodName} {cc : ByteArray} {ret : Option FieldType} {sp : SP} (hM : MetC g y cc maxL ret lvc sp) (hk : LnkOK y cc maxL ret n) (hl : ∀ U, gG g U → va_Nw (.methodLinkNest own idx y host) U) (hs : Cond.static y ∈ WS) (hR : lvc + 1 ≤ lvl ∧ maxL ≤ 16) : CallOK g lvl own idx true n sp := by
  intro p e s m args below meth c cc' nL Qg H locs ls pc As rest f a Q hx hb hml hown hts hG hP hS hsz hc hlen hV hd hq kk
  have hp : PreS s H (PreC g As f a) (As.map (cv (gAd g))) := ⟨PreC_blind hg _ f a, fun U hU hW => ⟨rfl, by rw [hU]; exact hP, hg.2.2.2.1 s U hW (by rw [hU]; exact hS.1) (fun q h1 h2 => by rw [hU]; exact hS.2.1 q h1 h2) hG⟩⟩
  have cn : va_CN (rmL lvl) s args own idx y host cc maxL ret (Cond.code y cc maxL ret :: WS) (rmL lvc) 0 0 n := by
    refine va_cnB (Ts := WS) n hts (fun w hw => ?_) rfl rfl rfl (hl s hG) (hts _ hk.2.1) ⟨hk.2.2.1.1, hk.2.2.1.2, hk.2.2.2⟩ ⟨hR.1, ?_⟩
    · rcases List.mem_cons.mp hw with rfl | h
      · exact ⟨hk.1, ws_good _ hk.1⟩
      · exact ⟨h, ws_good _ h⟩
    · show 8 + (maxL + 11) + 35 * lvc ≤ 35 * lvl
      omega
  refine callC (va_runSN (As := As.map (cv (gAd g))) (rest := rest.map (cv (gAd g))) ⟨hx, hb, hml, hown, hts⟩ (hM _ f a Q hV hq) ⟨cn, hts _ hs, trivial⟩ hp rfl ?_ hsz (revmap _ _ _) (lv_room (by rw [cats_sum]; exact hc)) hd ⟨Nat.zero_le _, Nat.zero_le _⟩) hS ?_
  · rw [List.length_map]
    exact hlen
  · intro r' f' a' H1 locs1 h1 h2 h3 h4
    rw [← optmap]
    exact kk r' f' a' H1 locs1 h1 h2 h3 h4
end
section
def tX0_close : List (Nat × List Et) := [(14, [(0, .aload_n 0, 1, 1, 0, [], 0), (1, .invokevirtual 42, 3, 4, 0, [], 0), (4, .iconst 0, 1, 5, 0, [], 0), (5, .istore_n 3, 1, 6, 0, [], 0), (6, .iload_n 3, 1, 7, 0, [], 0), (7, .aload_n 1, 1, 8, 0, [], 0), (8, .getfield 45, 3, 11, 0, [], 0), (11, .if_icmp .ge 38, 3, 14, 49, [], 0), (14, .aload_n 0, 1, 15, 0, [], 0)]),
  (27, [(15, .getfield 18, 3, 18, 0, [], 0), (18, .iload_n 3, 1, 19, 0, [], 0), (19, .aload_n 0, 1, 20, 0, [], 0), (20, .aload_n 1, 1, 21, 0, [], 0), (21, .getfield 51, 3, 24, 0, [], 0), (24, .iload_n 3, 1, 25, 0, [], 0), (25, .iaload, 1, 26, 0, [], 0), (26, .aload_n 1, 1, 27, 0, [], 0), (27, .getfield 54, 3, 30, 0, [], 0)]),
  (42, [(30, .iload_n 3, 1, 31, 0, [], 0), (31, .iaload, 1, 32, 0, [], 0), (32, .aload_n 1, 1, 33, 0, [], 0), (33, .iload_n 3, 1, 34, 0, [], 0), (34, .invokevirtual 57, 3, 37, 0, [], 0), (37, .iconst (-1), 1, 38, 0, [], (-1)), (38, .iload_n 3, 1, 39, 0, [], 0), (39, .invokevirtual 61, 3, 42, 0, [], 0), (42, .iastore, 1, 43, 0, [], 0)]),
  (59, [(43, .iinc 3 1, 3, 46, 0, [], 1), (46, .goto (-40), 3, 49, 6, [], 0), (49, .iconst 0, 1, 50, 0, [], 0), (50, .istore_n 3, 1, 51, 0, [], 0), (51, .iload_n 3, 1, 52, 0, [], 0), (52, .aload_n 0, 1, 53, 0, [], 0), (53, .getfield 65, 3, 56, 0, [], 0), (56, .if_icmp .ge 106, 3, 59, 162, [], 0), (59, .iload_n 3, 1, 60, 0, [], 0)]),
  (78, [(60, .sipush 729, 3, 63, 0, [], 729), (63, .if_icmp .ge 99, 3, 66, 162, [], 0), (66, .iload_n 2, 1, 67, 0, [], 0), (67, .ifCond .eq 11, 3, 70, 78, [], 0), (70, .aload_n 0, 1, 71, 0, [], 0), (71, .getfield 68, 3, 74, 0, [], 0), (74, .ifCond .le 4, 3, 77, 78, [], 0), (77, .return_, 1, 78, 0, [], 0), (78, .iconst 0, 1, 79, 0, [], 0)]),
  (96, [(79, .istore 4, 2, 81, 0, [], 0), (81, .iload 4, 2, 83, 0, [], 0), (83, .aload_n 1, 1, 84, 0, [], 0), (84, .getfield 45, 3, 87, 0, [], 0), (87, .if_icmp .ge 69, 3, 90, 156, [], 0), (90, .aload_n 1, 1, 91, 0, [], 0), (91, .getfield 51, 3, 94, 0, [], 0), (94, .iload 4, 2, 96, 0, [], 0), (96, .iaload, 1, 97, 0, [], 0)]),
  (111, [(97, .aload_n 0, 1, 98, 0, [], 0), (98, .iload_n 3, 1, 99, 0, [], 0), (99, .invokevirtual 71, 3, 102, 0, [], 0), (102, .if_icmp .ne 48, 3, 105, 150, [], 0), (105, .aload_n 0, 1, 106, 0, [], 0), (106, .getfield 11, 3, 109, 0, [], 0), (109, .iload_n 3, 1, 110, 0, [], 0), (110, .iaload, 1, 111, 0, [], 0), (111, .aload_n 0, 1, 112, 0, [], 0)]),
  (128, [(112, .getfield 11, 3, 115, 0, [], 0), (115, .aload_n 0, 1, 116, 0, [], 0), (116, .getfield 18, 3, 119, 0, [], 0), (119, .iload 4, 2, 121, 0, [], 0), (121, .iaload, 1, 122, 0, [], 0), (122, .iaload, 1, 123, 0, [], 0), (123, .invokestatic 74, 3, 126, 0, [], 0), (126, .istore 5, 2, 128, 0, [], 0), (128, .aload_n 0, 1, 129, 0, [], 0)]),
  (143, [(129, .aload_n 0, 1, 130, 0, [], 0), (130, .iload_n 3, 1, 131, 0, [], 0), (131, .invokevirtual 78, 3, 134, 0, [], 0), (134, .aload_n 1, 1, 135, 0, [], 0), (135, .getfield 54, 3, 138, 0, [], 0), (138, .iload 4, 2, 140, 0, [], 0), (140, .iaload, 1, 141, 0, [], 0), (141, .iload 5, 2, 143, 0, [], 0), (143, .iload_n 3, 1, 144, 0, [], 0)]),
  (162, [(144, .iload 4, 2, 146, 0, [], 0), (146, .invokevirtual 61, 3, 149, 0, [], 0), (149, .pop, 1, 150, 0, [], 0), (150, .iinc 4 1, 3, 153, 0, [], 1), (153, .goto (-72), 3, 156, 81, [], 0), (156, .iinc 3 1, 3, 159, 0, [], 1), (159, .goto (-108), 3, 162, 51, [], 0), (162, .return_, 1, 163, 0, [], 0)])]
set_option maxRecDepth 100000 in
theorem okX0_close : okT cX0_close tX0_close = true := by decide +kernel
def tX0_forget : List (Nat × List Et) := [(14, [(0, .aload_n 0, 1, 1, 0, [], 0), (1, .iconst 0, 1, 2, 0, [], 0), (2, .putfield 65, 3, 5, 0, [], 0), (5, .aload_n 0, 1, 6, 0, [], 0), (6, .iconst 0, 1, 7, 0, [], 0), (7, .putfield 68, 3, 10, 0, [], 0), (10, .aload_n 0, 1, 11, 0, [], 0), (11, .getfield 36, 3, 14, 0, [], 0), (14, .iconst (-1), 1, 15, 0, [], (-1))]),
  (26, [(15, .invokestatic 81, 3, 18, 0, [], 0), (18, .aload_n 0, 1, 19, 0, [], 0), (19, .getfield 21, 3, 22, 0, [], 0), (22, .iconst 0, 1, 23, 0, [], 0), (23, .invokestatic 81, 3, 26, 0, [], 0), (26, .return_, 1, 27, 0, [], 0)])]
set_option maxRecDepth 100000 in
theorem okX0_forget : okT cX0_forget tX0_forget = true := by decide +kernel
def tX0_meet : List (Nat × List Et) := [(15, [(0, .iload_n 1, 1, 1, 0, [], 0), (1, .iload_n 2, 1, 2, 0, [], 0), (2, .iload_n 3, 1, 3, 0, [], 0), (3, .invokestatic 87, 3, 6, 0, [], 0), (6, .invokestatic 90, 3, 9, 0, [], 0), (9, .istore 6, 2, 11, 0, [], 0), (11, .aload_n 0, 1, 12, 0, [], 0), (12, .getfield 36, 3, 15, 0, [], 0), (15, .iload 6, 2, 17, 0, [], 0)]),
  (30, [(17, .iaload, 1, 18, 0, [], 0), (18, .ifCond .lt 11, 3, 21, 29, [], 0), (21, .aload_n 0, 1, 22, 0, [], 0), (22, .getfield 36, 3, 25, 0, [], 0), (25, .iload 6, 2, 27, 0, [], 0), (27, .iaload, 1, 28, 0, [], 0), (28, .ireturn, 1, 29, 0, [], 0), (29, .aload_n 0, 1, 30, 0, [], 0), (30, .getfield 65, 3, 33, 0, [], 0)]),
  (46, [(33, .istore 7, 2, 35, 0, [], 0), (35, .aload_n 0, 1, 36, 0, [], 0), (36, .dup, 1, 37, 0, [], 0), (37, .getfield 65, 3, 40, 0, [], 0), (40, .iconst 1, 1, 41, 0, [], 1), (41, .iadd, 1, 42, 0, [], 0), (42, .putfield 65, 3, 45, 0, [], 0), (45, .aload_n 0, 1, 46, 0, [], 0), (46, .getfield 36, 3, 49, 0, [], 0)]),
  (62, [(49, .iload 6, 2, 51, 0, [], 0), (51, .iload 7, 2, 53, 0, [], 0), (53, .iastore, 1, 54, 0, [], 0), (54, .aload_n 0, 1, 55, 0, [], 0), (55, .getfield 11, 3, 58, 0, [], 0), (58, .iload 7, 2, 60, 0, [], 0), (60, .iload_n 3, 1, 61, 0, [], 0), (61, .iastore, 1, 62, 0, [], 0), (62, .aload_n 0, 1, 63, 0, [], 0)]),
  (74, [(63, .getfield 24, 3, 66, 0, [], 0), (66, .iload 7, 2, 68, 0, [], 0), (68, .iconst 3, 1, 69, 0, [], 3), (69, .iload_n 1, 1, 70, 0, [], 0), (70, .imul, 1, 71, 0, [], 0), (71, .iload_n 2, 1, 72, 0, [], 0), (72, .iadd, 1, 73, 0, [], 0), (73, .iastore, 1, 74, 0, [], 0), (74, .aload_n 0, 1, 75, 0, [], 0)]),
  (91, [(75, .getfield 27, 3, 78, 0, [], 0), (78, .iload 7, 2, 80, 0, [], 0), (80, .iload 4, 2, 82, 0, [], 0), (82, .iastore, 1, 83, 0, [], 0), (83, .aload_n 0, 1, 84, 0, [], 0), (84, .getfield 30, 3, 87, 0, [], 0), (87, .iload 7, 2, 89, 0, [], 0), (89, .iload 5, 2, 91, 0, [], 0), (91, .iastore, 1, 92, 0, [], 0)]),
  (108, [(92, .aload_n 0, 1, 93, 0, [], 0), (93, .getfield 15, 3, 96, 0, [], 0), (96, .iload 7, 2, 98, 0, [], 0), (98, .iload 4, 2, 100, 0, [], 0), (100, .ifCond .ge 7, 3, 103, 107, [], 0), (103, .iconst 1, 1, 104, 0, [], 1), (104, .goto 12, 3, 107, 116, [], 0), (107, .aload_n 0, 1, 108, 0, [], 0), (108, .getfield 15, 3, 111, 0, [], 0)]),
  (123, [(111, .iload 4, 2, 113, 0, [], 0), (113, .iaload, 1, 114, 0, [], 0), (114, .iconst 1, 1, 115, 0, [], 1), (115, .iadd, 1, 116, 0, [], 0), (116, .iastore, 1, 117, 0, [], 0), (117, .aload_n 0, 1, 118, 0, [], 0), (118, .getfield 33, 3, 121, 0, [], 0), (121, .iload 7, 2, 123, 0, [], 0), (123, .iconst 1, 1, 124, 0, [], 1)]),
  (140, [(124, .iload 5, 2, 126, 0, [], 0), (126, .ishl, 1, 127, 0, [], 0), (127, .iload 4, 2, 129, 0, [], 0), (129, .ifCond .ge 7, 3, 132, 136, [], 0), (132, .iconst 0, 1, 133, 0, [], 0), (133, .goto 10, 3, 136, 143, [], 0), (136, .aload_n 0, 1, 137, 0, [], 0), (137, .getfield 33, 3, 140, 0, [], 0), (140, .iload 4, 2, 142, 0, [], 0)]),
  (152, [(142, .iaload, 1, 143, 0, [], 0), (143, .ior, 1, 144, 0, [], 0), (144, .iastore, 1, 145, 0, [], 0), (145, .aload_n 0, 1, 146, 0, [], 0), (146, .getfield 21, 3, 149, 0, [], 0), (149, .iload_n 1, 1, 150, 0, [], 0), (150, .dup2, 1, 151, 0, [], 0), (151, .iaload, 1, 152, 0, [], 0), (152, .iconst 1, 1, 153, 0, [], 1)]),
  (163, [(153, .iload_n 2, 1, 154, 0, [], 0), (154, .ishl, 1, 155, 0, [], 0), (155, .ior, 1, 156, 0, [], 0), (156, .iastore, 1, 157, 0, [], 0), (157, .aload_n 0, 1, 158, 0, [], 0), (158, .dup, 1, 159, 0, [], 0), (159, .getfield 68, 3, 162, 0, [], 0), (162, .aload_n 0, 1, 163, 0, [], 0), (163, .iload 7, 2, 165, 0, [], 0)]),
  (177, [(165, .invokevirtual 94, 3, 168, 0, [], 0), (168, .invokestatic 98, 3, 171, 0, [], 0), (171, .iadd, 1, 172, 0, [], 0), (172, .putfield 68, 3, 175, 0, [], 0), (175, .iload 7, 2, 177, 0, [], 0), (177, .ireturn, 1, 178, 0, [], 0)])]
set_option maxRecDepth 100000 in
theorem okX0_meet : okT cX0_meet tX0_meet = true := by decide +kernel
def tX0_codeOf : List (Nat × List Et) := [(13, [(0, .getstatic 39, 3, 3, 0, [], 0), (3, .iload_n 0, 1, 4, 0, [], 0), (4, .bipush 15, 2, 6, 0, [], 15), (6, .iand, 1, 7, 0, [], 0), (7, .iaload, 1, 8, 0, [], 0), (8, .getstatic 39, 3, 11, 0, [], 0), (11, .iload_n 0, 1, 12, 0, [], 0), (12, .iconst 4, 1, 13, 0, [], 4), (13, .ishr, 1, 14, 0, [], 0)]),
  (19, [(14, .bipush 15, 2, 16, 0, [], 15), (16, .iand, 1, 17, 0, [], 0), (17, .iaload, 1, 18, 0, [], 0), (18, .iadd, 1, 19, 0, [], 0), (19, .ireturn, 1, 20, 0, [], 0)])]
set_option maxRecDepth 100000 in
theorem okX0_codeOf : okT cX0_codeOf tX0_codeOf = true := by decide +kernel
def tX0_placeOf : List (Nat × List Et) := [(9, [(0, .iconst 3, 1, 1, 0, [], 3), (1, .iload_n 0, 1, 2, 0, [], 0), (2, .imul, 1, 3, 0, [], 0), (3, .iload_n 1, 1, 4, 0, [], 0), (4, .iadd, 1, 5, 0, [], 0), (5, .bipush 81, 2, 7, 0, [], 81), (7, .imul, 1, 8, 0, [], 0), (8, .iload_n 2, 1, 9, 0, [], 0), (9, .iadd, 1, 10, 0, [], 0)]),
  (10, [(10, .ireturn, 1, 11, 0, [], 0)])]
set_option maxRecDepth 100000 in
theorem okX0_placeOf : okT cX0_placeOf tX0_placeOf = true := by decide +kernel
def tX0_isLoop : List (Nat × List Et) := [(16, [(0, .aload_n 0, 1, 1, 0, [], 0), (1, .iload_n 1, 1, 2, 0, [], 0), (2, .invokevirtual 102, 3, 5, 0, [], 0), (5, .ifCond .ne 15, 3, 8, 20, [], 0), (8, .aload_n 0, 1, 9, 0, [], 0), (9, .iload_n 1, 1, 10, 0, [], 0), (10, .invokevirtual 105, 3, 13, 0, [], 0), (13, .ifCond .eq 7, 3, 16, 20, [], 0), (16, .iconst 1, 1, 17, 0, [], 1)]),
  (21, [(17, .goto 4, 3, 20, 21, [], 0), (20, .iconst 0, 1, 21, 0, [], 0), (21, .ireturn, 1, 22, 0, [], 0)])]
set_option maxRecDepth 100000 in
theorem okX0_isLoop : okT cX0_isLoop tX0_isLoop = true := by decide +kernel
def tX0_fallsIn : List (Nat × List Et) := [(10, [(0, .aload_n 0, 1, 1, 0, [], 0), (1, .getfield 11, 3, 4, 0, [], 0), (4, .iload_n 1, 1, 5, 0, [], 0), (5, .iaload, 1, 6, 0, [], 0), (6, .iconst 4, 1, 7, 0, [], 4), (7, .ishr, 1, 8, 0, [], 0), (8, .iconst 1, 1, 9, 0, [], 1), (9, .iand, 1, 10, 0, [], 0), (10, .aload_n 0, 1, 11, 0, [], 0)]),
  (22, [(11, .getfield 11, 3, 14, 0, [], 0), (14, .iload_n 1, 1, 15, 0, [], 0), (15, .iaload, 1, 16, 0, [], 0), (16, .bipush 6, 2, 18, 0, [], 6), (18, .ishr, 1, 19, 0, [], 0), (19, .iconst 2, 1, 20, 0, [], 2), (20, .iand, 1, 21, 0, [], 0), (21, .ior, 1, 22, 0, [], 0), (22, .ireturn, 1, 23, 0, [], 0)])]
set_option maxRecDepth 100000 in
theorem okX0_fallsIn : okT cX0_fallsIn tX0_fallsIn = true := by decide +kernel
def tX0_isIdle : List (Nat × List Et) := [(14, [(0, .aload_n 0, 1, 1, 0, [], 0), (1, .iload_n 1, 1, 2, 0, [], 0), (2, .invokevirtual 78, 3, 5, 0, [], 0), (5, .aload_n 0, 1, 6, 0, [], 0), (6, .iload_n 1, 1, 7, 0, [], 0), (7, .invokevirtual 71, 3, 10, 0, [], 0), (10, .if_icmp .ne 31, 3, 13, 41, [], 0), (13, .aload_n 0, 1, 14, 0, [], 0), (14, .getfield 11, 3, 17, 0, [], 0)]),
  (29, [(17, .iload_n 1, 1, 18, 0, [], 0), (18, .iaload, 1, 19, 0, [], 0), (19, .aload_n 0, 1, 20, 0, [], 0), (20, .getfield 11, 3, 23, 0, [], 0), (23, .iload_n 1, 1, 24, 0, [], 0), (24, .iaload, 1, 25, 0, [], 0), (25, .invokestatic 74, 3, 28, 0, [], 0), (28, .aload_n 0, 1, 29, 0, [], 0), (29, .getfield 11, 3, 32, 0, [], 0)]),
  (42, [(32, .iload_n 1, 1, 33, 0, [], 0), (33, .iaload, 1, 34, 0, [], 0), (34, .if_icmp .ne 7, 3, 37, 41, [], 0), (37, .iconst 1, 1, 38, 0, [], 1), (38, .goto 4, 3, 41, 42, [], 0), (41, .iconst 0, 1, 42, 0, [], 0), (42, .ireturn, 1, 43, 0, [], 0)])]
set_option maxRecDepth 100000 in
theorem okX0_isIdle : okT cX0_isIdle tX0_isIdle = true := by decide +kernel
def tX0_fromOf : List (Nat × List Et) := [(8, [(0, .aload_n 0, 1, 1, 0, [], 0), (1, .getfield 24, 3, 4, 0, [], 0), (4, .iload_n 1, 1, 5, 0, [], 0), (5, .iaload, 1, 6, 0, [], 0), (6, .iconst 3, 1, 7, 0, [], 3), (7, .idiv, 1, 8, 0, [], 0), (8, .ireturn, 1, 9, 0, [], 0)])]
set_option maxRecDepth 100000 in
theorem okX0_fromOf : okT cX0_fromOf tX0_fromOf = true := by decide +kernel
def tX0_toOf : List (Nat × List Et) := [(8, [(0, .aload_n 0, 1, 1, 0, [], 0), (1, .getfield 24, 3, 4, 0, [], 0), (4, .iload_n 1, 1, 5, 0, [], 0), (5, .iaload, 1, 6, 0, [], 0), (6, .iconst 3, 1, 7, 0, [], 3), (7, .irem, 1, 8, 0, [], 0), (8, .ireturn, 1, 9, 0, [], 0)])]
set_option maxRecDepth 100000 in
theorem okX0_toOf : okT cX0_toOf tX0_toOf = true := by decide +kernel
def tX0_composed : List (Nat × List Et) := [(10, [(0, .iconst 0, 1, 1, 0, [], 0), (1, .istore_n 2, 1, 2, 0, [], 0), (2, .iconst 0, 1, 3, 0, [], 0), (3, .istore_n 3, 1, 4, 0, [], 0), (4, .iload_n 3, 1, 5, 0, [], 0), (5, .iconst 2, 1, 6, 0, [], 2), (6, .if_icmp .ge 81, 3, 9, 87, [], 0), (9, .iconst 0, 1, 10, 0, [], 0), (10, .istore 4, 2, 12, 0, [], 0)]),
  (24, [(12, .iload 4, 2, 14, 0, [], 0), (14, .iconst 2, 1, 15, 0, [], 2), (15, .if_icmp .ge 66, 3, 18, 81, [], 0), (18, .iload_n 0, 1, 19, 0, [], 0), (19, .iconst 2, 1, 20, 0, [], 2), (20, .iload_n 3, 1, 21, 0, [], 0), (21, .imul, 1, 22, 0, [], 0), (22, .iload 4, 2, 24, 0, [], 0), (24, .iadd, 1, 25, 0, [], 0)]),
  (37, [(25, .ishr, 1, 26, 0, [], 0), (26, .istore 5, 2, 28, 0, [], 0), (28, .iload 5, 2, 30, 0, [], 0), (30, .iconst 1, 1, 31, 0, [], 1), (31, .iand, 1, 32, 0, [], 0), (32, .ifCond .eq 43, 3, 35, 75, [], 0), (35, .iload_n 1, 1, 36, 0, [], 0), (36, .iconst 2, 1, 37, 0, [], 2), (37, .iload 4, 2, 39, 0, [], 0)]),
  (51, [(39, .imul, 1, 40, 0, [], 0), (40, .ishr, 1, 41, 0, [], 0), (41, .bipush 51, 2, 43, 0, [], 51), (43, .iand, 1, 44, 0, [], 0), (44, .istore 6, 2, 46, 0, [], 0), (46, .iload 5, 2, 48, 0, [], 0), (48, .bipush 16, 2, 50, 0, [], 16), (50, .iand, 1, 51, 0, [], 0), (51, .ifCond .eq 15, 3, 54, 66, [], 0)]),
  (66, [(54, .iload 6, 2, 56, 0, [], 0), (56, .iload 6, 2, 58, 0, [], 0), (58, .iconst 4, 1, 59, 0, [], 4), (59, .ishl, 1, 60, 0, [], 0), (60, .bipush 51, 2, 62, 0, [], 51), (62, .iand, 1, 63, 0, [], 0), (63, .ior, 1, 64, 0, [], 0), (64, .istore 6, 2, 66, 0, [], 0), (66, .iload_n 2, 1, 67, 0, [], 0)]),
  (78, [(67, .iload 6, 2, 69, 0, [], 0), (69, .iconst 2, 1, 70, 0, [], 2), (70, .iload_n 3, 1, 71, 0, [], 0), (71, .imul, 1, 72, 0, [], 0), (72, .ishl, 1, 73, 0, [], 0), (73, .ior, 1, 74, 0, [], 0), (74, .istore_n 2, 1, 75, 0, [], 0), (75, .iinc 4 1, 3, 78, 0, [], 1), (78, .goto (-66), 3, 81, 12, [], 0)]),
  (88, [(81, .iinc 3 1, 3, 84, 0, [], 1), (84, .goto (-80), 3, 87, 4, [], 0), (87, .iload_n 2, 1, 88, 0, [], 0), (88, .ireturn, 1, 89, 0, [], 0)])]
set_option maxRecDepth 100000 in
theorem okX0_composed : okT cX0_composed tX0_composed = true := by decide +kernel
def tX0_idleOnes : List (Nat × List Et) := [(12, [(0, .iconst 0, 1, 1, 0, [], 0), (1, .istore_n 1, 1, 2, 0, [], 0), (2, .iconst 0, 1, 3, 0, [], 0), (3, .istore_n 2, 1, 4, 0, [], 0), (4, .iload_n 2, 1, 5, 0, [], 0), (5, .aload_n 0, 1, 6, 0, [], 0), (6, .getfield 65, 3, 9, 0, [], 0), (9, .if_icmp .ge 20, 3, 12, 29, [], 0), (12, .iload_n 1, 1, 13, 0, [], 0)]),
  (29, [(13, .aload_n 0, 1, 14, 0, [], 0), (14, .iload_n 2, 1, 15, 0, [], 0), (15, .invokevirtual 105, 3, 18, 0, [], 0), (18, .invokestatic 98, 3, 21, 0, [], 0), (21, .iadd, 1, 22, 0, [], 0), (22, .istore_n 1, 1, 23, 0, [], 0), (23, .iinc 2 1, 3, 26, 0, [], 1), (26, .goto (-22), 3, 29, 4, [], 0), (29, .iload_n 1, 1, 30, 0, [], 0)]),
  (30, [(30, .ireturn, 1, 31, 0, [], 0)])]
set_option maxRecDepth 100000 in
theorem okX0_idleOnes : okT cX0_idleOnes tX0_idleOnes = true := by decide +kernel
def tX0_componentsBelow : List (Nat × List Et) := [(10, [(0, .iconst 0, 1, 1, 0, [], 0), (1, .istore_n 2, 1, 2, 0, [], 0), (2, .iconst 0, 1, 3, 0, [], 0), (3, .istore_n 3, 1, 4, 0, [], 0), (4, .iload_n 3, 1, 5, 0, [], 0), (5, .iload_n 1, 1, 6, 0, [], 0), (6, .if_icmp .ge 29, 3, 9, 35, [], 0), (9, .iload_n 2, 1, 10, 0, [], 0), (10, .aload_n 0, 1, 11, 0, [], 0)]),
  (27, [(11, .iload_n 3, 1, 12, 0, [], 0), (12, .invokevirtual 115, 3, 15, 0, [], 0), (15, .iload_n 3, 1, 16, 0, [], 0), (16, .if_icmp .ne 7, 3, 19, 23, [], 0), (19, .iconst 1, 1, 20, 0, [], 1), (20, .goto 4, 3, 23, 24, [], 0), (23, .iconst 0, 1, 24, 0, [], 0), (24, .invokestatic 98, 3, 27, 0, [], 0), (27, .iadd, 1, 28, 0, [], 0)]),
  (36, [(28, .istore_n 2, 1, 29, 0, [], 0), (29, .iinc 3 1, 3, 32, 0, [], 1), (32, .goto (-28), 3, 35, 4, [], 0), (35, .iload_n 2, 1, 36, 0, [], 0), (36, .ireturn, 1, 37, 0, [], 0)])]
set_option maxRecDepth 100000 in
theorem okX0_componentsBelow : okT cX0_componentsBelow tX0_componentsBelow = true := by decide +kernel
def tX0_firstOfComponent : List (Nat × List Et) := [(10, [(0, .iconst 0, 1, 1, 0, [], 0), (1, .istore_n 2, 1, 2, 0, [], 0), (2, .iload_n 2, 1, 3, 0, [], 0), (3, .iload_n 1, 1, 4, 0, [], 0), (4, .if_icmp .ge 20, 3, 7, 24, [], 0), (7, .aload_n 0, 1, 8, 0, [], 0), (8, .iload_n 1, 1, 9, 0, [], 0), (9, .iload_n 2, 1, 10, 0, [], 0), (10, .invokevirtual 111, 3, 13, 0, [], 0)]),
  (25, [(13, .ifCond .eq 5, 3, 16, 18, [], 0), (16, .iload_n 2, 1, 17, 0, [], 0), (17, .ireturn, 1, 18, 0, [], 0), (18, .iinc 2 1, 3, 21, 0, [], 1), (21, .goto (-19), 3, 24, 2, [], 0), (24, .iload_n 1, 1, 25, 0, [], 0), (25, .ireturn, 1, 26, 0, [], 0)])]
set_option maxRecDepth 100000 in
theorem okX0_firstOfComponent : okT cX0_firstOfComponent tX0_firstOfComponent = true := by decide +kernel
def tX0_isTogether : List (Nat × List Et) := [(12, [(0, .iload_n 1, 1, 1, 0, [], 0), (1, .iload_n 2, 1, 2, 0, [], 0), (2, .if_icmp .eq 25, 3, 5, 27, [], 0), (5, .aload_n 0, 1, 6, 0, [], 0), (6, .getfield 21, 3, 9, 0, [], 0), (9, .iload_n 1, 1, 10, 0, [], 0), (10, .iaload, 1, 11, 0, [], 0), (11, .iload_n 2, 1, 12, 0, [], 0), (12, .ishr, 1, 13, 0, [], 0)]),
  (23, [(13, .aload_n 0, 1, 14, 0, [], 0), (14, .getfield 21, 3, 17, 0, [], 0), (17, .iload_n 2, 1, 18, 0, [], 0), (18, .iaload, 1, 19, 0, [], 0), (19, .iload_n 1, 1, 20, 0, [], 0), (20, .ishr, 1, 21, 0, [], 0), (21, .iand, 1, 22, 0, [], 0), (22, .iconst 1, 1, 23, 0, [], 1), (23, .iand, 1, 24, 0, [], 0)]),
  (32, [(24, .ifCond .eq 7, 3, 27, 31, [], 0), (27, .iconst 1, 1, 28, 0, [], 1), (28, .goto 4, 3, 31, 32, [], 0), (31, .iconst 0, 1, 32, 0, [], 0), (32, .ireturn, 1, 33, 0, [], 0)])]
set_option maxRecDepth 100000 in
theorem okX0_isTogether : okT cX0_isTogether tX0_isTogether = true := by decide +kernel
def tX0_neededOnes : List (Nat × List Et) := [(12, [(0, .iconst 0, 1, 1, 0, [], 0), (1, .istore_n 1, 1, 2, 0, [], 0), (2, .iconst 0, 1, 3, 0, [], 0), (3, .istore_n 2, 1, 4, 0, [], 0), (4, .iload_n 2, 1, 5, 0, [], 0), (5, .aload_n 0, 1, 6, 0, [], 0), (6, .getfield 65, 3, 9, 0, [], 0), (9, .if_icmp .ge 28, 3, 12, 37, [], 0), (12, .iload_n 1, 1, 13, 0, [], 0)]),
  (29, [(13, .aload_n 0, 1, 14, 0, [], 0), (14, .iload_n 2, 1, 15, 0, [], 0), (15, .invokevirtual 108, 3, 18, 0, [], 0), (18, .ifCond .ne 7, 3, 21, 25, [], 0), (21, .iconst 1, 1, 22, 0, [], 1), (22, .goto 4, 3, 25, 26, [], 0), (25, .iconst 0, 1, 26, 0, [], 0), (26, .invokestatic 98, 3, 29, 0, [], 0), (29, .iadd, 1, 30, 0, [], 0)]),
  (38, [(30, .istore_n 1, 1, 31, 0, [], 0), (31, .iinc 2 1, 3, 34, 0, [], 1), (34, .goto (-30), 3, 37, 4, [], 0), (37, .iload_n 1, 1, 38, 0, [], 0), (38, .ireturn, 1, 39, 0, [], 0)])]
set_option maxRecDepth 100000 in
theorem okX0_neededOnes : okT cX0_neededOnes tX0_neededOnes = true := by decide +kernel
def tX0_isNeedless : List (Nat × List Et) := [(11, [(0, .aload_n 0, 1, 1, 0, [], 0), (1, .getfield 24, 3, 4, 0, [], 0), (4, .iload_n 1, 1, 5, 0, [], 0), (5, .iaload, 1, 6, 0, [], 0), (6, .bipush 81, 2, 8, 0, [], 81), (8, .imul, 1, 9, 0, [], 0), (9, .istore_n 2, 1, 10, 0, [], 0), (10, .aload_n 0, 1, 11, 0, [], 0), (11, .getfield 11, 3, 14, 0, [], 0)]),
  (26, [(14, .iload_n 1, 1, 15, 0, [], 0), (15, .iaload, 1, 16, 0, [], 0), (16, .invokestatic 87, 3, 19, 0, [], 0), (19, .istore_n 3, 1, 20, 0, [], 0), (20, .iconst 0, 1, 21, 0, [], 0), (21, .istore 4, 2, 23, 0, [], 0), (23, .iload 4, 2, 25, 0, [], 0), (25, .iload_n 3, 1, 26, 0, [], 0), (26, .if_icmp .ge 46, 3, 29, 72, [], 0)]),
  (42, [(29, .aload_n 0, 1, 30, 0, [], 0), (30, .getfield 36, 3, 33, 0, [], 0), (33, .iload_n 2, 1, 34, 0, [], 0), (34, .iload 4, 2, 36, 0, [], 0), (36, .iadd, 1, 37, 0, [], 0), (37, .iaload, 1, 38, 0, [], 0), (38, .istore 5, 2, 40, 0, [], 0), (40, .iload 5, 2, 42, 0, [], 0), (42, .ifCond .lt 24, 3, 45, 66, [], 0)]),
  (58, [(45, .aload_n 0, 1, 46, 0, [], 0), (46, .getfield 11, 3, 49, 0, [], 0), (49, .iload 5, 2, 51, 0, [], 0), (51, .iaload, 1, 52, 0, [], 0), (52, .aload_n 0, 1, 53, 0, [], 0), (53, .getfield 11, 3, 56, 0, [], 0), (56, .iload_n 1, 1, 57, 0, [], 0), (57, .iaload, 1, 58, 0, [], 0), (58, .iconst (-1), 1, 59, 0, [], (-1))]),
  (73, [(59, .ixor, 1, 60, 0, [], 0), (60, .iand, 1, 61, 0, [], 0), (61, .ifCond .ne 5, 3, 64, 66, [], 0), (64, .iconst 1, 1, 65, 0, [], 1), (65, .ireturn, 1, 66, 0, [], 0), (66, .iinc 4 1, 3, 69, 0, [], 1), (69, .goto (-46), 3, 72, 23, [], 0), (72, .iconst 0, 1, 73, 0, [], 0), (73, .ireturn, 1, 74, 0, [], 0)])]
set_option maxRecDepth 100000 in
theorem okX0_isNeedless : okT cX0_isNeedless tX0_isNeedless = true := by decide +kernel
def tX0_componentOf : List (Nat × List Et) := [(9, [(0, .aload_n 0, 1, 1, 0, [], 0), (1, .aload_n 0, 1, 2, 0, [], 0), (2, .iload_n 1, 1, 3, 0, [], 0), (3, .invokevirtual 115, 3, 6, 0, [], 0), (6, .invokevirtual 118, 3, 9, 0, [], 0), (9, .ireturn, 1, 10, 0, [], 0)])]
set_option maxRecDepth 100000 in
theorem okX0_componentOf : okT cX0_componentOf tX0_componentOf = true := by decide +kernel
def tX0_firstLoopOf : List (Nat × List Et) := [(10, [(0, .aload_n 0, 1, 1, 0, [], 0), (1, .getfield 21, 3, 4, 0, [], 0), (4, .iload_n 1, 1, 5, 0, [], 0), (5, .iaload, 1, 6, 0, [], 0), (6, .iconst 1, 1, 7, 0, [], 1), (7, .iload_n 1, 1, 8, 0, [], 0), (8, .ishl, 1, 9, 0, [], 0), (9, .ior, 1, 10, 0, [], 0), (10, .istore_n 2, 1, 11, 0, [], 0)]),
  (23, [(11, .iconst 0, 1, 12, 0, [], 0), (12, .istore_n 3, 1, 13, 0, [], 0), (13, .iload_n 3, 1, 14, 0, [], 0), (14, .aload_n 0, 1, 15, 0, [], 0), (15, .getfield 65, 3, 18, 0, [], 0), (18, .if_icmp .ge 31, 3, 21, 49, [], 0), (21, .iload_n 2, 1, 22, 0, [], 0), (22, .aload_n 0, 1, 23, 0, [], 0), (23, .iload_n 3, 1, 24, 0, [], 0)]),
  (38, [(24, .invokevirtual 78, 3, 27, 0, [], 0), (27, .ishr, 1, 28, 0, [], 0), (28, .iconst 1, 1, 29, 0, [], 1), (29, .iand, 1, 30, 0, [], 0), (30, .ifCond .eq 13, 3, 33, 43, [], 0), (33, .aload_n 0, 1, 34, 0, [], 0), (34, .iload_n 3, 1, 35, 0, [], 0), (35, .invokevirtual 94, 3, 38, 0, [], 0), (38, .ifCond .eq 5, 3, 41, 43, [], 0)]),
  (50, [(41, .iload_n 3, 1, 42, 0, [], 0), (42, .ireturn, 1, 43, 0, [], 0), (43, .iinc 3 1, 3, 46, 0, [], 1), (46, .goto (-33), 3, 49, 13, [], 0), (49, .iconst (-1), 1, 50, 0, [], (-1)), (50, .ireturn, 1, 51, 0, [], 0)])]
set_option maxRecDepth 100000 in
theorem okX0_firstLoopOf : okT cX0_firstLoopOf tX0_firstLoopOf = true := by decide +kernel
def tX0_has : List (Nat × List Et) := [(16, [(0, .iload_n 1, 1, 1, 0, [], 0), (1, .ifCond .lt 15, 3, 4, 16, [], 0), (4, .iload_n 1, 1, 5, 0, [], 0), (5, .aload_n 0, 1, 6, 0, [], 0), (6, .getfield 65, 3, 9, 0, [], 0), (9, .if_icmp .ge 7, 3, 12, 16, [], 0), (12, .iconst 1, 1, 13, 0, [], 1), (13, .goto 4, 3, 16, 17, [], 0), (16, .iconst 0, 1, 17, 0, [], 0)]),
  (17, [(17, .ireturn, 1, 18, 0, [], 0)])]
set_option maxRecDepth 100000 in
theorem okX0_has : okT cX0_has tX0_has = true := by decide +kernel
def tX0_callOfWord : List (Nat × List Et) := [(10, [(0, .iload_n 1, 1, 1, 0, [], 0), (1, .istore_n 3, 1, 2, 0, [], 0), (2, .aload_n 0, 1, 3, 0, [], 0), (3, .getfield 15, 3, 6, 0, [], 0), (6, .iload_n 1, 1, 7, 0, [], 0), (7, .iaload, 1, 8, 0, [], 0), (8, .iconst 1, 1, 9, 0, [], 1), (9, .isub, 1, 10, 0, [], 0), (10, .istore 4, 2, 12, 0, [], 0)]),
  (25, [(12, .iload 4, 2, 14, 0, [], 0), (14, .iload_n 2, 1, 15, 0, [], 0), (15, .if_icmp .le 16, 3, 18, 31, [], 0), (18, .aload_n 0, 1, 19, 0, [], 0), (19, .getfield 27, 3, 22, 0, [], 0), (22, .iload_n 3, 1, 23, 0, [], 0), (23, .iaload, 1, 24, 0, [], 0), (24, .istore_n 3, 1, 25, 0, [], 0), (25, .iinc 4 (-1), 3, 28, 0, [], (-1))]),
  (37, [(28, .goto (-16), 3, 31, 12, [], 0), (31, .aload_n 0, 1, 32, 0, [], 0), (32, .getfield 30, 3, 35, 0, [], 0), (35, .iload_n 3, 1, 36, 0, [], 0), (36, .iaload, 1, 37, 0, [], 0), (37, .ireturn, 1, 38, 0, [], 0)])]
set_option maxRecDepth 100000 in
theorem okX0_callOfWord : okT cX0_callOfWord tX0_callOfWord = true := by decide +kernel
def tX0_at : List (Nat × List Et) := [(11, [(0, .aload_n 0, 1, 1, 0, [], 0), (1, .getfield 36, 3, 4, 0, [], 0), (4, .iload_n 1, 1, 5, 0, [], 0), (5, .iload_n 2, 1, 6, 0, [], 0), (6, .iload_n 3, 1, 7, 0, [], 0), (7, .invokestatic 90, 3, 10, 0, [], 0), (10, .iaload, 1, 11, 0, [], 0), (11, .ireturn, 1, 12, 0, [], 0)])]
set_option maxRecDepth 100000 in
theorem okX0_at : okT cX0_at tX0_at = true := by decide +kernel
def tX0_callsOfEveryLoop : List (Nat × List Et) := [(14, [(0, .aload_n 0, 1, 1, 0, [], 0), (1, .getfield 68, 3, 4, 0, [], 0), (4, .ifCond .ne 7, 3, 7, 11, [], 0), (7, .iconst 0, 1, 8, 0, [], 0), (8, .goto 4, 3, 11, 12, [], 0), (11, .iconst (-1), 1, 12, 0, [], (-1)), (12, .istore_n 1, 1, 13, 0, [], 0), (13, .iconst 0, 1, 14, 0, [], 0), (14, .istore_n 2, 1, 15, 0, [], 0)]),
  (31, [(15, .iload_n 2, 1, 16, 0, [], 0), (16, .aload_n 0, 1, 17, 0, [], 0), (17, .getfield 65, 3, 20, 0, [], 0), (20, .if_icmp .ge 26, 3, 23, 46, [], 0), (23, .aload_n 0, 1, 24, 0, [], 0), (24, .iload_n 2, 1, 25, 0, [], 0), (25, .invokevirtual 94, 3, 28, 0, [], 0), (28, .ifCond .eq 12, 3, 31, 40, [], 0), (31, .iload_n 1, 1, 32, 0, [], 0)]),
  (46, [(32, .aload_n 0, 1, 33, 0, [], 0), (33, .getfield 33, 3, 36, 0, [], 0), (36, .iload_n 2, 1, 37, 0, [], 0), (37, .iaload, 1, 38, 0, [], 0), (38, .iand, 1, 39, 0, [], 0), (39, .istore_n 1, 1, 40, 0, [], 0), (40, .iinc 2 1, 3, 43, 0, [], 1), (43, .goto (-28), 3, 46, 15, [], 0), (46, .iload_n 1, 1, 47, 0, [], 0)]),
  (47, [(47, .ireturn, 1, 48, 0, [], 0)])]
set_option maxRecDepth 100000 in
theorem okX0_callsOfEveryLoop : okT cX0_callsOfEveryLoop tX0_callsOfEveryLoop = true := by decide +kernel
def tX0_neededLoops : List (Nat × List Et) := [(12, [(0, .iconst 0, 1, 1, 0, [], 0), (1, .istore_n 1, 1, 2, 0, [], 0), (2, .iconst 0, 1, 3, 0, [], 0), (3, .istore_n 2, 1, 4, 0, [], 0), (4, .iload_n 2, 1, 5, 0, [], 0), (5, .aload_n 0, 1, 6, 0, [], 0), (6, .getfield 65, 3, 9, 0, [], 0), (9, .if_icmp .ge 36, 3, 12, 45, [], 0), (12, .iload_n 1, 1, 13, 0, [], 0)]),
  (29, [(13, .aload_n 0, 1, 14, 0, [], 0), (14, .iload_n 2, 1, 15, 0, [], 0), (15, .invokevirtual 94, 3, 18, 0, [], 0), (18, .ifCond .eq 15, 3, 21, 33, [], 0), (21, .aload_n 0, 1, 22, 0, [], 0), (22, .iload_n 2, 1, 23, 0, [], 0), (23, .invokevirtual 108, 3, 26, 0, [], 0), (26, .ifCond .ne 7, 3, 29, 33, [], 0), (29, .iconst 1, 1, 30, 0, [], 1)]),
  (46, [(30, .goto 4, 3, 33, 34, [], 0), (33, .iconst 0, 1, 34, 0, [], 0), (34, .invokestatic 98, 3, 37, 0, [], 0), (37, .iadd, 1, 38, 0, [], 0), (38, .istore_n 1, 1, 39, 0, [], 0), (39, .iinc 2 1, 3, 42, 0, [], 1), (42, .goto (-38), 3, 45, 4, [], 0), (45, .iload_n 1, 1, 46, 0, [], 0), (46, .ireturn, 1, 47, 0, [], 0)])]
set_option maxRecDepth 100000 in
theorem okX0_neededLoops : okT cX0_neededLoops tX0_neededLoops = true := by decide +kernel
def tX0_sumOfCodes : List (Nat × List Et) := [(12, [(0, .iconst 0, 1, 1, 0, [], 0), (1, .istore_n 1, 1, 2, 0, [], 0), (2, .iconst 0, 1, 3, 0, [], 0), (3, .istore_n 2, 1, 4, 0, [], 0), (4, .iload_n 2, 1, 5, 0, [], 0), (5, .aload_n 0, 1, 6, 0, [], 0), (6, .getfield 65, 3, 9, 0, [], 0), (9, .if_icmp .ge 21, 3, 12, 30, [], 0), (12, .iload_n 1, 1, 13, 0, [], 0)]),
  (27, [(13, .aload_n 0, 1, 14, 0, [], 0), (14, .getfield 11, 3, 17, 0, [], 0), (17, .iload_n 2, 1, 18, 0, [], 0), (18, .iaload, 1, 19, 0, [], 0), (19, .invokestatic 87, 3, 22, 0, [], 0), (22, .iadd, 1, 23, 0, [], 0), (23, .istore_n 1, 1, 24, 0, [], 0), (24, .iinc 2 1, 3, 27, 0, [], 1), (27, .goto (-23), 3, 30, 4, [], 0)]),
  (31, [(30, .iload_n 1, 1, 31, 0, [], 0), (31, .ireturn, 1, 32, 0, [], 0)])]
set_option maxRecDepth 100000 in
theorem okX0_sumOfCodes : okT cX0_sumOfCodes tX0_sumOfCodes = true := by decide +kernel
def tJ7_fill_53178 : List (Nat × List Et) := [(10, [(0, .iconst 0, 1, 1, 0, [], 0), (1, .istore_n 2, 1, 2, 0, [], 0), (2, .aload_n 0, 1, 3, 0, [], 0), (3, .arraylength, 1, 4, 0, [], 0), (4, .istore_n 3, 1, 5, 0, [], 0), (5, .iload_n 2, 1, 6, 0, [], 0), (6, .iload_n 3, 1, 7, 0, [], 0), (7, .if_icmp .ge 13, 3, 10, 20, [], 0), (10, .aload_n 0, 1, 11, 0, [], 0)]),
  (20, [(11, .iload_n 2, 1, 12, 0, [], 0), (12, .iload_n 1, 1, 13, 0, [], 0), (13, .iastore, 1, 14, 0, [], 0), (14, .iinc 2 1, 3, 17, 0, [], 1), (17, .goto (-12), 3, 20, 5, [], 0), (20, .return_, 1, 21, 0, [], 0)])]
set_option maxRecDepth 100000 in
theorem okJ7_fill_53178 : okT cJ7_fill_53178 tJ7_fill_53178 = true := by decide +kernel
end
section
def tX1_clear : List (Nat × List Et) := [(10, [(0, .aload_n 0, 1, 1, 0, [], 0), (1, .iconst 0, 1, 2, 0, [], 0), (2, .putfield 24, 3, 5, 0, [], 0), (5, .aload_n 0, 1, 6, 0, [], 0), (6, .iconst 0, 1, 7, 0, [], 0), (7, .putfield 28, 3, 10, 0, [], 0), (10, .return_, 1, 11, 0, [], 0)])]
set_option maxRecDepth 100000 in
theorem okX1_clear : okT cX1_clear tX1_clear = true := by decide +kernel
def tX1_appendFunction : List (Nat × List Et) := [(12, [(0, .aload_n 0, 1, 1, 0, [], 0), (1, .getfield 9, 3, 4, 0, [], 0), (4, .aload_n 0, 1, 5, 0, [], 0), (5, .getfield 24, 3, 8, 0, [], 0), (8, .iload_n 1, 1, 9, 0, [], 0), (9, .iastore, 1, 10, 0, [], 0), (10, .aload_n 0, 1, 11, 0, [], 0), (11, .dup, 1, 12, 0, [], 0), (12, .getfield 24, 3, 15, 0, [], 0)]),
  (20, [(15, .iconst 1, 1, 16, 0, [], 1), (16, .iadd, 1, 17, 0, [], 0), (17, .putfield 24, 3, 20, 0, [], 0), (20, .return_, 1, 21, 0, [], 0)])]
set_option maxRecDepth 100000 in
theorem okX1_appendFunction : okT cX1_appendFunction tX1_appendFunction = true := by decide +kernel
def tX1_appendCall : List (Nat × List Et) := [(14, [(0, .aload_n 0, 1, 1, 0, [], 0), (1, .getfield 15, 3, 4, 0, [], 0), (4, .aload_n 0, 1, 5, 0, [], 0), (5, .getfield 28, 3, 8, 0, [], 0), (8, .iload_n 1, 1, 9, 0, [], 0), (9, .iastore, 1, 10, 0, [], 0), (10, .aload_n 0, 1, 11, 0, [], 0), (11, .getfield 18, 3, 14, 0, [], 0), (14, .aload_n 0, 1, 15, 0, [], 0)]),
  (27, [(15, .getfield 28, 3, 18, 0, [], 0), (18, .iload_n 2, 1, 19, 0, [], 0), (19, .iastore, 1, 20, 0, [], 0), (20, .aload_n 0, 1, 21, 0, [], 0), (21, .aload_n 0, 1, 22, 0, [], 0), (22, .getfield 28, 3, 25, 0, [], 0), (25, .iconst 0, 1, 26, 0, [], 0), (26, .iconst 0, 1, 27, 0, [], 0), (27, .invokevirtual 41, 3, 30, 0, [], 0)]),
  (42, [(30, .aload_n 0, 1, 31, 0, [], 0), (31, .aload_n 0, 1, 32, 0, [], 0), (32, .getfield 28, 3, 35, 0, [], 0), (35, .iconst 1, 1, 36, 0, [], 1), (36, .iconst 0, 1, 37, 0, [], 0), (37, .invokevirtual 41, 3, 40, 0, [], 0), (40, .aload_n 0, 1, 41, 0, [], 0), (41, .dup, 1, 42, 0, [], 0), (42, .getfield 28, 3, 45, 0, [], 0)]),
  (50, [(45, .iconst 1, 1, 46, 0, [], 1), (46, .iadd, 1, 47, 0, [], 0), (47, .putfield 28, 3, 50, 0, [], 0), (50, .return_, 1, 51, 0, [], 0)])]
set_option maxRecDepth 100000 in
theorem okX1_appendCall : okT cX1_appendCall tX1_appendCall = true := by decide +kernel
def tX1_putArgument : List (Nat × List Et) := [(10, [(0, .aload_n 0, 1, 1, 0, [], 0), (1, .getfield 21, 3, 4, 0, [], 0), (4, .iconst 2, 1, 5, 0, [], 2), (5, .iload_n 1, 1, 6, 0, [], 0), (6, .imul, 1, 7, 0, [], 0), (7, .iload_n 2, 1, 8, 0, [], 0), (8, .iadd, 1, 9, 0, [], 0), (9, .iload_n 3, 1, 10, 0, [], 0), (10, .iastore, 1, 11, 0, [], 0)]),
  (11, [(11, .return_, 1, 12, 0, [], 0)])]
set_option maxRecDepth 100000 in
theorem okX1_putArgument : okT cX1_putArgument tX1_putArgument = true := by decide +kernel
def tX1_copy : List (Nat × List Et) := [(16, [(0, .aload_n 0, 1, 1, 0, [], 0), (1, .aload_n 1, 1, 2, 0, [], 0), (2, .getfield 24, 3, 5, 0, [], 0), (5, .putfield 24, 3, 8, 0, [], 0), (8, .aload_n 0, 1, 9, 0, [], 0), (9, .aload_n 1, 1, 10, 0, [], 0), (10, .getfield 28, 3, 13, 0, [], 0), (13, .putfield 28, 3, 16, 0, [], 0), (16, .aload_n 1, 1, 17, 0, [], 0)]),
  (31, [(17, .getfield 9, 3, 20, 0, [], 0), (20, .iconst 0, 1, 21, 0, [], 0), (21, .aload_n 0, 1, 22, 0, [], 0), (22, .getfield 9, 3, 25, 0, [], 0), (25, .iconst 0, 1, 26, 0, [], 0), (26, .iconst 3, 1, 27, 0, [], 3), (27, .invokestatic 31, 3, 30, 0, [], 0), (30, .aload_n 1, 1, 31, 0, [], 0), (31, .getfield 15, 3, 34, 0, [], 0)]),
  (49, [(34, .iconst 0, 1, 35, 0, [], 0), (35, .aload_n 0, 1, 36, 0, [], 0), (36, .getfield 15, 3, 39, 0, [], 0), (39, .iconst 0, 1, 40, 0, [], 0), (40, .bipush 12, 2, 42, 0, [], 12), (42, .invokestatic 31, 3, 45, 0, [], 0), (45, .aload_n 1, 1, 46, 0, [], 0), (46, .getfield 18, 3, 49, 0, [], 0), (49, .iconst 0, 1, 50, 0, [], 0)]),
  (65, [(50, .aload_n 0, 1, 51, 0, [], 0), (51, .getfield 18, 3, 54, 0, [], 0), (54, .iconst 0, 1, 55, 0, [], 0), (55, .bipush 12, 2, 57, 0, [], 12), (57, .invokestatic 31, 3, 60, 0, [], 0), (60, .aload_n 1, 1, 61, 0, [], 0), (61, .getfield 21, 3, 64, 0, [], 0), (64, .iconst 0, 1, 65, 0, [], 0), (65, .aload_n 0, 1, 66, 0, [], 0)]),
  (75, [(66, .getfield 21, 3, 69, 0, [], 0), (69, .iconst 0, 1, 70, 0, [], 0), (70, .bipush 24, 2, 72, 0, [], 24), (72, .invokestatic 31, 3, 75, 0, [], 0), (75, .return_, 1, 76, 0, [], 0)])]
set_option maxRecDepth 100000 in
theorem okX1_copy : okT cX1_copy tX1_copy = true := by decide +kernel
def tX1_bitsOf : List (Nat × List Et) := [(10, [(0, .iconst 0, 1, 1, 0, [], 0), (1, .istore_n 2, 1, 2, 0, [], 0), (2, .iconst 0, 1, 3, 0, [], 0), (3, .istore_n 3, 1, 4, 0, [], 0), (4, .iload_n 3, 1, 5, 0, [], 0), (5, .aload_n 0, 1, 6, 0, [], 0), (6, .getfield 9, 3, 9, 0, [], 0), (9, .aload_n 0, 1, 10, 0, [], 0), (10, .getfield 15, 3, 13, 0, [], 0)]),
  (25, [(13, .iload_n 1, 1, 14, 0, [], 0), (14, .iaload, 1, 15, 0, [], 0), (15, .iaload, 1, 16, 0, [], 0), (16, .if_icmp .ge 96, 3, 19, 112, [], 0), (19, .iconst 0, 1, 20, 0, [], 0), (20, .istore 4, 2, 22, 0, [], 0), (22, .iload 4, 2, 24, 0, [], 0), (24, .aload_n 0, 1, 25, 0, [], 0), (25, .getfield 9, 3, 28, 0, [], 0)]),
  (40, [(28, .aload_n 0, 1, 29, 0, [], 0), (29, .getfield 18, 3, 32, 0, [], 0), (32, .iload_n 1, 1, 33, 0, [], 0), (33, .iaload, 1, 34, 0, [], 0), (34, .iaload, 1, 35, 0, [], 0), (35, .if_icmp .ge 71, 3, 38, 106, [], 0), (38, .iload_n 3, 1, 39, 0, [], 0), (39, .aload_n 0, 1, 40, 0, [], 0), (40, .iload_n 1, 1, 41, 0, [], 0)]),
  (58, [(41, .iload 4, 2, 43, 0, [], 0), (43, .invokevirtual 45, 3, 46, 0, [], 0), (46, .invokestatic 71, 3, 49, 0, [], 0), (49, .istore 5, 2, 51, 0, [], 0), (51, .iload_n 2, 1, 52, 0, [], 0), (52, .iload 5, 2, 54, 0, [], 0), (54, .ifCond .le 7, 3, 57, 61, [], 0), (57, .iconst 1, 1, 58, 0, [], 1), (58, .goto 4, 3, 61, 62, [], 0)]),
  (72, [(61, .iconst 0, 1, 62, 0, [], 0), (62, .invokestatic 67, 3, 65, 0, [], 0), (65, .iconst 2, 1, 66, 0, [], 2), (66, .iload_n 3, 1, 67, 0, [], 0), (67, .imul, 1, 68, 0, [], 0), (68, .iload 4, 2, 70, 0, [], 0), (70, .iadd, 1, 71, 0, [], 0), (71, .ishl, 1, 72, 0, [], 0), (72, .ior, 1, 73, 0, [], 0)]),
  (86, [(73, .istore_n 2, 1, 74, 0, [], 0), (74, .iload_n 2, 1, 75, 0, [], 0), (75, .iload 5, 2, 77, 0, [], 0), (77, .iconst 1, 1, 78, 0, [], 1), (78, .if_icmp .le 7, 3, 81, 85, [], 0), (81, .iconst 1, 1, 82, 0, [], 1), (82, .goto 4, 3, 85, 86, [], 0), (85, .iconst 0, 1, 86, 0, [], 0), (86, .invokestatic 67, 3, 89, 0, [], 0)]),
  (98, [(89, .iconst 4, 1, 90, 0, [], 4), (90, .iconst 2, 1, 91, 0, [], 2), (91, .iload_n 3, 1, 92, 0, [], 0), (92, .imul, 1, 93, 0, [], 0), (93, .iadd, 1, 94, 0, [], 0), (94, .iload 4, 2, 96, 0, [], 0), (96, .iadd, 1, 97, 0, [], 0), (97, .ishl, 1, 98, 0, [], 0), (98, .ior, 1, 99, 0, [], 0)]),
  (113, [(99, .istore_n 2, 1, 100, 0, [], 0), (100, .iinc 4 1, 3, 103, 0, [], 1), (103, .goto (-81), 3, 106, 22, [], 0), (106, .iinc 3 1, 3, 109, 0, [], 1), (109, .goto (-105), 3, 112, 4, [], 0), (112, .iload_n 2, 1, 113, 0, [], 0), (113, .ireturn, 1, 114, 0, [], 0)])]
set_option maxRecDepth 100000 in
theorem okX1_bitsOf : okT cX1_bitsOf tX1_bitsOf = true := by decide +kernel
def tX1_argumentAt : List (Nat × List Et) := [(10, [(0, .aload_n 0, 1, 1, 0, [], 0), (1, .getfield 21, 3, 4, 0, [], 0), (4, .iconst 2, 1, 5, 0, [], 2), (5, .iload_n 1, 1, 6, 0, [], 0), (6, .imul, 1, 7, 0, [], 0), (7, .iload_n 2, 1, 8, 0, [], 0), (8, .iadd, 1, 9, 0, [], 0), (9, .iaload, 1, 10, 0, [], 0), (10, .ireturn, 1, 11, 0, [], 0)])]
set_option maxRecDepth 100000 in
theorem okX1_argumentAt : okT cX1_argumentAt tX1_argumentAt = true := by decide +kernel
def tX1_relation : List (Nat × List Et) := [(12, [(0, .iload_n 1, 1, 1, 0, [], 0), (1, .invokestatic 53, 3, 4, 0, [], 0), (4, .istore_n 2, 1, 5, 0, [], 0), (5, .iload_n 1, 1, 6, 0, [], 0), (6, .invokestatic 60, 3, 9, 0, [], 0), (9, .istore_n 3, 1, 10, 0, [], 0), (10, .iload_n 2, 1, 11, 0, [], 0), (11, .iconst 4, 1, 12, 0, [], 4), (12, .if_icmp .ne 5, 3, 15, 17, [], 0)]),
  (29, [(15, .iconst 1, 1, 16, 0, [], 1), (16, .ireturn, 1, 17, 0, [], 0), (17, .iload_n 2, 1, 18, 0, [], 0), (18, .ifCond .eq 11, 3, 21, 29, [], 0), (21, .iload_n 1, 1, 22, 0, [], 0), (22, .invokestatic 57, 3, 25, 0, [], 0), (25, .iload_n 0, 1, 26, 0, [], 0), (26, .if_icmp .eq 5, 3, 29, 31, [], 0), (29, .iconst 0, 1, 30, 0, [], 0)]),
  (44, [(30, .ireturn, 1, 31, 0, [], 0), (31, .iload_n 2, 1, 32, 0, [], 0), (32, .iconst 1, 1, 33, 0, [], 1), (33, .if_icmp .ne 13, 3, 36, 46, [], 0), (36, .iload_n 3, 1, 37, 0, [], 0), (37, .ifCond .le 7, 3, 40, 44, [], 0), (40, .iconst 2, 1, 41, 0, [], 2), (41, .goto 4, 3, 44, 45, [], 0), (44, .iconst 1, 1, 45, 0, [], 1)]),
  (57, [(45, .ireturn, 1, 46, 0, [], 0), (46, .iload_n 2, 1, 47, 0, [], 0), (47, .iconst 2, 1, 48, 0, [], 2), (48, .if_icmp .ne 14, 3, 51, 62, [], 0), (51, .iload_n 3, 1, 52, 0, [], 0), (52, .iconst 1, 1, 53, 0, [], 1), (53, .if_icmp .le 7, 3, 56, 60, [], 0), (56, .iconst 2, 1, 57, 0, [], 2), (57, .goto 4, 3, 60, 61, [], 0)]),
  (71, [(60, .iconst 1, 1, 61, 0, [], 1), (61, .ireturn, 1, 62, 0, [], 0), (62, .iload_n 3, 1, 63, 0, [], 0), (63, .ifCond .ne 7, 3, 66, 70, [], 0), (66, .iconst 1, 1, 67, 0, [], 1), (67, .goto 4, 3, 70, 71, [], 0), (70, .iconst 0, 1, 71, 0, [], 0), (71, .ireturn, 1, 72, 0, [], 0)])]
set_option maxRecDepth 100000 in
theorem okX1_relation : okT cX1_relation tX1_relation = true := by decide +kernel
def tX1_hasFunction : List (Nat × List Et) := [(16, [(0, .iload_n 1, 1, 1, 0, [], 0), (1, .ifCond .lt 15, 3, 4, 16, [], 0), (4, .iload_n 1, 1, 5, 0, [], 0), (5, .aload_n 0, 1, 6, 0, [], 0), (6, .getfield 24, 3, 9, 0, [], 0), (9, .if_icmp .ge 7, 3, 12, 16, [], 0), (12, .iconst 1, 1, 13, 0, [], 1), (13, .goto 4, 3, 16, 17, [], 0), (16, .iconst 0, 1, 17, 0, [], 0)]),
  (17, [(17, .ireturn, 1, 18, 0, [], 0)])]
set_option maxRecDepth 100000 in
theorem okX1_hasFunction : okT cX1_hasFunction tX1_hasFunction = true := by decide +kernel
def tX1_callsFrom : List (Nat × List Et) := [(12, [(0, .iconst 0, 1, 1, 0, [], 0), (1, .istore_n 2, 1, 2, 0, [], 0), (2, .iconst 0, 1, 3, 0, [], 0), (3, .istore_n 3, 1, 4, 0, [], 0), (4, .iload_n 3, 1, 5, 0, [], 0), (5, .aload_n 0, 1, 6, 0, [], 0), (6, .getfield 28, 3, 9, 0, [], 0), (9, .if_icmp .ge 30, 3, 12, 39, [], 0), (12, .iload_n 2, 1, 13, 0, [], 0)]),
  (27, [(13, .aload_n 0, 1, 14, 0, [], 0), (14, .getfield 15, 3, 17, 0, [], 0), (17, .iload_n 3, 1, 18, 0, [], 0), (18, .iaload, 1, 19, 0, [], 0), (19, .iload_n 1, 1, 20, 0, [], 0), (20, .if_icmp .ne 7, 3, 23, 27, [], 0), (23, .iconst 1, 1, 24, 0, [], 1), (24, .goto 4, 3, 27, 28, [], 0), (27, .iconst 0, 1, 28, 0, [], 0)]),
  (40, [(28, .invokestatic 67, 3, 31, 0, [], 0), (31, .iadd, 1, 32, 0, [], 0), (32, .istore_n 2, 1, 33, 0, [], 0), (33, .iinc 3 1, 3, 36, 0, [], 1), (36, .goto (-32), 3, 39, 4, [], 0), (39, .iload_n 2, 1, 40, 0, [], 0), (40, .ireturn, 1, 41, 0, [], 0)])]
set_option maxRecDepth 100000 in
theorem okX1_callsFrom : okT cX1_callsFrom tX1_callsFrom = true := by decide +kernel
def tX1_hasCall : List (Nat × List Et) := [(16, [(0, .iload_n 1, 1, 1, 0, [], 0), (1, .ifCond .lt 15, 3, 4, 16, [], 0), (4, .iload_n 1, 1, 5, 0, [], 0), (5, .aload_n 0, 1, 6, 0, [], 0), (6, .getfield 28, 3, 9, 0, [], 0), (9, .if_icmp .ge 7, 3, 12, 16, [], 0), (12, .iconst 1, 1, 13, 0, [], 1), (13, .goto 4, 3, 16, 17, [], 0), (16, .iconst 0, 1, 17, 0, [], 0)]),
  (17, [(17, .ireturn, 1, 18, 0, [], 0)])]
set_option maxRecDepth 100000 in
theorem okX1_hasCall : okT cX1_hasCall tX1_hasCall = true := by decide +kernel
def tX1_hasArgument : List (Nat × List Et) := [(14, [(0, .aload_n 0, 1, 1, 0, [], 0), (1, .iload_n 1, 1, 2, 0, [], 0), (2, .invokevirtual 37, 3, 5, 0, [], 0), (5, .ifCond .eq 26, 3, 8, 31, [], 0), (8, .iload_n 2, 1, 9, 0, [], 0), (9, .ifCond .lt 22, 3, 12, 31, [], 0), (12, .iload_n 2, 1, 13, 0, [], 0), (13, .aload_n 0, 1, 14, 0, [], 0), (14, .getfield 9, 3, 17, 0, [], 0)]),
  (31, [(17, .aload_n 0, 1, 18, 0, [], 0), (18, .getfield 18, 3, 21, 0, [], 0), (21, .iload_n 1, 1, 22, 0, [], 0), (22, .iaload, 1, 23, 0, [], 0), (23, .iaload, 1, 24, 0, [], 0), (24, .if_icmp .ge 7, 3, 27, 31, [], 0), (27, .iconst 1, 1, 28, 0, [], 1), (28, .goto 4, 3, 31, 32, [], 0), (31, .iconst 0, 1, 32, 0, [], 0)]),
  (32, [(32, .ireturn, 1, 33, 0, [], 0)])]
set_option maxRecDepth 100000 in
theorem okX1_hasArgument : okT cX1_hasArgument tX1_hasArgument = true := by decide +kernel
def tX1_takes : List (Nat × List Et) := [(14, [(0, .aload_n 0, 1, 1, 0, [], 0), (1, .iload_n 1, 1, 2, 0, [], 0), (2, .iload_n 2, 1, 3, 0, [], 0), (3, .invokevirtual 49, 3, 6, 0, [], 0), (6, .ifCond .eq 7, 3, 9, 13, [], 0), (9, .iload_n 3, 1, 10, 0, [], 0), (10, .ifCond .ge 5, 3, 13, 15, [], 0), (13, .iconst 0, 1, 14, 0, [], 0), (14, .ireturn, 1, 15, 0, [], 0)]),
  (28, [(15, .aload_n 0, 1, 16, 0, [], 0), (16, .getfield 9, 3, 19, 0, [], 0), (19, .aload_n 0, 1, 20, 0, [], 0), (20, .getfield 15, 3, 23, 0, [], 0), (23, .iload_n 1, 1, 24, 0, [], 0), (24, .iaload, 1, 25, 0, [], 0), (25, .iaload, 1, 26, 0, [], 0), (26, .istore 4, 2, 28, 0, [], 0), (28, .iload_n 3, 1, 29, 0, [], 0)]),
  (80, [(29, .invokestatic 53, 3, 32, 0, [], 0), (32, .tableswitch 108 0 4 #[36, 49, 64, 49, 86], 36, 68, 140, [68, 81, 96, 81, 118], 0), (68, .iload_n 3, 1, 69, 0, [], 0), (69, .invokestatic 57, 3, 72, 0, [], 0), (72, .ifCond .ne 7, 3, 75, 79, [], 0), (75, .iconst 1, 1, 76, 0, [], 1), (76, .goto 4, 3, 79, 80, [], 0), (79, .iconst 0, 1, 80, 0, [], 0), (80, .ireturn, 1, 81, 0, [], 0)]),
  (96, [(81, .iload_n 3, 1, 82, 0, [], 0), (82, .invokestatic 57, 3, 85, 0, [], 0), (85, .iload 4, 2, 87, 0, [], 0), (87, .if_icmp .ge 7, 3, 90, 94, [], 0), (90, .iconst 1, 1, 91, 0, [], 1), (91, .goto 4, 3, 94, 95, [], 0), (94, .iconst 0, 1, 95, 0, [], 0), (95, .ireturn, 1, 96, 0, [], 0), (96, .iload_n 3, 1, 97, 0, [], 0)]),
  (116, [(97, .invokestatic 57, 3, 100, 0, [], 0), (100, .iload 4, 2, 102, 0, [], 0), (102, .if_icmp .ge 14, 3, 105, 116, [], 0), (105, .iload_n 3, 1, 106, 0, [], 0), (106, .invokestatic 60, 3, 109, 0, [], 0), (109, .ifCond .le 7, 3, 112, 116, [], 0), (112, .iconst 1, 1, 113, 0, [], 1), (113, .goto 4, 3, 116, 117, [], 0), (116, .iconst 0, 1, 117, 0, [], 0)]),
  (128, [(117, .ireturn, 1, 118, 0, [], 0), (118, .iload 4, 2, 120, 0, [], 0), (120, .iconst 2, 1, 121, 0, [], 2), (121, .if_icmp .ne 17, 3, 124, 138, [], 0), (124, .iload_n 3, 1, 125, 0, [], 0), (125, .iconst 4, 1, 126, 0, [], 4), (126, .iconst 0, 1, 127, 0, [], 0), (127, .iconst 0, 1, 128, 0, [], 0), (128, .invokestatic 63, 3, 131, 0, [], 0)]),
  (141, [(131, .if_icmp .ne 7, 3, 134, 138, [], 0), (134, .iconst 1, 1, 135, 0, [], 1), (135, .goto 4, 3, 138, 139, [], 0), (138, .iconst 0, 1, 139, 0, [], 0), (139, .ireturn, 1, 140, 0, [], 0), (140, .iconst 0, 1, 141, 0, [], 0), (141, .ireturn, 1, 142, 0, [], 0)])]
set_option maxRecDepth 100000 in
theorem okX1_takes : okT cX1_takes tX1_takes = true := by decide +kernel
def tX1_removeCall : List (Nat × List Et) := [(12, [(0, .aload_n 0, 1, 1, 0, [], 0), (1, .dup, 1, 2, 0, [], 0), (2, .getfield 28, 3, 5, 0, [], 0), (5, .iconst 1, 1, 6, 0, [], 1), (6, .isub, 1, 7, 0, [], 0), (7, .putfield 28, 3, 10, 0, [], 0), (10, .iload_n 1, 1, 11, 0, [], 0), (11, .istore_n 2, 1, 12, 0, [], 0), (12, .iload_n 2, 1, 13, 0, [], 0)]),
  (29, [(13, .aload_n 0, 1, 14, 0, [], 0), (14, .getfield 28, 3, 17, 0, [], 0), (17, .if_icmp .ge 65, 3, 20, 82, [], 0), (20, .aload_n 0, 1, 21, 0, [], 0), (21, .getfield 15, 3, 24, 0, [], 0), (24, .iload_n 2, 1, 25, 0, [], 0), (25, .aload_n 0, 1, 26, 0, [], 0), (26, .getfield 15, 3, 29, 0, [], 0), (29, .iload_n 2, 1, 30, 0, [], 0)]),
  (40, [(30, .iconst 1, 1, 31, 0, [], 1), (31, .iadd, 1, 32, 0, [], 0), (32, .iaload, 1, 33, 0, [], 0), (33, .iastore, 1, 34, 0, [], 0), (34, .aload_n 0, 1, 35, 0, [], 0), (35, .getfield 18, 3, 38, 0, [], 0), (38, .iload_n 2, 1, 39, 0, [], 0), (39, .aload_n 0, 1, 40, 0, [], 0), (40, .getfield 18, 3, 43, 0, [], 0)]),
  (51, [(43, .iload_n 2, 1, 44, 0, [], 0), (44, .iconst 1, 1, 45, 0, [], 1), (45, .iadd, 1, 46, 0, [], 0), (46, .iaload, 1, 47, 0, [], 0), (47, .iastore, 1, 48, 0, [], 0), (48, .aload_n 0, 1, 49, 0, [], 0), (49, .iload_n 2, 1, 50, 0, [], 0), (50, .iconst 0, 1, 51, 0, [], 0), (51, .aload_n 0, 1, 52, 0, [], 0)]),
  (64, [(52, .iload_n 2, 1, 53, 0, [], 0), (53, .iconst 1, 1, 54, 0, [], 1), (54, .iadd, 1, 55, 0, [], 0), (55, .iconst 0, 1, 56, 0, [], 0), (56, .invokevirtual 45, 3, 59, 0, [], 0), (59, .invokevirtual 41, 3, 62, 0, [], 0), (62, .aload_n 0, 1, 63, 0, [], 0), (63, .iload_n 2, 1, 64, 0, [], 0), (64, .iconst 1, 1, 65, 0, [], 1)]),
  (79, [(65, .aload_n 0, 1, 66, 0, [], 0), (66, .iload_n 2, 1, 67, 0, [], 0), (67, .iconst 1, 1, 68, 0, [], 1), (68, .iadd, 1, 69, 0, [], 0), (69, .iconst 1, 1, 70, 0, [], 1), (70, .invokevirtual 45, 3, 73, 0, [], 0), (73, .invokevirtual 41, 3, 76, 0, [], 0), (76, .iinc 2 1, 3, 79, 0, [], 1), (79, .goto (-67), 3, 82, 12, [], 0)]),
  (82, [(82, .return_, 1, 83, 0, [], 0)])]
set_option maxRecDepth 100000 in
theorem okX1_removeCall : okT cX1_removeCall tX1_removeCall = true := by decide +kernel
def tX1_callsMade : List (Nat × List Et) := [(15, [(0, .iconst 0, 1, 1, 0, [], 0), (1, .istore 4, 2, 3, 0, [], 0), (3, .iconst 0, 1, 4, 0, [], 0), (4, .istore 5, 2, 6, 0, [], 0), (6, .iload 5, 2, 8, 0, [], 0), (8, .aload_n 0, 1, 9, 0, [], 0), (9, .getfield 28, 3, 12, 0, [], 0), (12, .if_icmp .ge 44, 3, 15, 56, [], 0), (15, .iload 4, 2, 17, 0, [], 0)]),
  (31, [(17, .aload_n 0, 1, 18, 0, [], 0), (18, .getfield 15, 3, 21, 0, [], 0), (21, .iload 5, 2, 23, 0, [], 0), (23, .iaload, 1, 24, 0, [], 0), (24, .iload_n 1, 1, 25, 0, [], 0), (25, .if_icmp .ne 18, 3, 28, 43, [], 0), (28, .aload_n 0, 1, 29, 0, [], 0), (29, .iload 5, 2, 31, 0, [], 0), (31, .iload_n 2, 1, 32, 0, [], 0)]),
  (48, [(32, .iload_n 3, 1, 33, 0, [], 0), (33, .invokevirtual 74, 3, 36, 0, [], 0), (36, .ifCond .eq 7, 3, 39, 43, [], 0), (39, .iconst 1, 1, 40, 0, [], 1), (40, .goto 4, 3, 43, 44, [], 0), (43, .iconst 0, 1, 44, 0, [], 0), (44, .invokestatic 67, 3, 47, 0, [], 0), (47, .iadd, 1, 48, 0, [], 0), (48, .istore 4, 2, 50, 0, [], 0)]),
  (58, [(50, .iinc 5 1, 3, 53, 0, [], 1), (53, .goto (-47), 3, 56, 6, [], 0), (56, .iload 4, 2, 58, 0, [], 0), (58, .ireturn, 1, 59, 0, [], 0)])]
set_option maxRecDepth 100000 in
theorem okX1_callsMade : okT cX1_callsMade tX1_callsMade = true := by decide +kernel
def tX1_isMade : List (Nat × List Et) := [(14, [(0, .iconst 0, 1, 1, 0, [], 0), (1, .istore 4, 2, 3, 0, [], 0), (3, .iload 4, 2, 5, 0, [], 0), (5, .aload_n 0, 1, 6, 0, [], 0), (6, .getfield 9, 3, 9, 0, [], 0), (9, .aload_n 0, 1, 10, 0, [], 0), (10, .getfield 18, 3, 13, 0, [], 0), (13, .iload_n 1, 1, 14, 0, [], 0), (14, .iaload, 1, 15, 0, [], 0)]),
  (30, [(15, .iaload, 1, 16, 0, [], 0), (16, .if_icmp .ge 80, 3, 19, 96, [], 0), (19, .aload_n 0, 1, 20, 0, [], 0), (20, .iload_n 1, 1, 21, 0, [], 0), (21, .iload 4, 2, 23, 0, [], 0), (23, .invokevirtual 45, 3, 26, 0, [], 0), (26, .istore 5, 2, 28, 0, [], 0), (28, .iload 5, 2, 30, 0, [], 0), (30, .invokestatic 57, 3, 33, 0, [], 0)]),
  (50, [(33, .ifCond .ne 7, 3, 36, 40, [], 0), (36, .iload_n 2, 1, 37, 0, [], 0), (37, .goto 4, 3, 40, 41, [], 0), (40, .iload_n 3, 1, 41, 0, [], 0), (41, .istore 6, 2, 43, 0, [], 0), (43, .iload 5, 2, 45, 0, [], 0), (45, .invokestatic 60, 3, 48, 0, [], 0), (48, .istore 7, 2, 50, 0, [], 0), (50, .iload 5, 2, 52, 0, [], 0)]),
  (68, [(52, .invokestatic 53, 3, 55, 0, [], 0), (55, .iconst 1, 1, 56, 0, [], 1), (56, .if_icmp .ne 12, 3, 59, 68, [], 0), (59, .iload 6, 2, 61, 0, [], 0), (61, .iload 7, 2, 63, 0, [], 0), (63, .if_icmp .ge 5, 3, 66, 68, [], 0), (66, .iconst 0, 1, 67, 0, [], 0), (67, .ireturn, 1, 68, 0, [], 0), (68, .iload 5, 2, 70, 0, [], 0)]),
  (88, [(70, .invokestatic 53, 3, 73, 0, [], 0), (73, .iconst 2, 1, 74, 0, [], 2), (74, .if_icmp .ne 16, 3, 77, 90, [], 0), (77, .iload 7, 2, 79, 0, [], 0), (79, .iconst 1, 1, 80, 0, [], 1), (80, .if_icmp .le 10, 3, 83, 90, [], 0), (83, .iload 6, 2, 85, 0, [], 0), (85, .ifCond .ne 5, 3, 88, 90, [], 0), (88, .iconst 0, 1, 89, 0, [], 0)]),
  (97, [(89, .ireturn, 1, 90, 0, [], 0), (90, .iinc 4 1, 3, 93, 0, [], 1), (93, .goto (-90), 3, 96, 3, [], 0), (96, .iconst 1, 1, 97, 0, [], 1), (97, .ireturn, 1, 98, 0, [], 0)])]
set_option maxRecDepth 100000 in
theorem okX1_isMade : okT cX1_isMade tX1_isMade = true := by decide +kernel
def tX1_callMade : List (Nat × List Et) := [(16, [(0, .iload 4, 2, 2, 0, [], 0), (2, .istore 5, 2, 4, 0, [], 0), (4, .iconst 0, 1, 5, 0, [], 0), (5, .istore 6, 2, 7, 0, [], 0), (7, .iload 6, 2, 9, 0, [], 0), (9, .aload_n 0, 1, 10, 0, [], 0), (10, .getfield 28, 3, 13, 0, [], 0), (13, .if_icmp .ge 42, 3, 16, 55, [], 0), (16, .aload_n 0, 1, 17, 0, [], 0)]),
  (31, [(17, .getfield 15, 3, 20, 0, [], 0), (20, .iload 6, 2, 22, 0, [], 0), (22, .iaload, 1, 23, 0, [], 0), (23, .iload_n 1, 1, 24, 0, [], 0), (24, .if_icmp .ne 25, 3, 27, 49, [], 0), (27, .aload_n 0, 1, 28, 0, [], 0), (28, .iload 6, 2, 30, 0, [], 0), (30, .iload_n 2, 1, 31, 0, [], 0), (31, .iload_n 3, 1, 32, 0, [], 0)]),
  (52, [(32, .invokevirtual 74, 3, 35, 0, [], 0), (35, .ifCond .eq 14, 3, 38, 49, [], 0), (38, .iload 5, 2, 40, 0, [], 0), (40, .ifCond .ne 6, 3, 43, 46, [], 0), (43, .iload 6, 2, 45, 0, [], 0), (45, .ireturn, 1, 46, 0, [], 0), (46, .iinc 5 (-1), 3, 49, 0, [], (-1)), (49, .iinc 6 1, 3, 52, 0, [], 1), (52, .goto (-45), 3, 55, 7, [], 0)]),
  (56, [(55, .iconst 0, 1, 56, 0, [], 0), (56, .ireturn, 1, 57, 0, [], 0)])]
set_option maxRecDepth 100000 in
theorem okX1_callMade : okT cX1_callMade tX1_callMade = true := by decide +kernel
def tX1_worth : List (Nat × List Et) := [(16, [(0, .aload_n 0, 1, 1, 0, [], 0), (1, .iload_n 1, 1, 2, 0, [], 0), (2, .iload_n 2, 1, 3, 0, [], 0), (3, .invokevirtual 45, 3, 6, 0, [], 0), (6, .istore 5, 2, 8, 0, [], 0), (8, .iload 5, 2, 10, 0, [], 0), (10, .invokestatic 57, 3, 13, 0, [], 0), (13, .ifCond .ne 7, 3, 16, 20, [], 0), (16, .iload_n 3, 1, 17, 0, [], 0)]),
  (36, [(17, .goto 5, 3, 20, 22, [], 0), (20, .iload 4, 2, 22, 0, [], 0), (22, .istore 6, 2, 24, 0, [], 0), (24, .iload 5, 2, 26, 0, [], 0), (26, .invokestatic 60, 3, 29, 0, [], 0), (29, .istore 7, 2, 31, 0, [], 0), (31, .iload 5, 2, 33, 0, [], 0), (33, .invokestatic 53, 3, 36, 0, [], 0), (36, .tableswitch 73 1 4 #[32, 38, 54, 66], 32, 68, 109, [68, 74, 90, 102], 0)]),
  (83, [(68, .iload 6, 2, 70, 0, [], 0), (70, .iload 7, 2, 72, 0, [], 0), (72, .isub, 1, 73, 0, [], 0), (73, .ireturn, 1, 74, 0, [], 0), (74, .iload 7, 2, 76, 0, [], 0), (76, .ifCond .le 11, 3, 79, 87, [], 0), (79, .iload 6, 2, 81, 0, [], 0), (81, .iload 7, 2, 83, 0, [], 0), (83, .idiv, 1, 84, 0, [], 0)]),
  (101, [(84, .goto 5, 3, 87, 89, [], 0), (87, .iload 6, 2, 89, 0, [], 0), (89, .ireturn, 1, 90, 0, [], 0), (90, .iload 6, 2, 92, 0, [], 0), (92, .iload 7, 2, 94, 0, [], 0), (94, .iadd, 1, 95, 0, [], 0), (95, .sipush 999, 3, 98, 0, [], 999), (98, .invokestatic 78, 3, 101, 0, [], 0), (101, .ireturn, 1, 102, 0, [], 0)]),
  (111, [(102, .iload_n 3, 1, 103, 0, [], 0), (103, .iload 4, 2, 105, 0, [], 0), (105, .invokestatic 78, 3, 108, 0, [], 0), (108, .ireturn, 1, 109, 0, [], 0), (109, .iload 7, 2, 111, 0, [], 0), (111, .ireturn, 1, 112, 0, [], 0)])]
set_option maxRecDepth 100000 in
theorem okX1_worth : okT cX1_worth tX1_worth = true := by decide +kernel
def tX1_plainNumbers : List (Nat × List Et) := [(12, [(0, .iconst 0, 1, 1, 0, [], 0), (1, .istore_n 1, 1, 2, 0, [], 0), (2, .iconst 0, 1, 3, 0, [], 0), (3, .istore_n 2, 1, 4, 0, [], 0), (4, .iload_n 2, 1, 5, 0, [], 0), (5, .aload_n 0, 1, 6, 0, [], 0), (6, .getfield 28, 3, 9, 0, [], 0), (9, .if_icmp .ge 55, 3, 12, 64, [], 0), (12, .iconst 0, 1, 13, 0, [], 0)]),
  (25, [(13, .istore_n 3, 1, 14, 0, [], 0), (14, .iload_n 3, 1, 15, 0, [], 0), (15, .aload_n 0, 1, 16, 0, [], 0), (16, .getfield 9, 3, 19, 0, [], 0), (19, .aload_n 0, 1, 20, 0, [], 0), (20, .getfield 18, 3, 23, 0, [], 0), (23, .iload_n 2, 1, 24, 0, [], 0), (24, .iaload, 1, 25, 0, [], 0), (25, .iaload, 1, 26, 0, [], 0)]),
  (42, [(26, .if_icmp .ge 32, 3, 29, 58, [], 0), (29, .iload_n 1, 1, 30, 0, [], 0), (30, .aload_n 0, 1, 31, 0, [], 0), (31, .iload_n 2, 1, 32, 0, [], 0), (32, .iload_n 3, 1, 33, 0, [], 0), (33, .invokevirtual 45, 3, 36, 0, [], 0), (36, .invokestatic 53, 3, 39, 0, [], 0), (39, .ifCond .ne 7, 3, 42, 46, [], 0), (42, .iconst 1, 1, 43, 0, [], 1)]),
  (61, [(43, .goto 4, 3, 46, 47, [], 0), (46, .iconst 0, 1, 47, 0, [], 0), (47, .invokestatic 67, 3, 50, 0, [], 0), (50, .iadd, 1, 51, 0, [], 0), (51, .istore_n 1, 1, 52, 0, [], 0), (52, .iinc 3 1, 3, 55, 0, [], 1), (55, .goto (-41), 3, 58, 14, [], 0), (58, .iinc 2 1, 3, 61, 0, [], 1), (61, .goto (-57), 3, 64, 4, [], 0)]),
  (65, [(64, .iload_n 1, 1, 65, 0, [], 0), (65, .ireturn, 1, 66, 0, [], 0)])]
set_option maxRecDepth 100000 in
theorem okX1_plainNumbers : okT cX1_plainNumbers tX1_plainNumbers = true := by decide +kernel
def tX1_arities : List (Nat × List Et) := [(12, [(0, .iconst 0, 1, 1, 0, [], 0), (1, .istore_n 1, 1, 2, 0, [], 0), (2, .iconst 0, 1, 3, 0, [], 0), (3, .istore_n 2, 1, 4, 0, [], 0), (4, .iload_n 2, 1, 5, 0, [], 0), (5, .aload_n 0, 1, 6, 0, [], 0), (6, .getfield 24, 3, 9, 0, [], 0), (9, .if_icmp .ge 18, 3, 12, 27, [], 0), (12, .iload_n 1, 1, 13, 0, [], 0)]),
  (27, [(13, .aload_n 0, 1, 14, 0, [], 0), (14, .getfield 9, 3, 17, 0, [], 0), (17, .iload_n 2, 1, 18, 0, [], 0), (18, .iaload, 1, 19, 0, [], 0), (19, .iadd, 1, 20, 0, [], 0), (20, .istore_n 1, 1, 21, 0, [], 0), (21, .iinc 2 1, 3, 24, 0, [], 1), (24, .goto (-20), 3, 27, 4, [], 0), (27, .iload_n 1, 1, 28, 0, [], 0)]),
  (28, [(28, .ireturn, 1, 29, 0, [], 0)])]
set_option maxRecDepth 100000 in
theorem okX1_arities : okT cX1_arities tX1_arities = true := by decide +kernel
end
section
def tX2_begin : List (Nat × List Et) := [(14, [(0, .aload_n 0, 1, 1, 0, [], 0), (1, .iload_n 1, 1, 2, 0, [], 0), (2, .putfield 15, 3, 5, 0, [], 0), (5, .aload_n 0, 1, 6, 0, [], 0), (6, .iload_n 2, 1, 7, 0, [], 0), (7, .putfield 19, 3, 10, 0, [], 0), (10, .aload_n 0, 1, 11, 0, [], 0), (11, .getfield 9, 3, 14, 0, [], 0), (14, .iconst 0, 1, 15, 0, [], 0)]),
  (18, [(15, .invokestatic 22, 3, 18, 0, [], 0), (18, .return_, 1, 19, 0, [], 0)])]
set_option maxRecDepth 100000 in
theorem okX2_begin : okT cX2_begin tX2_begin = true := by decide +kernel
def tX2_faultAt : List (Nat × List Et) := [(14, [(0, .aload_n 0, 1, 1, 0, [], 0), (1, .getfield 15, 3, 4, 0, [], 0), (4, .iconst (-1), 1, 5, 0, [], (-1)), (5, .if_icmp .ne 5, 3, 8, 10, [], 0), (8, .iconst 1, 1, 9, 0, [], 1), (9, .ireturn, 1, 10, 0, [], 0), (10, .aload_n 0, 1, 11, 0, [], 0), (11, .getfield 15, 3, 14, 0, [], 0), (14, .iload_n 1, 1, 15, 0, [], 0)]),
  (29, [(15, .if_icmp .eq 5, 3, 18, 20, [], 0), (18, .iconst 3, 1, 19, 0, [], 3), (19, .ireturn, 1, 20, 0, [], 0), (20, .iload_n 2, 1, 21, 0, [], 0), (21, .ifCond .lt 13, 3, 24, 34, [], 0), (24, .iload_n 2, 1, 25, 0, [], 0), (25, .aload_n 0, 1, 26, 0, [], 0), (26, .getfield 19, 3, 29, 0, [], 0), (29, .iload_n 3, 1, 30, 0, [], 0)]),
  (39, [(30, .isub, 1, 31, 0, [], 0), (31, .if_icmp .le 7, 3, 34, 38, [], 0), (34, .iconst 2, 1, 35, 0, [], 2), (35, .goto 4, 3, 38, 39, [], 0), (38, .iconst 0, 1, 39, 0, [], 0), (39, .ireturn, 1, 40, 0, [], 0)])]
set_option maxRecDepth 100000 in
theorem okX2_faultAt : okT cX2_faultAt tX2_faultAt = true := by decide +kernel
def tX2_put : List (Nat × List Et) := [(14, [(0, .aload_n 0, 1, 1, 0, [], 0), (1, .getfield 15, 3, 4, 0, [], 0), (4, .ifCond .ne 14, 3, 7, 18, [], 0), (7, .aload_n 0, 1, 8, 0, [], 0), (8, .getfield 9, 3, 11, 0, [], 0), (11, .iload_n 1, 1, 12, 0, [], 0), (12, .iload_n 2, 1, 13, 0, [], 0), (13, .i2b, 1, 14, 0, [], 0), (14, .iastore, 1, 15, 0, [], 0)]),
  (31, [(15, .goto 29, 3, 18, 44, [], 0), (18, .aload_n 0, 1, 19, 0, [], 0), (19, .getfield 15, 3, 22, 0, [], 0), (22, .iconst 1, 1, 23, 0, [], 1), (23, .if_icmp .ne 14, 3, 26, 37, [], 0), (26, .aload_n 0, 1, 27, 0, [], 0), (27, .getfield 9, 3, 30, 0, [], 0), (30, .iload_n 1, 1, 31, 0, [], 0), (31, .iload_n 2, 1, 32, 0, [], 0)]),
  (44, [(32, .i2s, 1, 33, 0, [], 0), (33, .iastore, 1, 34, 0, [], 0), (34, .goto 10, 3, 37, 44, [], 0), (37, .aload_n 0, 1, 38, 0, [], 0), (38, .getfield 9, 3, 41, 0, [], 0), (41, .iload_n 1, 1, 42, 0, [], 0), (42, .iload_n 2, 1, 43, 0, [], 0), (43, .iastore, 1, 44, 0, [], 0), (44, .return_, 1, 45, 0, [], 0)])]
set_option maxRecDepth 100000 in
theorem okX2_put : okT cX2_put tX2_put = true := by decide +kernel
end
section
def tX3_tell : List (Nat × List Et) := [(14, [(0, .aload_n 0, 1, 1, 0, [], 0), (1, .iconst 0, 1, 2, 0, [], 0), (2, .putfield 15, 3, 5, 0, [], 0), (5, .aload_n 0, 1, 6, 0, [], 0), (6, .iconst 0, 1, 7, 0, [], 0), (7, .putfield 19, 3, 10, 0, [], 0), (10, .aload_n 0, 1, 11, 0, [], 0), (11, .invokevirtual 22, 3, 14, 0, [], 0), (14, .iconst 0, 1, 15, 0, [], 0)]),
  (30, [(15, .istore_n 2, 1, 16, 0, [], 0), (16, .iload_n 2, 1, 17, 0, [], 0), (17, .bipush 15, 2, 19, 0, [], 15), (19, .if_icmp .gt 55, 3, 22, 74, [], 0), (22, .aload_n 0, 1, 23, 0, [], 0), (23, .getfield 25, 3, 26, 0, [], 0), (26, .ifCond .eq 48, 3, 29, 74, [], 0), (29, .aload_n 0, 1, 30, 0, [], 0), (30, .ldc 28, 2, 32, 0, [], 0)]),
  (49, [(32, .invokevirtual 30, 3, 35, 0, [], 0), (35, .ifCond .eq 11, 3, 38, 46, [], 0), (38, .aload_n 0, 1, 39, 0, [], 0), (39, .aload_n 1, 1, 40, 0, [], 0), (40, .invokevirtual 34, 3, 43, 0, [], 0), (43, .goto 25, 3, 46, 68, [], 0), (46, .aload_n 0, 1, 47, 0, [], 0), (47, .ldc 38, 2, 49, 0, [], 0), (49, .invokevirtual 30, 3, 52, 0, [], 0)]),
  (68, [(52, .ifCond .eq 11, 3, 55, 63, [], 0), (55, .aload_n 0, 1, 56, 0, [], 0), (56, .aload_n 1, 1, 57, 0, [], 0), (57, .invokevirtual 40, 3, 60, 0, [], 0), (60, .goto 8, 3, 63, 68, [], 0), (63, .aload_n 0, 1, 64, 0, [], 0), (64, .iconst 2, 1, 65, 0, [], 2), (65, .invokevirtual 43, 3, 68, 0, [], 0), (68, .iinc 2 1, 3, 71, 0, [], 1)]),
  (75, [(71, .goto (-55), 3, 74, 16, [], 0), (74, .iload_n 2, 1, 75, 0, [], 0), (75, .ireturn, 1, 76, 0, [], 0)])]
set_option maxRecDepth 100000 in
theorem okX3_tell : okT cX3_tell tX3_tell = true := by decide +kernel
def tX3_step : List (Nat × List Et) := [(16, [(0, .aload_n 0, 1, 1, 0, [], 0), (1, .getfield 15, 3, 4, 0, [], 0), (4, .ifCond .eq 4, 3, 7, 8, [], 0), (7, .return_, 1, 8, 0, [], 0), (8, .aload_n 0, 1, 9, 0, [], 0), (9, .aload_n 0, 1, 10, 0, [], 0), (10, .getfield 19, 3, 13, 0, [], 0), (13, .putfield 104, 3, 16, 0, [], 0), (16, .aload_n 0, 1, 17, 0, [], 0)]),
  (35, [(17, .getfield 104, 3, 20, 0, [], 0), (20, .aload_n 0, 1, 21, 0, [], 0), (21, .getfield 116, 3, 24, 0, [], 0), (24, .if_icmp .ge 30, 3, 27, 54, [], 0), (27, .aload_n 0, 1, 28, 0, [], 0), (28, .getfield 9, 3, 31, 0, [], 0), (31, .aload_n 0, 1, 32, 0, [], 0), (32, .getfield 104, 3, 35, 0, [], 0), (35, .baload, 1, 36, 0, [], 0)]),
  (51, [(36, .bipush 32, 2, 38, 0, [], 32), (38, .if_icmp .ne 16, 3, 41, 54, [], 0), (41, .aload_n 0, 1, 42, 0, [], 0), (42, .dup, 1, 43, 0, [], 0), (43, .getfield 104, 3, 46, 0, [], 0), (46, .iconst 1, 1, 47, 0, [], 1), (47, .iadd, 1, 48, 0, [], 0), (48, .putfield 104, 3, 51, 0, [], 0), (51, .goto (-35), 3, 54, 16, [], 0)]),
  (68, [(54, .aload_n 0, 1, 55, 0, [], 0), (55, .aload_n 0, 1, 56, 0, [], 0), (56, .getfield 104, 3, 59, 0, [], 0), (59, .putfield 19, 3, 62, 0, [], 0), (62, .aload_n 0, 1, 63, 0, [], 0), (63, .iconst 0, 1, 64, 0, [], 0), (64, .putfield 25, 3, 67, 0, [], 0), (67, .aload_n 0, 1, 68, 0, [], 0), (68, .getfield 104, 3, 71, 0, [], 0)]),
  (85, [(71, .aload_n 0, 1, 72, 0, [], 0), (72, .getfield 116, 3, 75, 0, [], 0), (75, .if_icmp .lt 4, 3, 78, 79, [], 0), (78, .return_, 1, 79, 0, [], 0), (79, .aload_n 0, 1, 80, 0, [], 0), (80, .aload_n 0, 1, 81, 0, [], 0), (81, .getfield 9, 3, 84, 0, [], 0), (84, .aload_n 0, 1, 85, 0, [], 0), (85, .getfield 104, 3, 88, 0, [], 0)]),
  (102, [(88, .baload, 1, 89, 0, [], 0), (89, .invokestatic 118, 3, 92, 0, [], 0), (92, .putfield 25, 3, 95, 0, [], 0), (95, .aload_n 0, 1, 96, 0, [], 0), (96, .aload_n 0, 1, 97, 0, [], 0), (97, .getfield 104, 3, 100, 0, [], 0), (100, .iconst 1, 1, 101, 0, [], 1), (101, .iadd, 1, 102, 0, [], 0), (102, .putfield 19, 3, 105, 0, [], 0)]),
  (121, [(105, .aload_n 0, 1, 106, 0, [], 0), (106, .getfield 25, 3, 109, 0, [], 0), (109, .iconst 3, 1, 110, 0, [], 3), (110, .if_icmp .eq 46, 3, 113, 156, [], 0), (113, .aload_n 0, 1, 114, 0, [], 0), (114, .getfield 19, 3, 117, 0, [], 0), (117, .aload_n 0, 1, 118, 0, [], 0), (118, .getfield 116, 3, 121, 0, [], 0), (121, .if_icmp .ge 35, 3, 124, 156, [], 0)]),
  (140, [(124, .aload_n 0, 1, 125, 0, [], 0), (125, .getfield 9, 3, 128, 0, [], 0), (128, .aload_n 0, 1, 129, 0, [], 0), (129, .getfield 19, 3, 132, 0, [], 0), (132, .baload, 1, 133, 0, [], 0), (133, .invokestatic 118, 3, 136, 0, [], 0), (136, .aload_n 0, 1, 137, 0, [], 0), (137, .getfield 25, 3, 140, 0, [], 0), (140, .if_icmp .ne 16, 3, 143, 156, [], 0)]),
  (157, [(143, .aload_n 0, 1, 144, 0, [], 0), (144, .dup, 1, 145, 0, [], 0), (145, .getfield 19, 3, 148, 0, [], 0), (148, .iconst 1, 1, 149, 0, [], 1), (149, .iadd, 1, 150, 0, [], 0), (150, .putfield 19, 3, 153, 0, [], 0), (153, .goto (-48), 3, 156, 105, [], 0), (156, .aload_n 0, 1, 157, 0, [], 0), (157, .getfield 25, 3, 160, 0, [], 0)]),
  (176, [(160, .ifCond .eq 24, 3, 163, 184, [], 0), (163, .aload_n 0, 1, 164, 0, [], 0), (164, .getfield 25, 3, 167, 0, [], 0), (167, .iconst 2, 1, 168, 0, [], 2), (168, .if_icmp .ne 21, 3, 171, 189, [], 0), (171, .aload_n 0, 1, 172, 0, [], 0), (172, .getfield 19, 3, 175, 0, [], 0), (175, .aload_n 0, 1, 176, 0, [], 0), (176, .getfield 104, 3, 179, 0, [], 0)]),
  (189, [(179, .isub, 1, 180, 0, [], 0), (180, .iconst 2, 1, 181, 0, [], 2), (181, .if_icmp .le 8, 3, 184, 189, [], 0), (184, .aload_n 0, 1, 185, 0, [], 0), (185, .iconst 1, 1, 186, 0, [], 1), (186, .invokevirtual 43, 3, 189, 0, [], 0), (189, .return_, 1, 190, 0, [], 0)])]
set_option maxRecDepth 100000 in
theorem okX3_step : okT cX3_step tX3_step = true := by decide +kernel
def tX3_tokenOf : List (Nat × List Et) := [(14, [(0, .iload_n 0, 1, 1, 0, [], 0), (1, .bipush 97, 2, 3, 0, [], 97), (3, .if_icmp .lt 11, 3, 6, 14, [], 0), (6, .iload_n 0, 1, 7, 0, [], 0), (7, .bipush 122, 2, 9, 0, [], 122), (9, .if_icmp .gt 5, 3, 12, 14, [], 0), (12, .iconst 1, 1, 13, 0, [], 1), (13, .ireturn, 1, 14, 0, [], 0), (14, .iload_n 0, 1, 15, 0, [], 0)]),
  (29, [(15, .bipush 48, 2, 17, 0, [], 48), (17, .if_icmp .lt 11, 3, 20, 28, [], 0), (20, .iload_n 0, 1, 21, 0, [], 0), (21, .bipush 57, 2, 23, 0, [], 57), (23, .if_icmp .gt 5, 3, 26, 28, [], 0), (26, .iconst 2, 1, 27, 0, [], 2), (27, .ireturn, 1, 28, 0, [], 0), (28, .iload_n 0, 1, 29, 0, [], 0), (29, .bipush 45, 2, 31, 0, [], 45)]),
  (47, [(31, .if_icmp .eq 27, 3, 34, 58, [], 0), (34, .iload_n 0, 1, 35, 0, [], 0), (35, .bipush 47, 2, 37, 0, [], 47), (37, .if_icmp .eq 21, 3, 40, 58, [], 0), (40, .iload_n 0, 1, 41, 0, [], 0), (41, .bipush 43, 2, 43, 0, [], 43), (43, .if_icmp .eq 15, 3, 46, 58, [], 0), (46, .iload_n 0, 1, 47, 0, [], 0), (47, .bipush 38, 2, 49, 0, [], 38)]),
  (63, [(49, .if_icmp .eq 9, 3, 52, 58, [], 0), (52, .iload_n 0, 1, 53, 0, [], 0), (53, .bipush 59, 2, 55, 0, [], 59), (55, .if_icmp .ne 7, 3, 58, 62, [], 0), (58, .iconst 3, 1, 59, 0, [], 3), (59, .goto 4, 3, 62, 63, [], 0), (62, .iconst 0, 1, 63, 0, [], 0), (63, .ireturn, 1, 64, 0, [], 0)])]
set_option maxRecDepth 100000 in
theorem okX3_tokenOf : okT cX3_tokenOf tX3_tokenOf = true := by decide +kernel
def tX3_refuse : List (Nat × List Et) := [(14, [(0, .aload_n 0, 1, 1, 0, [], 0), (1, .getfield 15, 3, 4, 0, [], 0), (4, .ifCond .ne 8, 3, 7, 12, [], 0), (7, .aload_n 0, 1, 8, 0, [], 0), (8, .iload_n 1, 1, 9, 0, [], 0), (9, .putfield 15, 3, 12, 0, [], 0), (12, .aload_n 0, 1, 13, 0, [], 0), (13, .iconst 0, 1, 14, 0, [], 0), (14, .putfield 25, 3, 17, 0, [], 0)]),
  (17, [(17, .return_, 1, 18, 0, [], 0)])]
set_option maxRecDepth 100000 in
theorem okX3_refuse : okT cX3_refuse tX3_refuse = true := by decide +kernel
def tX3_isName : List (Nat × List Et) := [(16, [(0, .aload_n 0, 1, 1, 0, [], 0), (1, .getfield 25, 3, 4, 0, [], 0), (4, .iconst 1, 1, 5, 0, [], 1), (5, .if_icmp .ne 19, 3, 8, 24, [], 0), (8, .aload_n 0, 1, 9, 0, [], 0), (9, .getfield 19, 3, 12, 0, [], 0), (12, .aload_n 0, 1, 13, 0, [], 0), (13, .getfield 104, 3, 16, 0, [], 0), (16, .isub, 1, 17, 0, [], 0)]),
  (29, [(17, .aload_n 1, 1, 18, 0, [], 0), (18, .invokevirtual 107, 3, 21, 0, [], 0), (21, .if_icmp .eq 5, 3, 24, 26, [], 0), (24, .iconst 0, 1, 25, 0, [], 0), (25, .ireturn, 1, 26, 0, [], 0), (26, .iconst 0, 1, 27, 0, [], 0), (27, .istore_n 2, 1, 28, 0, [], 0), (28, .iload_n 2, 1, 29, 0, [], 0), (29, .aload_n 1, 1, 30, 0, [], 0)]),
  (46, [(30, .invokevirtual 107, 3, 33, 0, [], 0), (33, .if_icmp .ge 30, 3, 36, 63, [], 0), (36, .aload_n 0, 1, 37, 0, [], 0), (37, .getfield 9, 3, 40, 0, [], 0), (40, .aload_n 0, 1, 41, 0, [], 0), (41, .getfield 104, 3, 44, 0, [], 0), (44, .iload_n 2, 1, 45, 0, [], 0), (45, .iadd, 1, 46, 0, [], 0), (46, .baload, 1, 47, 0, [], 0)]),
  (63, [(47, .aload_n 1, 1, 48, 0, [], 0), (48, .iload_n 2, 1, 49, 0, [], 0), (49, .invokevirtual 112, 3, 52, 0, [], 0), (52, .if_icmp .eq 5, 3, 55, 57, [], 0), (55, .iconst 0, 1, 56, 0, [], 0), (56, .ireturn, 1, 57, 0, [], 0), (57, .iinc 2 1, 3, 60, 0, [], 1), (60, .goto (-32), 3, 63, 28, [], 0), (63, .iconst 1, 1, 64, 0, [], 1)]),
  (64, [(64, .ireturn, 1, 65, 0, [], 0)])]
set_option maxRecDepth 100000 in
theorem okX3_isName : okT cX3_isName tX3_isName = true := by decide +kernel
def tX3_tellFunction : List (Nat × List Et) := [(14, [(0, .aload_n 1, 1, 1, 0, [], 0), (1, .getfield 47, 3, 4, 0, [], 0), (4, .iconst 3, 1, 5, 0, [], 3), (5, .if_icmp .lt 9, 3, 8, 14, [], 0), (8, .aload_n 0, 1, 9, 0, [], 0), (9, .iconst 5, 1, 10, 0, [], 5), (10, .invokevirtual 43, 3, 13, 0, [], 0), (13, .return_, 1, 14, 0, [], 0), (14, .aload_n 0, 1, 15, 0, [], 0)]),
  (29, [(15, .invokevirtual 22, 3, 18, 0, [], 0), (18, .aload_n 0, 1, 19, 0, [], 0), (19, .iconst 1, 1, 20, 0, [], 1), (20, .iconst 2, 1, 21, 0, [], 2), (21, .invokevirtual 52, 3, 24, 0, [], 0), (24, .istore_n 2, 1, 25, 0, [], 0), (25, .aload_n 0, 1, 26, 0, [], 0), (26, .invokevirtual 56, 3, 29, 0, [], 0), (29, .aload_n 1, 1, 30, 0, [], 0)]),
  (34, [(30, .iload_n 2, 1, 31, 0, [], 0), (31, .invokevirtual 59, 3, 34, 0, [], 0), (34, .return_, 1, 35, 0, [], 0)])]
set_option maxRecDepth 100000 in
theorem okX3_tellFunction : okT cX3_tellFunction tX3_tellFunction = true := by decide +kernel
def tX3_takeNumber : List (Nat × List Et) := [(14, [(0, .aload_n 0, 1, 1, 0, [], 0), (1, .getfield 25, 3, 4, 0, [], 0), (4, .iconst 2, 1, 5, 0, [], 2), (5, .if_icmp .eq 10, 3, 8, 15, [], 0), (8, .aload_n 0, 1, 9, 0, [], 0), (9, .iconst 2, 1, 10, 0, [], 2), (10, .invokevirtual 43, 3, 13, 0, [], 0), (13, .iload_n 1, 1, 14, 0, [], 0), (14, .ireturn, 1, 15, 0, [], 0)]),
  (27, [(15, .aload_n 0, 1, 16, 0, [], 0), (16, .invokevirtual 100, 3, 19, 0, [], 0), (19, .istore_n 3, 1, 20, 0, [], 0), (20, .iload_n 3, 1, 21, 0, [], 0), (21, .iload_n 1, 1, 22, 0, [], 0), (22, .if_icmp .lt 8, 3, 25, 30, [], 0), (25, .iload_n 3, 1, 26, 0, [], 0), (26, .iload_n 2, 1, 27, 0, [], 0), (27, .if_icmp .le 10, 3, 30, 37, [], 0)]),
  (42, [(30, .aload_n 0, 1, 31, 0, [], 0), (31, .iconst 3, 1, 32, 0, [], 3), (32, .invokevirtual 43, 3, 35, 0, [], 0), (35, .iload_n 1, 1, 36, 0, [], 0), (36, .ireturn, 1, 37, 0, [], 0), (37, .aload_n 0, 1, 38, 0, [], 0), (38, .invokevirtual 22, 3, 41, 0, [], 0), (41, .iload_n 3, 1, 42, 0, [], 0), (42, .ireturn, 1, 43, 0, [], 0)])]
set_option maxRecDepth 100000 in
theorem okX3_takeNumber : okT cX3_takeNumber tX3_takeNumber = true := by decide +kernel
def tX3_numberRead : List (Nat × List Et) := [(12, [(0, .iconst 0, 1, 1, 0, [], 0), (1, .istore_n 1, 1, 2, 0, [], 0), (2, .aload_n 0, 1, 3, 0, [], 0), (3, .getfield 104, 3, 6, 0, [], 0), (6, .istore_n 2, 1, 7, 0, [], 0), (7, .iload_n 2, 1, 8, 0, [], 0), (8, .aload_n 0, 1, 9, 0, [], 0), (9, .getfield 19, 3, 12, 0, [], 0), (12, .if_icmp .ge 24, 3, 15, 36, [], 0)]),
  (26, [(15, .bipush 10, 2, 17, 0, [], 10), (17, .iload_n 1, 1, 18, 0, [], 0), (18, .imul, 1, 19, 0, [], 0), (19, .aload_n 0, 1, 20, 0, [], 0), (20, .getfield 9, 3, 23, 0, [], 0), (23, .iload_n 2, 1, 24, 0, [], 0), (24, .baload, 1, 25, 0, [], 0), (25, .iadd, 1, 26, 0, [], 0), (26, .bipush 48, 2, 28, 0, [], 48)]),
  (37, [(28, .isub, 1, 29, 0, [], 0), (29, .istore_n 1, 1, 30, 0, [], 0), (30, .iinc 2 1, 3, 33, 0, [], 1), (33, .goto (-26), 3, 36, 7, [], 0), (36, .iload_n 1, 1, 37, 0, [], 0), (37, .ireturn, 1, 38, 0, [], 0)])]
set_option maxRecDepth 100000 in
theorem okX3_numberRead : okT cX3_numberRead tX3_numberRead = true := by decide +kernel
def tX3_takeLineEnd : List (Nat × List Et) := [(17, [(0, .aload_n 0, 1, 1, 0, [], 0), (1, .bipush 59, 2, 3, 0, [], 59), (3, .invokevirtual 88, 3, 6, 0, [], 0), (6, .ifCond .eq 10, 3, 9, 16, [], 0), (9, .aload_n 0, 1, 10, 0, [], 0), (10, .invokevirtual 22, 3, 13, 0, [], 0), (13, .goto 8, 3, 16, 21, [], 0), (16, .aload_n 0, 1, 17, 0, [], 0), (17, .iconst 2, 1, 18, 0, [], 2)]),
  (21, [(18, .invokevirtual 43, 3, 21, 0, [], 0), (21, .return_, 1, 22, 0, [], 0)])]
set_option maxRecDepth 100000 in
theorem okX3_takeLineEnd : okT cX3_takeLineEnd tX3_takeLineEnd = true := by decide +kernel
def tX3_isSign : List (Nat × List Et) := [(16, [(0, .aload_n 0, 1, 1, 0, [], 0), (1, .getfield 25, 3, 4, 0, [], 0), (4, .iconst 3, 1, 5, 0, [], 3), (5, .if_icmp .ne 20, 3, 8, 25, [], 0), (8, .aload_n 0, 1, 9, 0, [], 0), (9, .getfield 9, 3, 12, 0, [], 0), (12, .aload_n 0, 1, 13, 0, [], 0), (13, .getfield 104, 3, 16, 0, [], 0), (16, .baload, 1, 17, 0, [], 0)]),
  (26, [(17, .iload_n 1, 1, 18, 0, [], 0), (18, .if_icmp .ne 7, 3, 21, 25, [], 0), (21, .iconst 1, 1, 22, 0, [], 1), (22, .goto 4, 3, 25, 26, [], 0), (25, .iconst 0, 1, 26, 0, [], 0), (26, .ireturn, 1, 27, 0, [], 0)])]
set_option maxRecDepth 100000 in
theorem okX3_isSign : okT cX3_isSign tX3_isSign = true := by decide +kernel
def tX3_tellCall : List (Nat × List Et) := [(15, [(0, .aload_n 1, 1, 1, 0, [], 0), (1, .getfield 62, 3, 4, 0, [], 0), (4, .bipush 12, 2, 6, 0, [], 12), (6, .if_icmp .lt 9, 3, 9, 15, [], 0), (9, .aload_n 0, 1, 10, 0, [], 0), (10, .iconst 5, 1, 11, 0, [], 5), (11, .invokevirtual 43, 3, 14, 0, [], 0), (14, .return_, 1, 15, 0, [], 0), (15, .aload_n 0, 1, 16, 0, [], 0)]),
  (30, [(16, .invokevirtual 22, 3, 19, 0, [], 0), (19, .aload_n 0, 1, 20, 0, [], 0), (20, .iconst 0, 1, 21, 0, [], 0), (21, .aload_n 1, 1, 22, 0, [], 0), (22, .getfield 47, 3, 25, 0, [], 0), (25, .iconst 1, 1, 26, 0, [], 1), (26, .isub, 1, 27, 0, [], 0), (27, .invokevirtual 52, 3, 30, 0, [], 0), (30, .istore_n 2, 1, 31, 0, [], 0)]),
  (43, [(31, .aload_n 0, 1, 32, 0, [], 0), (32, .iconst 0, 1, 33, 0, [], 0), (33, .aload_n 1, 1, 34, 0, [], 0), (34, .getfield 47, 3, 37, 0, [], 0), (37, .iconst 1, 1, 38, 0, [], 1), (38, .isub, 1, 39, 0, [], 0), (39, .invokevirtual 52, 3, 42, 0, [], 0), (42, .istore_n 3, 1, 43, 0, [], 0), (43, .aload_n 1, 1, 44, 0, [], 0)]),
  (58, [(44, .getfield 62, 3, 47, 0, [], 0), (47, .istore 4, 2, 49, 0, [], 0), (49, .aload_n 1, 1, 50, 0, [], 0), (50, .iload_n 2, 1, 51, 0, [], 0), (51, .iload_n 3, 1, 52, 0, [], 0), (52, .invokevirtual 65, 3, 55, 0, [], 0), (55, .iconst 0, 1, 56, 0, [], 0), (56, .istore 5, 2, 58, 0, [], 0), (58, .iload 5, 2, 60, 0, [], 0)]),
  (74, [(60, .aload_n 1, 1, 61, 0, [], 0), (61, .getfield 69, 3, 64, 0, [], 0), (64, .iload_n 3, 1, 65, 0, [], 0), (65, .iaload, 1, 66, 0, [], 0), (66, .if_icmp .ge 27, 3, 69, 93, [], 0), (69, .aload_n 1, 1, 70, 0, [], 0), (70, .iload 4, 2, 72, 0, [], 0), (72, .iload 5, 2, 74, 0, [], 0), (74, .aload_n 0, 1, 75, 0, [], 0)]),
  (93, [(75, .aload_n 1, 1, 76, 0, [], 0), (76, .getfield 69, 3, 79, 0, [], 0), (79, .iload_n 2, 1, 80, 0, [], 0), (80, .iaload, 1, 81, 0, [], 0), (81, .invokevirtual 73, 3, 84, 0, [], 0), (84, .invokevirtual 77, 3, 87, 0, [], 0), (87, .iinc 5 1, 3, 90, 0, [], 1), (90, .goto (-32), 3, 93, 58, [], 0), (93, .aload_n 0, 1, 94, 0, [], 0)]),
  (97, [(94, .invokevirtual 56, 3, 97, 0, [], 0), (97, .return_, 1, 98, 0, [], 0)])]
set_option maxRecDepth 100000 in
theorem okX3_tellCall : okT cX3_tellCall tX3_tellCall = true := by decide +kernel
def tX3_takeArgument : List (Nat × List Et) := [(12, [(0, .aload_n 0, 1, 1, 0, [], 0), (1, .getfield 25, 3, 4, 0, [], 0), (4, .iconst 2, 1, 5, 0, [], 2), (5, .if_icmp .ne 16, 3, 8, 21, [], 0), (8, .iconst 0, 1, 9, 0, [], 0), (9, .iconst 0, 1, 10, 0, [], 0), (10, .aload_n 0, 1, 11, 0, [], 0), (11, .iconst 0, 1, 12, 0, [], 0), (12, .bipush 9, 2, 14, 0, [], 9)]),
  (28, [(14, .invokevirtual 52, 3, 17, 0, [], 0), (17, .invokestatic 81, 3, 20, 0, [], 0), (20, .ireturn, 1, 21, 0, [], 0), (21, .aload_n 0, 1, 22, 0, [], 0), (22, .iload_n 1, 1, 23, 0, [], 0), (23, .invokevirtual 85, 3, 26, 0, [], 0), (26, .istore_n 2, 1, 27, 0, [], 0), (27, .aload_n 0, 1, 28, 0, [], 0), (28, .bipush 45, 2, 30, 0, [], 45)]),
  (44, [(30, .invokevirtual 88, 3, 33, 0, [], 0), (33, .ifCond .eq 20, 3, 36, 53, [], 0), (36, .aload_n 0, 1, 37, 0, [], 0), (37, .invokevirtual 22, 3, 40, 0, [], 0), (40, .iconst 1, 1, 41, 0, [], 1), (41, .iload_n 2, 1, 42, 0, [], 0), (42, .aload_n 0, 1, 43, 0, [], 0), (43, .iconst 0, 1, 44, 0, [], 0), (44, .bipush 9, 2, 46, 0, [], 9)]),
  (63, [(46, .invokevirtual 52, 3, 49, 0, [], 0), (49, .invokestatic 81, 3, 52, 0, [], 0), (52, .ireturn, 1, 53, 0, [], 0), (53, .aload_n 0, 1, 54, 0, [], 0), (54, .bipush 47, 2, 56, 0, [], 47), (56, .invokevirtual 88, 3, 59, 0, [], 0), (59, .ifCond .eq 20, 3, 62, 79, [], 0), (62, .aload_n 0, 1, 63, 0, [], 0), (63, .invokevirtual 22, 3, 66, 0, [], 0)]),
  (79, [(66, .iconst 2, 1, 67, 0, [], 2), (67, .iload_n 2, 1, 68, 0, [], 0), (68, .aload_n 0, 1, 69, 0, [], 0), (69, .iconst 1, 1, 70, 0, [], 1), (70, .bipush 9, 2, 72, 0, [], 9), (72, .invokevirtual 52, 3, 75, 0, [], 0), (75, .invokestatic 81, 3, 78, 0, [], 0), (78, .ireturn, 1, 79, 0, [], 0), (79, .aload_n 0, 1, 80, 0, [], 0)]),
  (95, [(80, .bipush 43, 2, 82, 0, [], 43), (82, .invokevirtual 88, 3, 85, 0, [], 0), (85, .ifCond .eq 20, 3, 88, 105, [], 0), (88, .aload_n 0, 1, 89, 0, [], 0), (89, .invokevirtual 22, 3, 92, 0, [], 0), (92, .iconst 3, 1, 93, 0, [], 3), (93, .iload_n 2, 1, 94, 0, [], 0), (94, .aload_n 0, 1, 95, 0, [], 0), (95, .iconst 0, 1, 96, 0, [], 0)]),
  (114, [(96, .bipush 9, 2, 98, 0, [], 9), (98, .invokevirtual 52, 3, 101, 0, [], 0), (101, .invokestatic 81, 3, 104, 0, [], 0), (104, .ireturn, 1, 105, 0, [], 0), (105, .aload_n 0, 1, 106, 0, [], 0), (106, .bipush 38, 2, 108, 0, [], 38), (108, .invokevirtual 88, 3, 111, 0, [], 0), (111, .ifCond .eq 23, 3, 114, 134, [], 0), (114, .aload_n 0, 1, 115, 0, [], 0)]),
  (129, [(115, .invokevirtual 22, 3, 118, 0, [], 0), (118, .aload_n 0, 1, 119, 0, [], 0), (119, .iload_n 1, 1, 120, 0, [], 0), (120, .invokevirtual 85, 3, 123, 0, [], 0), (123, .iload_n 2, 1, 124, 0, [], 0), (124, .if_icmp .eq 10, 3, 127, 134, [], 0), (127, .iconst 4, 1, 128, 0, [], 4), (128, .iconst 0, 1, 129, 0, [], 0), (129, .iconst 0, 1, 130, 0, [], 0)]),
  (140, [(130, .invokestatic 81, 3, 133, 0, [], 0), (133, .ireturn, 1, 134, 0, [], 0), (134, .iconst 1, 1, 135, 0, [], 1), (135, .iload_n 2, 1, 136, 0, [], 0), (136, .iconst 0, 1, 137, 0, [], 0), (137, .invokestatic 81, 3, 140, 0, [], 0), (140, .ireturn, 1, 141, 0, [], 0)])]
set_option maxRecDepth 100000 in
theorem okX3_takeArgument : okT cX3_takeArgument tX3_takeArgument = true := by decide +kernel
def tX3_takeValue : List (Nat × List Et) := [(14, [(0, .aload_n 0, 1, 1, 0, [], 0), (1, .ldc 92, 2, 3, 0, [], 0), (3, .invokevirtual 30, 3, 6, 0, [], 0), (6, .istore_n 2, 1, 7, 0, [], 0), (7, .iload_n 2, 1, 8, 0, [], 0), (8, .ifCond .ne 20, 3, 11, 28, [], 0), (11, .aload_n 0, 1, 12, 0, [], 0), (12, .ldc 94, 2, 14, 0, [], 0), (14, .invokevirtual 30, 3, 17, 0, [], 0)]),
  (33, [(17, .ifCond .ne 11, 3, 20, 28, [], 0), (20, .aload_n 0, 1, 21, 0, [], 0), (21, .iconst 2, 1, 22, 0, [], 2), (22, .invokevirtual 43, 3, 25, 0, [], 0), (25, .goto 24, 3, 28, 49, [], 0), (28, .iload_n 2, 1, 29, 0, [], 0), (29, .ifCond .eq 16, 3, 32, 45, [], 0), (32, .iload_n 1, 1, 33, 0, [], 0), (33, .iconst 2, 1, 34, 0, [], 2)]),
  (50, [(34, .if_icmp .ge 11, 3, 37, 45, [], 0), (37, .aload_n 0, 1, 38, 0, [], 0), (38, .iconst 3, 1, 39, 0, [], 3), (39, .invokevirtual 43, 3, 42, 0, [], 0), (42, .goto 7, 3, 45, 49, [], 0), (45, .aload_n 0, 1, 46, 0, [], 0), (46, .invokevirtual 22, 3, 49, 0, [], 0), (49, .iload_n 2, 1, 50, 0, [], 0), (50, .invokestatic 96, 3, 53, 0, [], 0)]),
  (53, [(53, .ireturn, 1, 54, 0, [], 0)])]
set_option maxRecDepth 100000 in
theorem okX3_takeValue : okT cX3_takeValue tX3_takeValue = true := by decide +kernel
end
section
def tX4_feed : List (Nat × List Et) := [(13, [(0, .iload_n 1, 1, 1, 0, [], 0), (1, .ifCond .lt 9, 3, 4, 10, [], 0), (4, .iload_n 1, 1, 5, 0, [], 0), (5, .bipush 127, 2, 7, 0, [], 127), (7, .if_icmp .le 5, 3, 10, 12, [], 0), (10, .iconst (-1), 1, 11, 0, [], (-1)), (11, .ireturn, 1, 12, 0, [], 0), (12, .aload_n 0, 1, 13, 0, [], 0), (13, .getfield 10, 3, 16, 0, [], 0)]),
  (35, [(16, .getfield 52, 3, 19, 0, [], 0), (19, .sipush 160, 3, 22, 0, [], 160), (22, .if_icmp .lt 6, 3, 25, 28, [], 0), (25, .bipush (-3), 2, 27, 0, [], (-3)), (27, .ireturn, 1, 28, 0, [], 0), (28, .aload_n 0, 1, 29, 0, [], 0), (29, .getfield 10, 3, 32, 0, [], 0), (32, .getfield 56, 3, 35, 0, [], 0), (35, .aload_n 0, 1, 36, 0, [], 0)]),
  (50, [(36, .getfield 10, 3, 39, 0, [], 0), (39, .getfield 52, 3, 42, 0, [], 0), (42, .iload_n 1, 1, 43, 0, [], 0), (43, .i2b, 1, 44, 0, [], 0), (44, .bastore, 1, 45, 0, [], 0), (45, .aload_n 0, 1, 46, 0, [], 0), (46, .getfield 10, 3, 49, 0, [], 0), (49, .dup, 1, 50, 0, [], 0), (50, .getfield 52, 3, 53, 0, [], 0)]),
  (65, [(53, .iconst 1, 1, 54, 0, [], 1), (54, .iadd, 1, 55, 0, [], 0), (55, .putfield 52, 3, 58, 0, [], 0), (58, .aload_n 0, 1, 59, 0, [], 0), (59, .getfield 10, 3, 62, 0, [], 0), (62, .getfield 52, 3, 65, 0, [], 0), (65, .ireturn, 1, 66, 0, [], 0)])]
set_option maxRecDepth 100000 in
theorem okX4_feed : okT cX4_feed tX4_feed = true := by decide +kernel
def tX4_end : List (Nat × List Et) := [(14, [(0, .aload_n 0, 1, 1, 0, [], 0), (1, .getfield 10, 3, 4, 0, [], 0), (4, .getfield 52, 3, 7, 0, [], 0), (7, .istore_n 2, 1, 8, 0, [], 0), (8, .iload_n 1, 1, 9, 0, [], 0), (9, .ifCond .lt 8, 3, 12, 17, [], 0), (12, .iload_n 1, 1, 13, 0, [], 0), (13, .iload_n 2, 1, 14, 0, [], 0), (14, .if_icmp .le 5, 3, 17, 19, [], 0)]),
  (28, [(17, .iconst (-1), 1, 18, 0, [], (-1)), (18, .ireturn, 1, 19, 0, [], 0), (19, .aload_n 0, 1, 20, 0, [], 0), (20, .getfield 10, 3, 23, 0, [], 0), (23, .iload_n 1, 1, 24, 0, [], 0), (24, .putfield 52, 3, 27, 0, [], 0), (27, .iload_n 2, 1, 28, 0, [], 0), (28, .ireturn, 1, 29, 0, [], 0)])]
set_option maxRecDepth 100000 in
theorem okX4_end : okT cX4_end tX4_end = true := by decide +kernel
def tX4_text : List (Nat × List Et) := [(18, [(0, .aload_n 0, 1, 1, 0, [], 0), (1, .getfield 23, 3, 4, 0, [], 0), (4, .invokevirtual 60, 3, 7, 0, [], 0), (7, .aload_n 0, 1, 8, 0, [], 0), (8, .getfield 10, 3, 11, 0, [], 0), (11, .aload_n 0, 1, 12, 0, [], 0), (12, .getfield 23, 3, 15, 0, [], 0), (15, .invokevirtual 63, 3, 18, 0, [], 0), (18, .istore_n 1, 1, 19, 0, [], 0)]),
  (37, [(19, .aload_n 0, 1, 20, 0, [], 0), (20, .getfield 10, 3, 23, 0, [], 0), (23, .iconst 0, 1, 24, 0, [], 0), (24, .putfield 52, 3, 27, 0, [], 0), (27, .aload_n 0, 1, 28, 0, [], 0), (28, .getfield 10, 3, 31, 0, [], 0), (31, .getfield 67, 3, 34, 0, [], 0), (34, .ifCond .eq 14, 3, 37, 48, [], 0), (37, .bipush (-10), 2, 39, 0, [], (-10))]),
  (53, [(39, .aload_n 0, 1, 40, 0, [], 0), (40, .getfield 10, 3, 43, 0, [], 0), (43, .getfield 70, 3, 46, 0, [], 0), (46, .isub, 1, 47, 0, [], 0), (47, .ireturn, 1, 48, 0, [], 0), (48, .aload_n 0, 1, 49, 0, [], 0), (49, .getfield 19, 3, 52, 0, [], 0), (52, .aload_n 0, 1, 53, 0, [], 0), (53, .getfield 23, 3, 56, 0, [], 0)]),
  (68, [(56, .invokevirtual 73, 3, 59, 0, [], 0), (59, .aload_n 0, 1, 60, 0, [], 0), (60, .iconst 1, 1, 61, 0, [], 1), (61, .putfield 47, 3, 64, 0, [], 0), (64, .iconst 0, 1, 65, 0, [], 0), (65, .istore_n 2, 1, 66, 0, [], 0), (66, .iload_n 2, 1, 67, 0, [], 0), (67, .iconst 2, 1, 68, 0, [], 2), (68, .if_icmp .ge 16, 3, 71, 84, [], 0)]),
  (85, [(71, .aload_n 0, 1, 72, 0, [], 0), (72, .getfield 37, 3, 75, 0, [], 0), (75, .iload_n 2, 1, 76, 0, [], 0), (76, .iconst 0, 1, 77, 0, [], 0), (77, .bastore, 1, 78, 0, [], 0), (78, .iinc 2 1, 3, 81, 0, [], 1), (81, .goto (-15), 3, 84, 66, [], 0), (84, .iload_n 1, 1, 85, 0, [], 0), (85, .ireturn, 1, 86, 0, [], 0)])]
set_option maxRecDepth 100000 in
theorem okX4_text : okT cX4_text tX4_text = true := by decide +kernel
def tX4_argumentOf : List (Nat × List Et) := [(10, [(0, .bipush 100, 2, 2, 0, [], 100), (2, .iload_n 0, 1, 3, 0, [], 0), (3, .imul, 1, 4, 0, [], 0), (4, .bipush 10, 2, 6, 0, [], 10), (6, .iload_n 1, 1, 7, 0, [], 0), (7, .imul, 1, 8, 0, [], 0), (8, .iadd, 1, 9, 0, [], 0), (9, .iload_n 2, 1, 10, 0, [], 0), (10, .iadd, 1, 11, 0, [], 0)]),
  (11, [(11, .ireturn, 1, 12, 0, [], 0)])]
set_option maxRecDepth 100000 in
theorem okX4_argumentOf : okT cX4_argumentOf tX4_argumentOf = true := by decide +kernel
def tX4_bit : List (Nat × List Et) := [(9, [(0, .iload_n 0, 1, 1, 0, [], 0), (1, .ifCond .eq 7, 3, 4, 8, [], 0), (4, .iconst 1, 1, 5, 0, [], 1), (5, .goto 4, 3, 8, 9, [], 0), (8, .iconst 0, 1, 9, 0, [], 0), (9, .ireturn, 1, 10, 0, [], 0)])]
set_option maxRecDepth 100000 in
theorem okX4_bit : okT cX4_bit tX4_bit = true := by decide +kernel
def tX4_fault : List (Nat × List Et) := [(7, [(0, .aload_n 0, 1, 1, 0, [], 0), (1, .getfield 10, 3, 4, 0, [], 0), (4, .getfield 67, 3, 7, 0, [], 0), (7, .ireturn, 1, 8, 0, [], 0)])]
set_option maxRecDepth 100000 in
theorem okX4_fault : okT cX4_fault tX4_fault = true := by decide +kernel
def tX4_rule : List (Nat × List Et) := [(60, [(0, .iload_n 1, 1, 1, 0, [], 0), (1, .tableswitch 129 0 7 #[47, 55, 63, 71, 79, 87, 106, 121], 47, 48, 130, [48, 56, 64, 72, 80, 88, 107, 122], 0), (48, .aload_n 0, 1, 49, 0, [], 0), (49, .getfield 19, 3, 52, 0, [], 0), (52, .getfield 77, 3, 55, 0, [], 0), (55, .ireturn, 1, 56, 0, [], 0), (56, .aload_n 0, 1, 57, 0, [], 0), (57, .getfield 19, 3, 60, 0, [], 0), (60, .getfield 80, 3, 63, 0, [], 0)]),
  (79, [(63, .ireturn, 1, 64, 0, [], 0), (64, .aload_n 0, 1, 65, 0, [], 0), (65, .invokevirtual 83, 3, 68, 0, [], 0), (68, .getfield 87, 3, 71, 0, [], 0), (71, .ireturn, 1, 72, 0, [], 0), (72, .aload_n 0, 1, 73, 0, [], 0), (73, .invokevirtual 83, 3, 76, 0, [], 0), (76, .invokevirtual 90, 3, 79, 0, [], 0), (79, .ireturn, 1, 80, 0, [], 0)]),
  (98, [(80, .aload_n 0, 1, 81, 0, [], 0), (81, .invokevirtual 83, 3, 84, 0, [], 0), (84, .getfield 94, 3, 87, 0, [], 0), (87, .ireturn, 1, 88, 0, [], 0), (88, .aload_n 0, 1, 89, 0, [], 0), (89, .invokevirtual 83, 3, 92, 0, [], 0), (92, .getfield 94, 3, 95, 0, [], 0), (95, .ifCond .ne 7, 3, 98, 102, [], 0), (98, .iconst 1, 1, 99, 0, [], 1)]),
  (115, [(99, .goto 4, 3, 102, 103, [], 0), (102, .iconst 0, 1, 103, 0, [], 0), (103, .invokestatic 97, 3, 106, 0, [], 0), (106, .ireturn, 1, 107, 0, [], 0), (107, .aload_n 0, 1, 108, 0, [], 0), (108, .invokevirtual 83, 3, 111, 0, [], 0), (111, .aload_n 0, 1, 112, 0, [], 0), (112, .getfield 19, 3, 115, 0, [], 0), (115, .getfield 77, 3, 118, 0, [], 0)]),
  (131, [(118, .invokevirtual 101, 3, 121, 0, [], 0), (121, .ireturn, 1, 122, 0, [], 0), (122, .aload_n 0, 1, 123, 0, [], 0), (123, .invokevirtual 83, 3, 126, 0, [], 0), (126, .invokevirtual 105, 3, 129, 0, [], 0), (129, .ireturn, 1, 130, 0, [], 0), (130, .iconst (-1), 1, 131, 0, [], (-1)), (131, .ireturn, 1, 132, 0, [], 0)])]
set_option maxRecDepth 100000 in
theorem okX4_rule : okT cX4_rule tX4_rule = true := by decide +kernel
def tX4_fresh : List (Nat × List Et) := [(16, [(0, .aload_n 0, 1, 1, 0, [], 0), (1, .getfield 47, 3, 4, 0, [], 0), (4, .ifCond .eq 20, 3, 7, 24, [], 0), (7, .aload_n 0, 1, 8, 0, [], 0), (8, .getfield 29, 3, 11, 0, [], 0), (11, .aload_n 0, 1, 12, 0, [], 0), (12, .getfield 19, 3, 15, 0, [], 0), (15, .iconst 0, 1, 16, 0, [], 0), (16, .invokevirtual 282, 3, 19, 0, [], 0)]),
  (28, [(19, .aload_n 0, 1, 20, 0, [], 0), (20, .iconst 0, 1, 21, 0, [], 0), (21, .putfield 47, 3, 24, 0, [], 0), (24, .aload_n 0, 1, 25, 0, [], 0), (25, .getfield 29, 3, 28, 0, [], 0), (28, .areturn, 1, 29, 0, [], 0)])]
set_option maxRecDepth 100000 in
theorem okX4_fresh : okT cX4_fresh tX4_fresh = true := by decide +kernel
def tX4_kindOf : List (Nat × List Et) := [(4, [(0, .iload_n 0, 1, 1, 0, [], 0), (1, .bipush 100, 2, 3, 0, [], 100), (3, .idiv, 1, 4, 0, [], 0), (4, .ireturn, 1, 5, 0, [], 0)])]
set_option maxRecDepth 100000 in
theorem okX4_kindOf : okT cX4_kindOf tX4_kindOf = true := by decide +kernel
def tX4_numberOf : List (Nat × List Et) := [(4, [(0, .iload_n 0, 1, 1, 0, [], 0), (1, .bipush 10, 2, 3, 0, [], 10), (3, .irem, 1, 4, 0, [], 0), (4, .ireturn, 1, 5, 0, [], 0)])]
set_option maxRecDepth 100000 in
theorem okX4_numberOf : okT cX4_numberOf tX4_numberOf = true := by decide +kernel
def tX4_valueOf : List (Nat × List Et) := [(7, [(0, .iload_n 0, 1, 1, 0, [], 0), (1, .bipush 10, 2, 3, 0, [], 10), (3, .idiv, 1, 4, 0, [], 0), (4, .bipush 10, 2, 6, 0, [], 10), (6, .irem, 1, 7, 0, [], 0), (7, .ireturn, 1, 8, 0, [], 0)])]
set_option maxRecDepth 100000 in
theorem okX4_valueOf : okT cX4_valueOf tX4_valueOf = true := by decide +kernel
def tX4_fun : List (Nat × List Et) := [(14, [(0, .aload_n 0, 1, 1, 0, [], 0), (1, .getfield 19, 3, 4, 0, [], 0), (4, .iload_n 1, 1, 5, 0, [], 0), (5, .invokevirtual 108, 3, 8, 0, [], 0), (8, .ifCond .ne 5, 3, 11, 13, [], 0), (11, .iconst (-1), 1, 12, 0, [], (-1)), (12, .ireturn, 1, 13, 0, [], 0), (13, .iload_n 2, 1, 14, 0, [], 0), (14, .tableswitch 92 0 4 #[34, 44, 53, 62, 82], 34, 48, 106, [48, 58, 67, 76, 96], 0)]),
  (62, [(48, .aload_n 0, 1, 49, 0, [], 0), (49, .getfield 19, 3, 52, 0, [], 0), (52, .getfield 112, 3, 55, 0, [], 0), (55, .iload_n 1, 1, 56, 0, [], 0), (56, .iaload, 1, 57, 0, [], 0), (57, .ireturn, 1, 58, 0, [], 0), (58, .aload_n 0, 1, 59, 0, [], 0), (59, .getfield 19, 3, 62, 0, [], 0), (62, .iload_n 1, 1, 63, 0, [], 0)]),
  (77, [(63, .invokevirtual 116, 3, 66, 0, [], 0), (66, .ireturn, 1, 67, 0, [], 0), (67, .aload_n 0, 1, 68, 0, [], 0), (68, .invokevirtual 83, 3, 71, 0, [], 0), (71, .iload_n 1, 1, 72, 0, [], 0), (72, .invokevirtual 119, 3, 75, 0, [], 0), (75, .ireturn, 1, 76, 0, [], 0), (76, .aload_n 0, 1, 77, 0, [], 0), (77, .invokevirtual 83, 3, 80, 0, [], 0)]),
  (96, [(80, .iload_n 1, 1, 81, 0, [], 0), (81, .invokevirtual 122, 3, 84, 0, [], 0), (84, .ifCond .ge 7, 3, 87, 91, [], 0), (87, .iconst 1, 1, 88, 0, [], 1), (88, .goto 4, 3, 91, 92, [], 0), (91, .iconst 0, 1, 92, 0, [], 0), (92, .invokestatic 97, 3, 95, 0, [], 0), (95, .ireturn, 1, 96, 0, [], 0), (96, .aload_n 0, 1, 97, 0, [], 0)]),
  (107, [(97, .invokevirtual 83, 3, 100, 0, [], 0), (100, .getfield 125, 3, 103, 0, [], 0), (103, .iload_n 1, 1, 104, 0, [], 0), (104, .iaload, 1, 105, 0, [], 0), (105, .ireturn, 1, 106, 0, [], 0), (106, .iconst (-1), 1, 107, 0, [], (-1)), (107, .ireturn, 1, 108, 0, [], 0)])]
set_option maxRecDepth 100000 in
theorem okX4_fun : okT cX4_fun tX4_fun = true := by decide +kernel
def tX4_call : List (Nat × List Et) := [(14, [(0, .aload_n 0, 1, 1, 0, [], 0), (1, .getfield 19, 3, 4, 0, [], 0), (4, .iload_n 1, 1, 5, 0, [], 0), (5, .invokevirtual 128, 3, 8, 0, [], 0), (8, .ifCond .ne 5, 3, 11, 13, [], 0), (11, .iconst (-1), 1, 12, 0, [], (-1)), (12, .ireturn, 1, 13, 0, [], 0), (13, .iload_n 2, 1, 14, 0, [], 0), (14, .tableswitch 72 0 3 #[30, 40, 50, 62], 30, 44, 86, [44, 54, 64, 76], 0)]),
  (58, [(44, .aload_n 0, 1, 45, 0, [], 0), (45, .getfield 19, 3, 48, 0, [], 0), (48, .getfield 131, 3, 51, 0, [], 0), (51, .iload_n 1, 1, 52, 0, [], 0), (52, .iaload, 1, 53, 0, [], 0), (53, .ireturn, 1, 54, 0, [], 0), (54, .aload_n 0, 1, 55, 0, [], 0), (55, .getfield 19, 3, 58, 0, [], 0), (58, .getfield 134, 3, 61, 0, [], 0)]),
  (75, [(61, .iload_n 1, 1, 62, 0, [], 0), (62, .iaload, 1, 63, 0, [], 0), (63, .ireturn, 1, 64, 0, [], 0), (64, .aload_n 0, 1, 65, 0, [], 0), (65, .getfield 19, 3, 68, 0, [], 0), (68, .iload_n 1, 1, 69, 0, [], 0), (69, .invokevirtual 137, 3, 72, 0, [], 0), (72, .invokestatic 140, 3, 75, 0, [], 0), (75, .ireturn, 1, 76, 0, [], 0)]),
  (87, [(76, .aload_n 0, 1, 77, 0, [], 0), (77, .invokevirtual 83, 3, 80, 0, [], 0), (80, .getfield 143, 3, 83, 0, [], 0), (83, .iload_n 1, 1, 84, 0, [], 0), (84, .iaload, 1, 85, 0, [], 0), (85, .ireturn, 1, 86, 0, [], 0), (86, .iconst (-1), 1, 87, 0, [], (-1)), (87, .ireturn, 1, 88, 0, [], 0)])]
set_option maxRecDepth 100000 in
theorem okX4_call : okT cX4_call tX4_call = true := by decide +kernel
def tX4_argument : List (Nat × List Et) := [(14, [(0, .aload_n 0, 1, 1, 0, [], 0), (1, .getfield 19, 3, 4, 0, [], 0), (4, .iload_n 1, 1, 5, 0, [], 0), (5, .iload_n 2, 1, 6, 0, [], 0), (6, .invokevirtual 146, 3, 9, 0, [], 0), (9, .ifCond .ne 5, 3, 12, 14, [], 0), (12, .iconst (-1), 1, 13, 0, [], (-1)), (13, .ireturn, 1, 14, 0, [], 0), (14, .aload_n 0, 1, 15, 0, [], 0)]),
  (32, [(15, .getfield 19, 3, 18, 0, [], 0), (18, .iload_n 1, 1, 19, 0, [], 0), (19, .iload_n 2, 1, 20, 0, [], 0), (20, .invokevirtual 150, 3, 23, 0, [], 0), (23, .istore 4, 2, 25, 0, [], 0), (25, .iload 4, 2, 27, 0, [], 0), (27, .invokestatic 154, 3, 30, 0, [], 0), (30, .istore 5, 2, 32, 0, [], 0), (32, .iload_n 3, 1, 33, 0, [], 0)]),
  (74, [(33, .tableswitch 58 0 2 #[27, 30, 52], 27, 60, 91, [60, 63, 85], 0), (60, .iload 5, 2, 62, 0, [], 0), (62, .ireturn, 1, 63, 0, [], 0), (63, .iload 5, 2, 65, 0, [], 0), (65, .ifCond .eq 9, 3, 68, 74, [], 0), (68, .iload 5, 2, 70, 0, [], 0), (70, .iconst 4, 1, 71, 0, [], 4), (71, .if_icmp .ne 8, 3, 74, 79, [], 0), (74, .bipush (-4), 2, 76, 0, [], (-4))]),
  (92, [(76, .goto 8, 3, 79, 84, [], 0), (79, .iload 4, 2, 81, 0, [], 0), (81, .invokestatic 157, 3, 84, 0, [], 0), (84, .ireturn, 1, 85, 0, [], 0), (85, .iload 4, 2, 87, 0, [], 0), (87, .invokestatic 160, 3, 90, 0, [], 0), (90, .ireturn, 1, 91, 0, [], 0), (91, .iconst (-1), 1, 92, 0, [], (-1)), (92, .ireturn, 1, 93, 0, [], 0)])]
set_option maxRecDepth 100000 in
theorem okX4_argument : okT cX4_argument tX4_argument = true := by decide +kernel
def tX4_graph : List (Nat × List Et) := [(14, [(0, .aload_n 0, 1, 1, 0, [], 0), (1, .invokevirtual 83, 3, 4, 0, [], 0), (4, .astore_n 3, 1, 5, 0, [], 0), (5, .aload_n 3, 1, 6, 0, [], 0), (6, .iload_n 1, 1, 7, 0, [], 0), (7, .invokevirtual 163, 3, 10, 0, [], 0), (10, .ifCond .ne 5, 3, 13, 15, [], 0), (13, .iconst (-1), 1, 14, 0, [], (-1)), (14, .ireturn, 1, 15, 0, [], 0)]),
  (72, [(15, .iload_n 2, 1, 16, 0, [], 0), (16, .tableswitch 128 0 7 #[48, 54, 60, 70, 77, 86, 110, 119], 48, 64, 144, [64, 70, 76, 86, 93, 102, 126, 135], 0), (64, .aload_n 3, 1, 65, 0, [], 0), (65, .iload_n 1, 1, 66, 0, [], 0), (66, .invokevirtual 166, 3, 69, 0, [], 0), (69, .ireturn, 1, 70, 0, [], 0), (70, .aload_n 3, 1, 71, 0, [], 0), (71, .iload_n 1, 1, 72, 0, [], 0), (72, .invokevirtual 169, 3, 75, 0, [], 0)]),
  (87, [(75, .ireturn, 1, 76, 0, [], 0), (76, .aload_n 3, 1, 77, 0, [], 0), (77, .getfield 172, 3, 80, 0, [], 0), (80, .iload_n 1, 1, 81, 0, [], 0), (81, .iaload, 1, 82, 0, [], 0), (82, .invokestatic 140, 3, 85, 0, [], 0), (85, .ireturn, 1, 86, 0, [], 0), (86, .aload_n 3, 1, 87, 0, [], 0), (87, .getfield 175, 3, 90, 0, [], 0)]),
  (102, [(90, .iload_n 1, 1, 91, 0, [], 0), (91, .iaload, 1, 92, 0, [], 0), (92, .ireturn, 1, 93, 0, [], 0), (93, .aload_n 3, 1, 94, 0, [], 0), (94, .iload_n 1, 1, 95, 0, [], 0), (95, .invokevirtual 178, 3, 98, 0, [], 0), (98, .invokestatic 97, 3, 101, 0, [], 0), (101, .ireturn, 1, 102, 0, [], 0), (102, .aload_n 3, 1, 103, 0, [], 0)]),
  (117, [(103, .iload_n 1, 1, 104, 0, [], 0), (104, .invokevirtual 166, 3, 107, 0, [], 0), (107, .aload_n 3, 1, 108, 0, [], 0), (108, .iload_n 1, 1, 109, 0, [], 0), (109, .invokevirtual 169, 3, 112, 0, [], 0), (112, .if_icmp .ne 11, 3, 115, 123, [], 0), (115, .aload_n 3, 1, 116, 0, [], 0), (116, .iload_n 1, 1, 117, 0, [], 0), (117, .invokevirtual 181, 3, 120, 0, [], 0)]),
  (135, [(120, .goto 5, 3, 123, 125, [], 0), (123, .bipush (-4), 2, 125, 0, [], (-4)), (125, .ireturn, 1, 126, 0, [], 0), (126, .aload_n 3, 1, 127, 0, [], 0), (127, .iload_n 1, 1, 128, 0, [], 0), (128, .invokevirtual 184, 3, 131, 0, [], 0), (131, .invokestatic 97, 3, 134, 0, [], 0), (134, .ireturn, 1, 135, 0, [], 0), (135, .aload_n 3, 1, 136, 0, [], 0)]),
  (145, [(136, .iload_n 1, 1, 137, 0, [], 0), (137, .invokevirtual 187, 3, 140, 0, [], 0), (140, .invokestatic 97, 3, 143, 0, [], 0), (143, .ireturn, 1, 144, 0, [], 0), (144, .iconst (-1), 1, 145, 0, [], (-1)), (145, .ireturn, 1, 146, 0, [], 0)])]
set_option maxRecDepth 100000 in
theorem okX4_graph : okT cX4_graph tX4_graph = true := by decide +kernel
def tX4_word : List (Nat × List Et) := [(14, [(0, .aload_n 0, 1, 1, 0, [], 0), (1, .invokevirtual 83, 3, 4, 0, [], 0), (4, .astore_n 3, 1, 5, 0, [], 0), (5, .aload_n 3, 1, 6, 0, [], 0), (6, .iload_n 1, 1, 7, 0, [], 0), (7, .invokevirtual 163, 3, 10, 0, [], 0), (10, .ifCond .eq 7, 3, 13, 17, [], 0), (13, .iload_n 2, 1, 14, 0, [], 0), (14, .ifCond .ge 5, 3, 17, 19, [], 0)]),
  (29, [(17, .iconst (-1), 1, 18, 0, [], (-1)), (18, .ireturn, 1, 19, 0, [], 0), (19, .iload_n 2, 1, 20, 0, [], 0), (20, .aload_n 3, 1, 21, 0, [], 0), (21, .getfield 175, 3, 24, 0, [], 0), (24, .iload_n 1, 1, 25, 0, [], 0), (25, .iaload, 1, 26, 0, [], 0), (26, .if_icmp .ge 12, 3, 29, 38, [], 0), (29, .aload_n 3, 1, 30, 0, [], 0)]),
  (40, [(30, .iload_n 1, 1, 31, 0, [], 0), (31, .iload_n 2, 1, 32, 0, [], 0), (32, .invokevirtual 190, 3, 35, 0, [], 0), (35, .goto 5, 3, 38, 40, [], 0), (38, .bipush (-4), 2, 40, 0, [], (-4)), (40, .ireturn, 1, 41, 0, [], 0)])]
set_option maxRecDepth 100000 in
theorem okX4_word : okT cX4_word tX4_word = true := by decide +kernel
def tX4_find : List (Nat × List Et) := [(16, [(0, .aload_n 0, 1, 1, 0, [], 0), (1, .getfield 19, 3, 4, 0, [], 0), (4, .iload_n 1, 1, 5, 0, [], 0), (5, .invokevirtual 108, 3, 8, 0, [], 0), (8, .ifCond .eq 24, 3, 11, 32, [], 0), (11, .aload_n 0, 1, 12, 0, [], 0), (12, .getfield 19, 3, 15, 0, [], 0), (15, .iload_n 2, 1, 16, 0, [], 0), (16, .invokevirtual 108, 3, 19, 0, [], 0)]),
  (34, [(19, .ifCond .eq 13, 3, 22, 32, [], 0), (22, .iload_n 3, 1, 23, 0, [], 0), (23, .ifCond .lt 9, 3, 26, 32, [], 0), (26, .iload_n 3, 1, 27, 0, [], 0), (27, .bipush 81, 2, 29, 0, [], 81), (29, .if_icmp .lt 5, 3, 32, 34, [], 0), (32, .iconst (-1), 1, 33, 0, [], (-1)), (33, .ireturn, 1, 34, 0, [], 0), (34, .aload_n 0, 1, 35, 0, [], 0)]),
  (47, [(35, .invokevirtual 83, 3, 38, 0, [], 0), (38, .iload_n 1, 1, 39, 0, [], 0), (39, .iload_n 2, 1, 40, 0, [], 0), (40, .iload_n 3, 1, 41, 0, [], 0), (41, .invokevirtual 193, 3, 44, 0, [], 0), (44, .invokestatic 196, 3, 47, 0, [], 0), (47, .ireturn, 1, 48, 0, [], 0)])]
set_option maxRecDepth 100000 in
theorem okX4_find : okT cX4_find tX4_find = true := by decide +kernel
def tX4_orNone : List (Nat × List Et) := [(10, [(0, .iload_n 0, 1, 1, 0, [], 0), (1, .ifCond .ge 8, 3, 4, 9, [], 0), (4, .bipush (-4), 2, 6, 0, [], (-4)), (6, .goto 4, 3, 9, 10, [], 0), (9, .iload_n 0, 1, 10, 0, [], 0), (10, .ireturn, 1, 11, 0, [], 0)])]
set_option maxRecDepth 100000 in
theorem okX4_orNone : okT cX4_orNone tX4_orNone = true := by decide +kernel
def tX4_compose : List (Nat × List Et) := [(14, [(0, .aload_n 0, 1, 1, 0, [], 0), (1, .invokevirtual 83, 3, 4, 0, [], 0), (4, .astore_n 3, 1, 5, 0, [], 0), (5, .aload_n 3, 1, 6, 0, [], 0), (6, .iload_n 1, 1, 7, 0, [], 0), (7, .invokevirtual 163, 3, 10, 0, [], 0), (10, .ifCond .eq 11, 3, 13, 21, [], 0), (13, .aload_n 3, 1, 14, 0, [], 0), (14, .iload_n 2, 1, 15, 0, [], 0)]),
  (29, [(15, .invokevirtual 163, 3, 18, 0, [], 0), (18, .ifCond .ne 5, 3, 21, 23, [], 0), (21, .iconst (-1), 1, 22, 0, [], (-1)), (22, .ireturn, 1, 23, 0, [], 0), (23, .aload_n 3, 1, 24, 0, [], 0), (24, .iload_n 1, 1, 25, 0, [], 0), (25, .invokevirtual 169, 3, 28, 0, [], 0), (28, .aload_n 3, 1, 29, 0, [], 0), (29, .iload_n 2, 1, 30, 0, [], 0)]),
  (45, [(30, .invokevirtual 166, 3, 33, 0, [], 0), (33, .if_icmp .eq 6, 3, 36, 39, [], 0), (36, .bipush (-4), 2, 38, 0, [], (-4)), (38, .ireturn, 1, 39, 0, [], 0), (39, .aload_n 3, 1, 40, 0, [], 0), (40, .getfield 172, 3, 43, 0, [], 0), (43, .iload_n 1, 1, 44, 0, [], 0), (44, .iaload, 1, 45, 0, [], 0), (45, .aload_n 3, 1, 46, 0, [], 0)]),
  (59, [(46, .getfield 172, 3, 49, 0, [], 0), (49, .iload_n 2, 1, 50, 0, [], 0), (50, .iaload, 1, 51, 0, [], 0), (51, .invokestatic 199, 3, 54, 0, [], 0), (54, .istore 4, 2, 56, 0, [], 0), (56, .aload_n 3, 1, 57, 0, [], 0), (57, .aload_n 3, 1, 58, 0, [], 0), (58, .iload_n 1, 1, 59, 0, [], 0), (59, .invokevirtual 166, 3, 62, 0, [], 0)]),
  (78, [(62, .aload_n 3, 1, 63, 0, [], 0), (63, .iload_n 2, 1, 64, 0, [], 0), (64, .invokevirtual 169, 3, 67, 0, [], 0), (67, .iload 4, 2, 69, 0, [], 0), (69, .invokestatic 140, 3, 72, 0, [], 0), (72, .invokevirtual 193, 3, 75, 0, [], 0), (75, .invokestatic 196, 3, 78, 0, [], 0), (78, .ireturn, 1, 79, 0, [], 0)])]
set_option maxRecDepth 100000 in
theorem okX4_compose : okT cX4_compose tX4_compose = true := by decide +kernel
def tX4_witness : List (Nat × List Et) := [(14, [(0, .aload_n 0, 1, 1, 0, [], 0), (1, .getfield 19, 3, 4, 0, [], 0), (4, .iload_n 1, 1, 5, 0, [], 0), (5, .invokevirtual 108, 3, 8, 0, [], 0), (8, .ifCond .ne 5, 3, 11, 13, [], 0), (11, .iconst (-1), 1, 12, 0, [], (-1)), (12, .ireturn, 1, 13, 0, [], 0), (13, .aload_n 0, 1, 14, 0, [], 0), (14, .invokevirtual 83, 3, 17, 0, [], 0)]),
  (24, [(17, .iload_n 1, 1, 18, 0, [], 0), (18, .invokevirtual 122, 3, 21, 0, [], 0), (21, .invokestatic 196, 3, 24, 0, [], 0), (24, .ireturn, 1, 25, 0, [], 0)])]
set_option maxRecDepth 100000 in
theorem okX4_witness : okT cX4_witness tX4_witness = true := by decide +kernel
def tX4_open : List (Nat × List Et) := [(12, [(0, .iload_n 1, 1, 1, 0, [], 0), (1, .iconst 1, 1, 2, 0, [], 1), (2, .if_icmp .lt 8, 3, 5, 10, [], 0), (5, .iload_n 1, 1, 6, 0, [], 0), (6, .iconst 2, 1, 7, 0, [], 2), (7, .if_icmp .le 5, 3, 10, 12, [], 0), (10, .iconst (-1), 1, 11, 0, [], (-1)), (11, .ireturn, 1, 12, 0, [], 0), (12, .aload_n 0, 1, 13, 0, [], 0)]),
  (30, [(13, .getfield 19, 3, 16, 0, [], 0), (16, .getfield 77, 3, 19, 0, [], 0), (19, .iconst 3, 1, 20, 0, [], 3), (20, .if_icmp .lt 6, 3, 23, 26, [], 0), (23, .bipush (-3), 2, 25, 0, [], (-3)), (25, .ireturn, 1, 26, 0, [], 0), (26, .aload_n 0, 1, 27, 0, [], 0), (27, .getfield 19, 3, 30, 0, [], 0), (30, .iload_n 1, 1, 31, 0, [], 0)]),
  (46, [(31, .invokevirtual 202, 3, 34, 0, [], 0), (34, .aload_n 0, 1, 35, 0, [], 0), (35, .iconst 1, 1, 36, 0, [], 1), (36, .putfield 47, 3, 39, 0, [], 0), (39, .aload_n 0, 1, 40, 0, [], 0), (40, .getfield 19, 3, 43, 0, [], 0), (43, .getfield 77, 3, 46, 0, [], 0), (46, .ireturn, 1, 47, 0, [], 0)])]
set_option maxRecDepth 100000 in
theorem okX4_open : okT cX4_open tX4_open = true := by decide +kernel
def tX4_add : List (Nat × List Et) := [(16, [(0, .aload_n 0, 1, 1, 0, [], 0), (1, .getfield 19, 3, 4, 0, [], 0), (4, .iload_n 1, 1, 5, 0, [], 0), (5, .invokevirtual 108, 3, 8, 0, [], 0), (8, .ifCond .eq 14, 3, 11, 22, [], 0), (11, .aload_n 0, 1, 12, 0, [], 0), (12, .getfield 19, 3, 15, 0, [], 0), (15, .iload_n 2, 1, 16, 0, [], 0), (16, .invokevirtual 108, 3, 19, 0, [], 0)]),
  (36, [(19, .ifCond .ne 5, 3, 22, 24, [], 0), (22, .iconst (-1), 1, 23, 0, [], (-1)), (23, .ireturn, 1, 24, 0, [], 0), (24, .aload_n 0, 1, 25, 0, [], 0), (25, .getfield 19, 3, 28, 0, [], 0), (28, .getfield 80, 3, 31, 0, [], 0), (31, .bipush 12, 2, 33, 0, [], 12), (33, .if_icmp .lt 6, 3, 36, 39, [], 0), (36, .bipush (-3), 2, 38, 0, [], (-3))]),
  (50, [(38, .ireturn, 1, 39, 0, [], 0), (39, .aload_n 0, 1, 40, 0, [], 0), (40, .getfield 19, 3, 43, 0, [], 0), (43, .iload_n 1, 1, 44, 0, [], 0), (44, .iload_n 2, 1, 45, 0, [], 0), (45, .invokevirtual 206, 3, 48, 0, [], 0), (48, .aload_n 0, 1, 49, 0, [], 0), (49, .iconst 1, 1, 50, 0, [], 1), (50, .putfield 47, 3, 53, 0, [], 0)]),
  (60, [(53, .aload_n 0, 1, 54, 0, [], 0), (54, .getfield 19, 3, 57, 0, [], 0), (57, .getfield 80, 3, 60, 0, [], 0), (60, .ireturn, 1, 61, 0, [], 0)])]
set_option maxRecDepth 100000 in
theorem okX4_add : okT cX4_add tX4_add = true := by decide +kernel
def tX4_cut : List (Nat × List Et) := [(14, [(0, .aload_n 0, 1, 1, 0, [], 0), (1, .getfield 19, 3, 4, 0, [], 0), (4, .getfield 80, 3, 7, 0, [], 0), (7, .istore_n 2, 1, 8, 0, [], 0), (8, .iload_n 1, 1, 9, 0, [], 0), (9, .ifCond .lt 8, 3, 12, 17, [], 0), (12, .iload_n 1, 1, 13, 0, [], 0), (13, .iload_n 2, 1, 14, 0, [], 0), (14, .if_icmp .le 5, 3, 17, 19, [], 0)]),
  (29, [(17, .iconst (-1), 1, 18, 0, [], (-1)), (18, .ireturn, 1, 19, 0, [], 0), (19, .aload_n 0, 1, 20, 0, [], 0), (20, .getfield 19, 3, 23, 0, [], 0), (23, .iload_n 1, 1, 24, 0, [], 0), (24, .putfield 80, 3, 27, 0, [], 0), (27, .aload_n 0, 1, 28, 0, [], 0), (28, .iconst 1, 1, 29, 0, [], 1), (29, .putfield 47, 3, 32, 0, [], 0)]),
  (33, [(32, .iload_n 2, 1, 33, 0, [], 0), (33, .ireturn, 1, 34, 0, [], 0)])]
set_option maxRecDepth 100000 in
theorem okX4_cut : okT cX4_cut tX4_cut = true := by decide +kernel
def tX4_set : List (Nat × List Et) := [(14, [(0, .aload_n 0, 1, 1, 0, [], 0), (1, .getfield 19, 3, 4, 0, [], 0), (4, .iload_n 1, 1, 5, 0, [], 0), (5, .iload_n 2, 1, 6, 0, [], 0), (6, .iload_n 3, 1, 7, 0, [], 0), (7, .invokevirtual 210, 3, 10, 0, [], 0), (10, .ifCond .ne 5, 3, 13, 15, [], 0), (13, .iconst (-1), 1, 14, 0, [], (-1)), (14, .ireturn, 1, 15, 0, [], 0)]),
  (30, [(15, .aload_n 0, 1, 16, 0, [], 0), (16, .getfield 19, 3, 19, 0, [], 0), (19, .iload_n 1, 1, 20, 0, [], 0), (20, .iload_n 2, 1, 21, 0, [], 0), (21, .invokevirtual 150, 3, 24, 0, [], 0), (24, .istore 4, 2, 26, 0, [], 0), (26, .aload_n 0, 1, 27, 0, [], 0), (27, .getfield 19, 3, 30, 0, [], 0), (30, .iload_n 1, 1, 31, 0, [], 0)]),
  (43, [(31, .iload_n 2, 1, 32, 0, [], 0), (32, .iload_n 3, 1, 33, 0, [], 0), (33, .invokevirtual 214, 3, 36, 0, [], 0), (36, .aload_n 0, 1, 37, 0, [], 0), (37, .iconst 1, 1, 38, 0, [], 1), (38, .putfield 47, 3, 41, 0, [], 0), (41, .iload 4, 2, 43, 0, [], 0), (43, .ireturn, 1, 44, 0, [], 0)])]
set_option maxRecDepth 100000 in
theorem okX4_set : okT cX4_set tX4_set = true := by decide +kernel
def tX4_spare : List (Nat × List Et) := [(12, [(0, .aload_n 0, 1, 1, 0, [], 0), (1, .invokevirtual 83, 3, 4, 0, [], 0), (4, .invokevirtual 218, 3, 7, 0, [], 0), (7, .istore_n 1, 1, 8, 0, [], 0), (8, .iconst 0, 1, 9, 0, [], 0), (9, .istore_n 2, 1, 10, 0, [], 0), (10, .iload_n 2, 1, 11, 0, [], 0), (11, .aload_n 0, 1, 12, 0, [], 0), (12, .getfield 19, 3, 15, 0, [], 0)]),
  (29, [(15, .getfield 80, 3, 18, 0, [], 0), (18, .if_icmp .ge 45, 3, 21, 63, [], 0), (21, .iload_n 1, 1, 22, 0, [], 0), (22, .iload_n 2, 1, 23, 0, [], 0), (23, .ishr, 1, 24, 0, [], 0), (24, .iconst 1, 1, 25, 0, [], 1), (25, .iand, 1, 26, 0, [], 0), (26, .ifCond .eq 31, 3, 29, 57, [], 0), (29, .aload_n 0, 1, 30, 0, [], 0)]),
  (48, [(30, .getfield 23, 3, 33, 0, [], 0), (33, .aload_n 0, 1, 34, 0, [], 0), (34, .getfield 19, 3, 37, 0, [], 0), (37, .invokevirtual 73, 3, 40, 0, [], 0), (40, .aload_n 0, 1, 41, 0, [], 0), (41, .getfield 23, 3, 44, 0, [], 0), (44, .iload_n 2, 1, 45, 0, [], 0), (45, .invokevirtual 221, 3, 48, 0, [], 0), (48, .aload_n 0, 1, 49, 0, [], 0)]),
  (65, [(49, .invokevirtual 224, 3, 52, 0, [], 0), (52, .ifCond .eq 5, 3, 55, 57, [], 0), (55, .iload_n 2, 1, 56, 0, [], 0), (56, .ireturn, 1, 57, 0, [], 0), (57, .iinc 2 1, 3, 60, 0, [], 1), (60, .goto (-50), 3, 63, 10, [], 0), (63, .bipush (-4), 2, 65, 0, [], (-4)), (65, .ireturn, 1, 66, 0, [], 0)])]
set_option maxRecDepth 100000 in
theorem okX4_spare : okT cX4_spare tX4_spare = true := by decide +kernel
def tX4_trialEnds : List (Nat × List Et) := [(14, [(0, .aload_n 0, 1, 1, 0, [], 0), (1, .iconst 1, 1, 2, 0, [], 1), (2, .putfield 47, 3, 5, 0, [], 0), (5, .aload_n 0, 1, 6, 0, [], 0), (6, .getfield 29, 3, 9, 0, [], 0), (9, .aload_n 0, 1, 10, 0, [], 0), (10, .getfield 23, 3, 13, 0, [], 0), (13, .iconst 1, 1, 14, 0, [], 1), (14, .invokevirtual 282, 3, 17, 0, [], 0)]),
  (32, [(17, .aload_n 0, 1, 18, 0, [], 0), (18, .getfield 29, 3, 21, 0, [], 0), (21, .getfield 94, 3, 24, 0, [], 0), (24, .ifCond .ne 7, 3, 27, 31, [], 0), (27, .iconst 1, 1, 28, 0, [], 1), (28, .goto 4, 3, 31, 32, [], 0), (31, .iconst 0, 1, 32, 0, [], 0), (32, .ireturn, 1, 33, 0, [], 0)])]
set_option maxRecDepth 100000 in
theorem okX4_trialEnds : okT cX4_trialEnds tX4_trialEnds = true := by decide +kernel
def tX4_mend : List (Nat × List Et) := [(13, [(0, .aload_n 0, 1, 1, 0, [], 0), (1, .invokevirtual 83, 3, 4, 0, [], 0), (4, .invokevirtual 218, 3, 7, 0, [], 0), (7, .istore_n 1, 1, 8, 0, [], 0), (8, .iconst 0, 1, 9, 0, [], 0), (9, .istore_n 2, 1, 10, 0, [], 0), (10, .iload_n 2, 1, 11, 0, [], 0), (11, .bipush 100, 2, 13, 0, [], 100), (13, .aload_n 0, 1, 14, 0, [], 0)]),
  (29, [(14, .getfield 19, 3, 17, 0, [], 0), (17, .getfield 80, 3, 20, 0, [], 0), (20, .imul, 1, 21, 0, [], 0), (21, .if_icmp .ge 89, 3, 24, 110, [], 0), (24, .iload_n 2, 1, 25, 0, [], 0), (25, .bipush 100, 2, 27, 0, [], 100), (27, .idiv, 1, 28, 0, [], 0), (28, .istore_n 3, 1, 29, 0, [], 0), (29, .iload_n 2, 1, 30, 0, [], 0)]),
  (42, [(30, .bipush 10, 2, 32, 0, [], 10), (32, .idiv, 1, 33, 0, [], 0), (33, .bipush 10, 2, 35, 0, [], 10), (35, .irem, 1, 36, 0, [], 0), (36, .istore 4, 2, 38, 0, [], 0), (38, .iconst 1, 1, 39, 0, [], 1), (39, .iload_n 2, 1, 40, 0, [], 0), (40, .bipush 10, 2, 42, 0, [], 10), (42, .irem, 1, 43, 0, [], 0)]),
  (54, [(43, .iconst 1, 1, 44, 0, [], 1), (44, .invokestatic 228, 3, 47, 0, [], 0), (47, .istore 5, 2, 49, 0, [], 0), (49, .iload_n 1, 1, 50, 0, [], 0), (50, .iload_n 3, 1, 51, 0, [], 0), (51, .ishr, 1, 52, 0, [], 0), (52, .iconst 1, 1, 53, 0, [], 1), (53, .iand, 1, 54, 0, [], 0), (54, .ifCond .eq 50, 3, 57, 104, [], 0)]),
  (73, [(57, .aload_n 0, 1, 58, 0, [], 0), (58, .getfield 19, 3, 61, 0, [], 0), (61, .iload_n 3, 1, 62, 0, [], 0), (62, .iload 4, 2, 64, 0, [], 0), (64, .iload 5, 2, 66, 0, [], 0), (66, .invokevirtual 210, 3, 69, 0, [], 0), (69, .ifCond .eq 35, 3, 72, 104, [], 0), (72, .aload_n 0, 1, 73, 0, [], 0), (73, .getfield 23, 3, 76, 0, [], 0)]),
  (92, [(76, .aload_n 0, 1, 77, 0, [], 0), (77, .getfield 19, 3, 80, 0, [], 0), (80, .invokevirtual 73, 3, 83, 0, [], 0), (83, .aload_n 0, 1, 84, 0, [], 0), (84, .getfield 23, 3, 87, 0, [], 0), (87, .iload_n 3, 1, 88, 0, [], 0), (88, .iload 4, 2, 90, 0, [], 0), (90, .iload 5, 2, 92, 0, [], 0), (92, .invokevirtual 214, 3, 95, 0, [], 0)]),
  (112, [(95, .aload_n 0, 1, 96, 0, [], 0), (96, .invokevirtual 224, 3, 99, 0, [], 0), (99, .ifCond .eq 5, 3, 102, 104, [], 0), (102, .iload_n 2, 1, 103, 0, [], 0), (103, .ireturn, 1, 104, 0, [], 0), (104, .iinc 2 1, 3, 107, 0, [], 1), (107, .goto (-97), 3, 110, 10, [], 0), (110, .bipush (-4), 2, 112, 0, [], (-4)), (112, .ireturn, 1, 113, 0, [], 0)])]
set_option maxRecDepth 100000 in
theorem okX4_mend : okT cX4_mend tX4_mend = true := by decide +kernel
def tX4_loops : List (Nat × List Et) := [(7, [(0, .aload_n 0, 1, 1, 0, [], 0), (1, .invokevirtual 83, 3, 4, 0, [], 0), (4, .invokevirtual 231, 3, 7, 0, [], 0), (7, .ireturn, 1, 8, 0, [], 0)])]
set_option maxRecDepth 100000 in
theorem okX4_loops : okT cX4_loops tX4_loops = true := by decide +kernel
def tX4_run : List (Nat × List Et) := [(16, [(0, .aload_n 0, 1, 1, 0, [], 0), (1, .getfield 19, 3, 4, 0, [], 0), (4, .iload_n 1, 1, 5, 0, [], 0), (5, .invokevirtual 108, 3, 8, 0, [], 0), (8, .ifCond .eq 23, 3, 11, 31, [], 0), (11, .iload_n 2, 1, 12, 0, [], 0), (12, .ifCond .lt 19, 3, 15, 31, [], 0), (15, .iload_n 2, 1, 16, 0, [], 0), (16, .bipush 99, 2, 18, 0, [], 99)]),
  (33, [(18, .if_icmp .gt 13, 3, 21, 31, [], 0), (21, .iload_n 3, 1, 22, 0, [], 0), (22, .ifCond .lt 9, 3, 25, 31, [], 0), (25, .iload_n 3, 1, 26, 0, [], 0), (26, .bipush 99, 2, 28, 0, [], 99), (28, .if_icmp .le 5, 3, 31, 33, [], 0), (31, .iconst (-1), 1, 32, 0, [], (-1)), (32, .ireturn, 1, 33, 0, [], 0), (33, .aload_n 0, 1, 34, 0, [], 0)]),
  (50, [(34, .getfield 19, 3, 37, 0, [], 0), (37, .getfield 112, 3, 40, 0, [], 0), (40, .iload_n 1, 1, 41, 0, [], 0), (41, .iaload, 1, 42, 0, [], 0), (42, .iconst 1, 1, 43, 0, [], 1), (43, .if_icmp .ne 9, 3, 46, 52, [], 0), (46, .iload_n 3, 1, 47, 0, [], 0), (47, .ifCond .eq 5, 3, 50, 52, [], 0), (50, .iconst (-1), 1, 51, 0, [], (-1))]),
  (63, [(51, .ireturn, 1, 52, 0, [], 0), (52, .iload_n 1, 1, 53, 0, [], 0), (53, .istore 5, 2, 55, 0, [], 0), (55, .iload_n 2, 1, 56, 0, [], 0), (56, .istore 6, 2, 58, 0, [], 0), (58, .iload_n 3, 1, 59, 0, [], 0), (59, .istore 7, 2, 61, 0, [], 0), (61, .iload 4, 2, 63, 0, [], 0), (63, .istore 8, 2, 65, 0, [], 0)]),
  (82, [(65, .iconst 0, 1, 66, 0, [], 0), (66, .istore 9, 2, 68, 0, [], 0), (68, .iload 9, 2, 70, 0, [], 0), (70, .sipush 200, 3, 73, 0, [], 200), (73, .if_icmp .ge 118, 3, 76, 191, [], 0), (76, .aload_n 0, 1, 77, 0, [], 0), (77, .getfield 19, 3, 80, 0, [], 0), (80, .iload 5, 2, 82, 0, [], 0), (82, .iload 6, 2, 84, 0, [], 0)]),
  (101, [(84, .iload 7, 2, 86, 0, [], 0), (86, .invokevirtual 234, 3, 89, 0, [], 0), (89, .istore 10, 2, 91, 0, [], 0), (91, .iload 10, 2, 93, 0, [], 0), (93, .ifCond .ne 6, 3, 96, 99, [], 0), (96, .iload 9, 2, 98, 0, [], 0), (98, .ireturn, 1, 99, 0, [], 0), (99, .iload 8, 2, 101, 0, [], 0), (101, .ldc 237, 2, 103, 0, [], 0)]),
  (118, [(103, .imul, 1, 104, 0, [], 0), (104, .sipush 12345, 3, 107, 0, [], 12345), (107, .iadd, 1, 108, 0, [], 0), (108, .istore 8, 2, 110, 0, [], 0), (110, .aload_n 0, 1, 111, 0, [], 0), (111, .getfield 19, 3, 114, 0, [], 0), (114, .iload 5, 2, 116, 0, [], 0), (116, .iload 6, 2, 118, 0, [], 0), (118, .iload 7, 2, 120, 0, [], 0)]),
  (135, [(120, .iload 8, 2, 122, 0, [], 0), (122, .bipush 16, 2, 124, 0, [], 16), (124, .iushr, 1, 125, 0, [], 0), (125, .sipush 32767, 3, 128, 0, [], 32767), (128, .iand, 1, 129, 0, [], 0), (129, .iload 10, 2, 131, 0, [], 0), (131, .irem, 1, 132, 0, [], 0), (132, .invokevirtual 238, 3, 135, 0, [], 0), (135, .istore 11, 2, 137, 0, [], 0)]),
  (153, [(137, .aload_n 0, 1, 138, 0, [], 0), (138, .getfield 19, 3, 141, 0, [], 0), (141, .iload 11, 2, 143, 0, [], 0), (143, .iconst 0, 1, 144, 0, [], 0), (144, .iload 6, 2, 146, 0, [], 0), (146, .iload 7, 2, 148, 0, [], 0), (148, .invokevirtual 242, 3, 151, 0, [], 0), (151, .istore 12, 2, 153, 0, [], 0), (153, .aload_n 0, 1, 154, 0, [], 0)]),
  (171, [(154, .getfield 19, 3, 157, 0, [], 0), (157, .iload 11, 2, 159, 0, [], 0), (159, .iconst 1, 1, 160, 0, [], 1), (160, .iload 6, 2, 162, 0, [], 0), (162, .iload 7, 2, 164, 0, [], 0), (164, .invokevirtual 242, 3, 167, 0, [], 0), (167, .istore 7, 2, 169, 0, [], 0), (169, .iload 12, 2, 171, 0, [], 0), (171, .istore 6, 2, 173, 0, [], 0)]),
  (191, [(173, .aload_n 0, 1, 174, 0, [], 0), (174, .getfield 19, 3, 177, 0, [], 0), (177, .getfield 134, 3, 180, 0, [], 0), (180, .iload 11, 2, 182, 0, [], 0), (182, .iaload, 1, 183, 0, [], 0), (183, .istore 5, 2, 185, 0, [], 0), (185, .iinc 9 1, 3, 188, 0, [], 1), (188, .goto (-120), 3, 191, 68, [], 0), (191, .bipush (-4), 2, 193, 0, [], (-4))]),
  (193, [(193, .ireturn, 1, 194, 0, [], 0)])]
set_option maxRecDepth 100000 in
theorem okX4_run : okT cX4_run tX4_run = true := by decide +kernel
def tX4_keep : List (Nat × List Et) := [(14, [(0, .iload_n 1, 1, 1, 0, [], 0), (1, .invokestatic 245, 3, 4, 0, [], 0), (4, .ifCond .ne 5, 3, 7, 9, [], 0), (7, .iconst (-1), 1, 8, 0, [], (-1)), (8, .ireturn, 1, 9, 0, [], 0), (9, .aload_n 0, 1, 10, 0, [], 0), (10, .getfield 37, 3, 13, 0, [], 0), (13, .iload_n 1, 1, 14, 0, [], 0), (14, .baload, 1, 15, 0, [], 0)]),
  (29, [(15, .invokestatic 97, 3, 18, 0, [], 0), (18, .istore_n 2, 1, 19, 0, [], 0), (19, .aload_n 0, 1, 20, 0, [], 0), (20, .getfield 33, 3, 23, 0, [], 0), (23, .iload_n 1, 1, 24, 0, [], 0), (24, .aaload, 1, 25, 0, [], 0), (25, .aload_n 0, 1, 26, 0, [], 0), (26, .getfield 19, 3, 29, 0, [], 0), (29, .invokevirtual 73, 3, 32, 0, [], 0)]),
  (40, [(32, .aload_n 0, 1, 33, 0, [], 0), (33, .getfield 37, 3, 36, 0, [], 0), (36, .iload_n 1, 1, 37, 0, [], 0), (37, .iconst 1, 1, 38, 0, [], 1), (38, .bastore, 1, 39, 0, [], 0), (39, .iload_n 2, 1, 40, 0, [], 0), (40, .ireturn, 1, 41, 0, [], 0)])]
set_option maxRecDepth 100000 in
theorem okX4_keep : okT cX4_keep tX4_keep = true := by decide +kernel
def tX4_isImage : List (Nat × List Et) := [(14, [(0, .iload_n 0, 1, 1, 0, [], 0), (1, .ifCond .lt 12, 3, 4, 13, [], 0), (4, .iload_n 0, 1, 5, 0, [], 0), (5, .iconst 2, 1, 6, 0, [], 2), (6, .if_icmp .ge 7, 3, 9, 13, [], 0), (9, .iconst 1, 1, 10, 0, [], 1), (10, .goto 4, 3, 13, 14, [], 0), (13, .iconst 0, 1, 14, 0, [], 0), (14, .ireturn, 1, 15, 0, [], 0)])]
set_option maxRecDepth 100000 in
theorem okX4_isImage : okT cX4_isImage tX4_isImage = true := by decide +kernel
def tX4_back : List (Nat × List Et) := [(14, [(0, .iload_n 1, 1, 1, 0, [], 0), (1, .invokestatic 245, 3, 4, 0, [], 0), (4, .ifCond .ne 5, 3, 7, 9, [], 0), (7, .iconst (-1), 1, 8, 0, [], (-1)), (8, .ireturn, 1, 9, 0, [], 0), (9, .aload_n 0, 1, 10, 0, [], 0), (10, .getfield 37, 3, 13, 0, [], 0), (13, .iload_n 1, 1, 14, 0, [], 0), (14, .baload, 1, 15, 0, [], 0)]),
  (30, [(15, .ifCond .ne 6, 3, 18, 21, [], 0), (18, .bipush (-2), 2, 20, 0, [], (-2)), (20, .ireturn, 1, 21, 0, [], 0), (21, .aload_n 0, 1, 22, 0, [], 0), (22, .getfield 19, 3, 25, 0, [], 0), (25, .aload_n 0, 1, 26, 0, [], 0), (26, .getfield 33, 3, 29, 0, [], 0), (29, .iload_n 1, 1, 30, 0, [], 0), (30, .aaload, 1, 31, 0, [], 0)]),
  (46, [(31, .invokevirtual 73, 3, 34, 0, [], 0), (34, .aload_n 0, 1, 35, 0, [], 0), (35, .iconst 1, 1, 36, 0, [], 1), (36, .putfield 47, 3, 39, 0, [], 0), (39, .aload_n 0, 1, 40, 0, [], 0), (40, .getfield 19, 3, 43, 0, [], 0), (43, .getfield 80, 3, 46, 0, [], 0), (46, .ireturn, 1, 47, 0, [], 0)])]
set_option maxRecDepth 100000 in
theorem okX4_back : okT cX4_back tX4_back = true := by decide +kernel
def tX4_sheet : List (Nat × List Et) := [(17, [(0, .iload_n 1, 1, 1, 0, [], 0), (1, .invokestatic 248, 3, 4, 0, [], 0), (4, .ifCond .eq 16, 3, 7, 20, [], 0), (7, .iload_n 2, 1, 8, 0, [], 0), (8, .invokestatic 251, 3, 11, 0, [], 0), (11, .ifCond .eq 9, 3, 14, 20, [], 0), (14, .iload_n 3, 1, 15, 0, [], 0), (15, .bipush 40, 2, 17, 0, [], 40), (17, .if_icmp .le 5, 3, 20, 22, [], 0)]),
  (33, [(20, .iconst (-1), 1, 21, 0, [], (-1)), (21, .ireturn, 1, 22, 0, [], 0), (22, .iload_n 3, 1, 23, 0, [], 0), (23, .ifCond .ge 6, 3, 26, 29, [], 0), (26, .bipush (-14), 2, 28, 0, [], (-14)), (28, .ireturn, 1, 29, 0, [], 0), (29, .aload_n 0, 1, 30, 0, [], 0), (30, .getfield 43, 3, 33, 0, [], 0), (33, .iload_n 1, 1, 34, 0, [], 0)]),
  (41, [(34, .aaload, 1, 35, 0, [], 0), (35, .iload_n 2, 1, 36, 0, [], 0), (36, .iload_n 3, 1, 37, 0, [], 0), (37, .invokevirtual 254, 3, 40, 0, [], 0), (40, .iconst 1, 1, 41, 0, [], 1), (41, .ireturn, 1, 42, 0, [], 0)])]
set_option maxRecDepth 100000 in
theorem okX4_sheet : okT cX4_sheet tX4_sheet = true := by decide +kernel
def tX4_isSheet : List (Nat × List Et) := [(14, [(0, .iload_n 0, 1, 1, 0, [], 0), (1, .ifCond .lt 12, 3, 4, 13, [], 0), (4, .iload_n 0, 1, 5, 0, [], 0), (5, .iconst 4, 1, 6, 0, [], 4), (6, .if_icmp .ge 7, 3, 9, 13, [], 0), (9, .iconst 1, 1, 10, 0, [], 1), (10, .goto 4, 3, 13, 14, [], 0), (13, .iconst 0, 1, 14, 0, [], 0), (14, .ireturn, 1, 15, 0, [], 0)])]
set_option maxRecDepth 100000 in
theorem okX4_isSheet : okT cX4_isSheet tX4_isSheet = true := by decide +kernel
def tX4_isLane : List (Nat × List Et) := [(14, [(0, .iload_n 0, 1, 1, 0, [], 0), (1, .ifCond .lt 12, 3, 4, 13, [], 0), (4, .iload_n 0, 1, 5, 0, [], 0), (5, .iconst 2, 1, 6, 0, [], 2), (6, .if_icmp .gt 7, 3, 9, 13, [], 0), (9, .iconst 1, 1, 10, 0, [], 1), (10, .goto 4, 3, 13, 14, [], 0), (13, .iconst 0, 1, 14, 0, [], 0), (14, .ireturn, 1, 15, 0, [], 0)])]
set_option maxRecDepth 100000 in
theorem okX4_isLane : okT cX4_isLane tX4_isLane = true := by decide +kernel
def tX4_lay : List (Nat × List Et) := [(14, [(0, .iload_n 1, 1, 1, 0, [], 0), (1, .invokestatic 248, 3, 4, 0, [], 0), (4, .ifCond .ne 5, 3, 7, 9, [], 0), (7, .iconst (-1), 1, 8, 0, [], (-1)), (8, .ireturn, 1, 9, 0, [], 0), (9, .aload_n 0, 1, 10, 0, [], 0), (10, .getfield 43, 3, 13, 0, [], 0), (13, .iload_n 1, 1, 14, 0, [], 0), (14, .aaload, 1, 15, 0, [], 0)]),
  (31, [(15, .astore 4, 2, 17, 0, [], 0), (17, .aload 4, 2, 19, 0, [], 0), (19, .aload 4, 2, 21, 0, [], 0), (21, .getfield 257, 3, 24, 0, [], 0), (24, .iload_n 2, 1, 25, 0, [], 0), (25, .iconst 1, 1, 26, 0, [], 1), (26, .invokevirtual 260, 3, 29, 0, [], 0), (29, .istore 5, 2, 31, 0, [], 0), (31, .iload 5, 2, 33, 0, [], 0)]),
  (46, [(33, .ifCond .eq 9, 3, 36, 42, [], 0), (36, .bipush (-10), 2, 38, 0, [], (-10)), (38, .iload 5, 2, 40, 0, [], 0), (40, .isub, 1, 41, 0, [], 0), (41, .ireturn, 1, 42, 0, [], 0), (42, .aload 4, 2, 44, 0, [], 0), (44, .iload_n 2, 1, 45, 0, [], 0), (45, .iload_n 3, 1, 46, 0, [], 0), (46, .invokevirtual 263, 3, 49, 0, [], 0)]),
  (50, [(49, .iconst 1, 1, 50, 0, [], 1), (50, .ireturn, 1, 51, 0, [], 0)])]
set_option maxRecDepth 100000 in
theorem okX4_lay : okT cX4_lay tX4_lay = true := by decide +kernel
def tX4_read : List (Nat × List Et) := [(19, [(0, .iload_n 1, 1, 1, 0, [], 0), (1, .invokestatic 248, 3, 4, 0, [], 0), (4, .ifCond .eq 22, 3, 7, 26, [], 0), (7, .iload_n 2, 1, 8, 0, [], 0), (8, .invokestatic 251, 3, 11, 0, [], 0), (11, .ifCond .eq 15, 3, 14, 26, [], 0), (14, .iload 4, 2, 16, 0, [], 0), (16, .ifCond .lt 10, 3, 19, 26, [], 0), (19, .iload 4, 2, 21, 0, [], 0)]),
  (34, [(21, .bipush 13, 2, 23, 0, [], 13), (23, .if_icmp .le 5, 3, 26, 28, [], 0), (26, .iconst (-1), 1, 27, 0, [], (-1)), (27, .ireturn, 1, 28, 0, [], 0), (28, .aload_n 0, 1, 29, 0, [], 0), (29, .getfield 43, 3, 32, 0, [], 0), (32, .iload_n 1, 1, 33, 0, [], 0), (33, .aaload, 1, 34, 0, [], 0), (34, .astore 5, 2, 36, 0, [], 0)]),
  (51, [(36, .aload_n 0, 1, 37, 0, [], 0), (37, .getfield 23, 3, 40, 0, [], 0), (40, .aload_n 0, 1, 41, 0, [], 0), (41, .getfield 19, 3, 44, 0, [], 0), (44, .invokevirtual 73, 3, 47, 0, [], 0), (47, .iconst 0, 1, 48, 0, [], 0), (48, .istore 6, 2, 50, 0, [], 0), (50, .iconst 0, 1, 51, 0, [], 0), (51, .istore 7, 2, 53, 0, [], 0)]),
  (66, [(53, .iload 7, 2, 55, 0, [], 0), (55, .iload 4, 2, 57, 0, [], 0), (57, .if_icmp .ge 105, 3, 60, 162, [], 0), (60, .iload_n 3, 1, 61, 0, [], 0), (61, .iconst 3, 1, 62, 0, [], 3), (62, .iload 7, 2, 64, 0, [], 0), (64, .imul, 1, 65, 0, [], 0), (65, .iadd, 1, 66, 0, [], 0), (66, .istore 8, 2, 68, 0, [], 0)]),
  (84, [(68, .aload 5, 2, 70, 0, [], 0), (70, .iload_n 2, 1, 71, 0, [], 0), (71, .iload 8, 2, 73, 0, [], 0), (73, .iconst 3, 1, 74, 0, [], 3), (74, .invokevirtual 260, 3, 77, 0, [], 0), (77, .istore 6, 2, 79, 0, [], 0), (79, .iload 6, 2, 81, 0, [], 0), (81, .ifCond .eq 6, 3, 84, 87, [], 0), (84, .goto 78, 3, 87, 162, [], 0)]),
  (104, [(87, .aload 5, 2, 89, 0, [], 0), (89, .getfield 266, 3, 92, 0, [], 0), (92, .iload 8, 2, 94, 0, [], 0), (94, .iaload, 1, 95, 0, [], 0), (95, .istore 9, 2, 97, 0, [], 0), (97, .aload 5, 2, 99, 0, [], 0), (99, .getfield 266, 3, 102, 0, [], 0), (102, .iload 8, 2, 104, 0, [], 0), (104, .iconst 1, 1, 105, 0, [], 1)]),
  (118, [(105, .iadd, 1, 106, 0, [], 0), (106, .iaload, 1, 107, 0, [], 0), (107, .istore 10, 2, 109, 0, [], 0), (109, .aload 5, 2, 111, 0, [], 0), (111, .getfield 266, 3, 114, 0, [], 0), (114, .iload 8, 2, 116, 0, [], 0), (116, .iconst 2, 1, 117, 0, [], 2), (117, .iadd, 1, 118, 0, [], 0), (118, .iaload, 1, 119, 0, [], 0)]),
  (137, [(119, .istore 11, 2, 121, 0, [], 0), (121, .aload_n 0, 1, 122, 0, [], 0), (122, .getfield 23, 3, 125, 0, [], 0), (125, .iload 9, 2, 127, 0, [], 0), (127, .iload 10, 2, 129, 0, [], 0), (129, .iload 11, 2, 131, 0, [], 0), (131, .invokevirtual 210, 3, 134, 0, [], 0), (134, .ifCond .ne 9, 3, 137, 143, [], 0), (137, .bipush (-20), 2, 139, 0, [], (-20))]),
  (153, [(139, .iload 7, 2, 141, 0, [], 0), (141, .isub, 1, 142, 0, [], 0), (142, .ireturn, 1, 143, 0, [], 0), (143, .aload_n 0, 1, 144, 0, [], 0), (144, .getfield 23, 3, 147, 0, [], 0), (147, .iload 9, 2, 149, 0, [], 0), (149, .iload 10, 2, 151, 0, [], 0), (151, .iload 11, 2, 153, 0, [], 0), (153, .invokevirtual 214, 3, 156, 0, [], 0)]),
  (174, [(156, .iinc 7 1, 3, 159, 0, [], 1), (159, .goto (-106), 3, 162, 53, [], 0), (162, .aload_n 0, 1, 163, 0, [], 0), (163, .getfield 19, 3, 166, 0, [], 0), (166, .aload_n 0, 1, 167, 0, [], 0), (167, .getfield 23, 3, 170, 0, [], 0), (170, .invokevirtual 73, 3, 173, 0, [], 0), (173, .aload_n 0, 1, 174, 0, [], 0), (174, .iconst 1, 1, 175, 0, [], 1)]),
  (186, [(175, .putfield 47, 3, 178, 0, [], 0), (178, .aload_n 0, 1, 179, 0, [], 0), (179, .iload 6, 2, 181, 0, [], 0), (181, .putfield 269, 3, 184, 0, [], 0), (184, .iload 7, 2, 186, 0, [], 0), (186, .ireturn, 1, 187, 0, [], 0)])]
set_option maxRecDepth 100000 in
theorem okX4_read : okT cX4_read tX4_read = true := by decide +kernel
def tX4_torn : List (Nat × List Et) := [(4, [(0, .aload_n 0, 1, 1, 0, [], 0), (1, .getfield 269, 3, 4, 0, [], 0), (4, .ireturn, 1, 5, 0, [], 0)])]
set_option maxRecDepth 100000 in
theorem okX4_torn : okT cX4_torn tX4_torn = true := by decide +kernel
def tX4_count : List (Nat × List Et) := [(50, [(0, .iload_n 1, 1, 1, 0, [], 0), (1, .tableswitch 119 0 5 #[39, 59, 67, 75, 103, 111], 39, 40, 120, [40, 60, 68, 76, 104, 112], 0), (40, .aload_n 0, 1, 41, 0, [], 0), (41, .getfield 37, 3, 44, 0, [], 0), (44, .iconst 0, 1, 45, 0, [], 0), (45, .baload, 1, 46, 0, [], 0), (46, .invokestatic 97, 3, 49, 0, [], 0), (49, .aload_n 0, 1, 50, 0, [], 0), (50, .getfield 37, 3, 53, 0, [], 0)]),
  (67, [(53, .iconst 1, 1, 54, 0, [], 1), (54, .baload, 1, 55, 0, [], 0), (55, .invokestatic 97, 3, 58, 0, [], 0), (58, .iadd, 1, 59, 0, [], 0), (59, .ireturn, 1, 60, 0, [], 0), (60, .aload_n 0, 1, 61, 0, [], 0), (61, .getfield 19, 3, 64, 0, [], 0), (64, .invokevirtual 272, 3, 67, 0, [], 0), (67, .ireturn, 1, 68, 0, [], 0)]),
  (82, [(68, .aload_n 0, 1, 69, 0, [], 0), (69, .getfield 10, 3, 72, 0, [], 0), (72, .getfield 52, 3, 75, 0, [], 0), (75, .ireturn, 1, 76, 0, [], 0), (76, .aload_n 0, 1, 77, 0, [], 0), (77, .getfield 43, 3, 80, 0, [], 0), (80, .iconst 0, 1, 81, 0, [], 0), (81, .aaload, 1, 82, 0, [], 0), (82, .getfield 257, 3, 85, 0, [], 0)]),
  (100, [(85, .iconst (-1), 1, 86, 0, [], (-1)), (86, .if_icmp .ne 8, 3, 89, 94, [], 0), (89, .bipush (-4), 2, 91, 0, [], (-4)), (91, .goto 12, 3, 94, 103, [], 0), (94, .aload_n 0, 1, 95, 0, [], 0), (95, .getfield 43, 3, 98, 0, [], 0), (98, .iconst 0, 1, 99, 0, [], 0), (99, .aaload, 1, 100, 0, [], 0), (100, .getfield 275, 3, 103, 0, [], 0)]),
  (119, [(103, .ireturn, 1, 104, 0, [], 0), (104, .aload_n 0, 1, 105, 0, [], 0), (105, .getfield 19, 3, 108, 0, [], 0), (108, .invokevirtual 276, 3, 111, 0, [], 0), (111, .ireturn, 1, 112, 0, [], 0), (112, .aload_n 0, 1, 113, 0, [], 0), (113, .invokevirtual 83, 3, 116, 0, [], 0), (116, .invokevirtual 279, 3, 119, 0, [], 0), (119, .ireturn, 1, 120, 0, [], 0)]),
  (121, [(120, .iconst (-1), 1, 121, 0, [], (-1)), (121, .ireturn, 1, 122, 0, [], 0)])]
set_option maxRecDepth 100000 in
theorem okX4_count : okT cX4_count tX4_count = true := by decide +kernel
end
section
def tX5_feed : List (Nat × List Et) := [(14, [(0, .iload_n 1, 1, 1, 0, [], 0), (1, .i2l, 1, 2, 0, [], 0), (2, .lconst 0, 1, 3, 0, [], 0), (3, .ldc2_w 69, 3, 6, 0, [], 0), (6, .invokestatic 71, 3, 9, 0, [], 0), (9, .ifCond .ne 5, 3, 12, 14, [], 0), (12, .iconst (-1), 1, 13, 0, [], (-1)), (13, .ireturn, 1, 14, 0, [], 0), (14, .aload_n 0, 1, 15, 0, [], 0)]),
  (32, [(15, .getfield 75, 3, 18, 0, [], 0), (18, .sipush 160, 3, 21, 0, [], 160), (21, .if_icmp .ne 6, 3, 24, 27, [], 0), (24, .bipush (-3), 2, 26, 0, [], (-3)), (26, .ireturn, 1, 27, 0, [], 0), (27, .aload_n 0, 1, 28, 0, [], 0), (28, .getfield 23, 3, 31, 0, [], 0), (31, .aload_n 0, 1, 32, 0, [], 0), (32, .getfield 75, 3, 35, 0, [], 0)]),
  (47, [(35, .iload_n 1, 1, 36, 0, [], 0), (36, .iastore, 1, 37, 0, [], 0), (37, .aload_n 0, 1, 38, 0, [], 0), (38, .dup, 1, 39, 0, [], 0), (39, .getfield 75, 3, 42, 0, [], 0), (42, .iconst 1, 1, 43, 0, [], 1), (43, .iadd, 1, 44, 0, [], 0), (44, .putfield 75, 3, 47, 0, [], 0), (47, .aload_n 0, 1, 48, 0, [], 0)]),
  (51, [(48, .getfield 75, 3, 51, 0, [], 0), (51, .ireturn, 1, 52, 0, [], 0)])]
set_option maxRecDepth 100000 in
theorem okX5_feed : okT cX5_feed tX5_feed = true := by decide +kernel
def tX5_in : List (Nat × List Et) := [(13, [(0, .lload_n 0, 1, 1, 0, [], 0), (1, .lload_n 2, 1, 2, 0, [], 0), (2, .lcmp, 1, 3, 0, [], 0), (3, .ifCond .lt 14, 3, 6, 17, [], 0), (6, .lload_n 0, 1, 7, 0, [], 0), (7, .lload 4, 2, 9, 0, [], 0), (9, .lcmp, 1, 10, 0, [], 0), (10, .ifCond .gt 7, 3, 13, 17, [], 0), (13, .iconst 1, 1, 14, 0, [], 1)]),
  (18, [(14, .goto 4, 3, 17, 18, [], 0), (17, .iconst 0, 1, 18, 0, [], 0), (18, .ireturn, 1, 19, 0, [], 0)])]
set_option maxRecDepth 100000 in
theorem okX5_in : okT cX5_in tX5_in = true := by decide +kernel
def tX5_end : List (Nat × List Et) := [(14, [(0, .iload_n 1, 1, 1, 0, [], 0), (1, .i2l, 1, 2, 0, [], 0), (2, .lconst 0, 1, 3, 0, [], 0), (3, .aload_n 0, 1, 4, 0, [], 0), (4, .getfield 75, 3, 7, 0, [], 0), (7, .i2l, 1, 8, 0, [], 0), (8, .invokestatic 71, 3, 11, 0, [], 0), (11, .ifCond .ne 5, 3, 14, 16, [], 0), (14, .iconst (-1), 1, 15, 0, [], (-1))]),
  (27, [(15, .ireturn, 1, 16, 0, [], 0), (16, .aload_n 0, 1, 17, 0, [], 0), (17, .getfield 75, 3, 20, 0, [], 0), (20, .istore_n 2, 1, 21, 0, [], 0), (21, .aload_n 0, 1, 22, 0, [], 0), (22, .iload_n 1, 1, 23, 0, [], 0), (23, .putfield 75, 3, 26, 0, [], 0), (26, .iload_n 2, 1, 27, 0, [], 0), (27, .ireturn, 1, 28, 0, [], 0)])]
set_option maxRecDepth 100000 in
theorem okX5_end : okT cX5_end tX5_end = true := by decide +kernel
def tX5_text : List (Nat × List Et) := [(12, [(0, .iconst 0, 1, 1, 0, [], 0), (1, .istore_n 1, 1, 2, 0, [], 0), (2, .aload_n 0, 1, 3, 0, [], 0), (3, .iconst 0, 1, 4, 0, [], 0), (4, .putfield 78, 3, 7, 0, [], 0), (7, .aload_n 0, 1, 8, 0, [], 0), (8, .iconst 0, 1, 9, 0, [], 0), (9, .putfield 90, 3, 12, 0, [], 0), (12, .iconst 0, 1, 13, 0, [], 0)]),
  (26, [(13, .istore_n 2, 1, 14, 0, [], 0), (14, .iload_n 2, 1, 15, 0, [], 0), (15, .bipush 101, 2, 17, 0, [], 101), (17, .if_icmp .ge 16, 3, 20, 33, [], 0), (20, .aload_n 0, 1, 21, 0, [], 0), (21, .getfield 20, 3, 24, 0, [], 0), (24, .iload_n 2, 1, 25, 0, [], 0), (25, .iconst 0, 1, 26, 0, [], 0), (26, .iastore, 1, 27, 0, [], 0)]),
  (45, [(27, .iinc 2 1, 3, 30, 0, [], 1), (30, .goto (-16), 3, 33, 14, [], 0), (33, .aload_n 0, 1, 34, 0, [], 0), (34, .invokevirtual 115, 3, 37, 0, [], 0), (37, .aload_n 0, 1, 38, 0, [], 0), (38, .getfield 78, 3, 41, 0, [], 0), (41, .ifCond .ne 20, 3, 44, 61, [], 0), (44, .aload_n 0, 1, 45, 0, [], 0), (45, .getfield 87, 3, 48, 0, [], 0)]),
  (66, [(48, .ifCond .eq 13, 3, 51, 61, [], 0), (51, .aload_n 0, 1, 52, 0, [], 0), (52, .invokevirtual 136, 3, 55, 0, [], 0), (55, .iinc 1 1, 3, 58, 0, [], 1), (58, .goto (-21), 3, 61, 37, [], 0), (61, .aload_n 0, 1, 62, 0, [], 0), (62, .iconst 0, 1, 63, 0, [], 0), (63, .putfield 75, 3, 66, 0, [], 0), (66, .aload_n 0, 1, 67, 0, [], 0)]),
  (82, [(67, .getfield 78, 3, 70, 0, [], 0), (70, .ifCond .le 11, 3, 73, 81, [], 0), (73, .bipush (-10), 2, 75, 0, [], (-10)), (75, .aload_n 0, 1, 76, 0, [], 0), (76, .getfield 84, 3, 79, 0, [], 0), (79, .isub, 1, 80, 0, [], 0), (80, .ireturn, 1, 81, 0, [], 0), (81, .iconst 0, 1, 82, 0, [], 0), (82, .istore_n 2, 1, 83, 0, [], 0)]),
  (98, [(83, .iload_n 2, 1, 84, 0, [], 0), (84, .bipush 101, 2, 86, 0, [], 101), (86, .if_icmp .ge 21, 3, 89, 107, [], 0), (89, .aload_n 0, 1, 90, 0, [], 0), (90, .getfield 7, 3, 93, 0, [], 0), (93, .iload_n 2, 1, 94, 0, [], 0), (94, .aload_n 0, 1, 95, 0, [], 0), (95, .getfield 20, 3, 98, 0, [], 0), (98, .iload_n 2, 1, 99, 0, [], 0)]),
  (113, [(99, .iaload, 1, 100, 0, [], 0), (100, .iastore, 1, 101, 0, [], 0), (101, .iinc 2 1, 3, 104, 0, [], 1), (104, .goto (-21), 3, 107, 83, [], 0), (107, .aload_n 0, 1, 108, 0, [], 0), (108, .getfield 16, 3, 111, 0, [], 0), (111, .iconst 0, 1, 112, 0, [], 0), (112, .iconst 0, 1, 113, 0, [], 0), (113, .bastore, 1, 114, 0, [], 0)]),
  (122, [(114, .aload_n 0, 1, 115, 0, [], 0), (115, .getfield 16, 3, 118, 0, [], 0), (118, .iconst 1, 1, 119, 0, [], 1), (119, .iconst 0, 1, 120, 0, [], 0), (120, .bastore, 1, 121, 0, [], 0), (121, .iload_n 1, 1, 122, 0, [], 0), (122, .ireturn, 1, 123, 0, [], 0)])]
set_option maxRecDepth 100000 in
theorem okX5_text : okT cX5_text tX5_text = true := by decide +kernel
def tX5_reads : List (Nat × List Et) := [(16, [(0, .aload_n 0, 1, 1, 0, [], 0), (1, .getfield 78, 3, 4, 0, [], 0), (4, .ifCond .le 4, 3, 7, 8, [], 0), (7, .return_, 1, 8, 0, [], 0), (8, .aload_n 0, 1, 9, 0, [], 0), (9, .aload_n 0, 1, 10, 0, [], 0), (10, .getfield 90, 3, 13, 0, [], 0), (13, .invokevirtual 93, 3, 16, 0, [], 0), (16, .bipush 32, 2, 18, 0, [], 32)]),
  (34, [(18, .if_icmp .ne 16, 3, 21, 34, [], 0), (21, .aload_n 0, 1, 22, 0, [], 0), (22, .dup, 1, 23, 0, [], 0), (23, .getfield 90, 3, 26, 0, [], 0), (26, .iconst 1, 1, 27, 0, [], 1), (27, .iadd, 1, 28, 0, [], 0), (28, .putfield 90, 3, 31, 0, [], 0), (31, .goto (-23), 3, 34, 8, [], 0), (34, .aload_n 0, 1, 35, 0, [], 0)]),
  (51, [(35, .aload_n 0, 1, 36, 0, [], 0), (36, .getfield 90, 3, 39, 0, [], 0), (39, .putfield 81, 3, 42, 0, [], 0), (42, .aload_n 0, 1, 43, 0, [], 0), (43, .aload_n 0, 1, 44, 0, [], 0), (44, .getfield 90, 3, 47, 0, [], 0), (47, .invokevirtual 93, 3, 50, 0, [], 0), (50, .istore_n 1, 1, 51, 0, [], 0), (51, .iload_n 1, 1, 52, 0, [], 0)]),
  (68, [(52, .ifCond .ge 11, 3, 55, 63, [], 0), (55, .aload_n 0, 1, 56, 0, [], 0), (56, .iconst 0, 1, 57, 0, [], 0), (57, .putfield 87, 3, 60, 0, [], 0), (60, .goto 226, 3, 63, 286, [], 0), (63, .iload_n 1, 1, 64, 0, [], 0), (64, .i2l, 1, 65, 0, [], 0), (65, .ldc2_w 97, 3, 68, 0, [], 0), (68, .ldc2_w 99, 3, 71, 0, [], 0)]),
  (87, [(71, .invokestatic 71, 3, 74, 0, [], 0), (74, .ifCond .eq 42, 3, 77, 116, [], 0), (77, .aload_n 0, 1, 78, 0, [], 0), (78, .iconst 1, 1, 79, 0, [], 1), (79, .putfield 87, 3, 82, 0, [], 0), (82, .aload_n 0, 1, 83, 0, [], 0), (83, .aload_n 0, 1, 84, 0, [], 0), (84, .getfield 90, 3, 87, 0, [], 0), (87, .invokevirtual 93, 3, 90, 0, [], 0)]),
  (108, [(90, .i2l, 1, 91, 0, [], 0), (91, .ldc2_w 97, 3, 94, 0, [], 0), (94, .ldc2_w 99, 3, 97, 0, [], 0), (97, .invokestatic 71, 3, 100, 0, [], 0), (100, .ifCond .eq 186, 3, 103, 286, [], 0), (103, .aload_n 0, 1, 104, 0, [], 0), (104, .dup, 1, 105, 0, [], 0), (105, .getfield 90, 3, 108, 0, [], 0), (108, .iconst 1, 1, 109, 0, [], 1)]),
  (127, [(109, .iadd, 1, 110, 0, [], 0), (110, .putfield 90, 3, 113, 0, [], 0), (113, .goto (-31), 3, 116, 82, [], 0), (116, .iload_n 1, 1, 117, 0, [], 0), (117, .i2l, 1, 118, 0, [], 0), (118, .ldc2_w 101, 3, 121, 0, [], 0), (121, .ldc2_w 103, 3, 124, 0, [], 0), (124, .invokestatic 71, 3, 127, 0, [], 0), (127, .ifCond .eq 116, 3, 130, 243, [], 0)]),
  (142, [(130, .aload_n 0, 1, 131, 0, [], 0), (131, .iconst 2, 1, 132, 0, [], 2), (132, .putfield 87, 3, 135, 0, [], 0), (135, .aload_n 0, 1, 136, 0, [], 0), (136, .iconst 0, 1, 137, 0, [], 0), (137, .putfield 105, 3, 140, 0, [], 0), (140, .aload_n 0, 1, 141, 0, [], 0), (141, .aload_n 0, 1, 142, 0, [], 0), (142, .getfield 90, 3, 145, 0, [], 0)]),
  (163, [(145, .invokevirtual 93, 3, 148, 0, [], 0), (148, .i2l, 1, 149, 0, [], 0), (149, .ldc2_w 101, 3, 152, 0, [], 0), (152, .ldc2_w 103, 3, 155, 0, [], 0), (155, .invokestatic 71, 3, 158, 0, [], 0), (158, .ifCond .eq 59, 3, 161, 217, [], 0), (161, .aload_n 0, 1, 162, 0, [], 0), (162, .aload_n 0, 1, 163, 0, [], 0), (163, .getfield 90, 3, 166, 0, [], 0)]),
  (181, [(166, .aload_n 0, 1, 167, 0, [], 0), (167, .getfield 81, 3, 170, 0, [], 0), (170, .isub, 1, 171, 0, [], 0), (171, .iconst 2, 1, 172, 0, [], 2), (172, .if_icmp .ge 25, 3, 175, 197, [], 0), (175, .bipush 10, 2, 177, 0, [], 10), (177, .aload_n 0, 1, 178, 0, [], 0), (178, .getfield 105, 3, 181, 0, [], 0), (181, .imul, 1, 182, 0, [], 0)]),
  (197, [(182, .aload_n 0, 1, 183, 0, [], 0), (183, .aload_n 0, 1, 184, 0, [], 0), (184, .getfield 90, 3, 187, 0, [], 0), (187, .invokevirtual 93, 3, 190, 0, [], 0), (190, .iadd, 1, 191, 0, [], 0), (191, .bipush 48, 2, 193, 0, [], 48), (193, .isub, 1, 194, 0, [], 0), (194, .goto 7, 3, 197, 201, [], 0), (197, .aload_n 0, 1, 198, 0, [], 0)]),
  (214, [(198, .getfield 105, 3, 201, 0, [], 0), (201, .putfield 105, 3, 204, 0, [], 0), (204, .aload_n 0, 1, 205, 0, [], 0), (205, .dup, 1, 206, 0, [], 0), (206, .getfield 90, 3, 209, 0, [], 0), (209, .iconst 1, 1, 210, 0, [], 1), (210, .iadd, 1, 211, 0, [], 0), (211, .putfield 90, 3, 214, 0, [], 0), (214, .goto (-74), 3, 217, 140, [], 0)]),
  (231, [(217, .aload_n 0, 1, 218, 0, [], 0), (218, .aload_n 0, 1, 219, 0, [], 0), (219, .getfield 90, 3, 222, 0, [], 0), (222, .aload_n 0, 1, 223, 0, [], 0), (223, .getfield 81, 3, 226, 0, [], 0), (226, .isub, 1, 227, 0, [], 0), (227, .iconst 2, 1, 228, 0, [], 2), (228, .if_icmp .gt 7, 3, 231, 235, [], 0), (231, .iconst 1, 1, 232, 0, [], 1)]),
  (248, [(232, .goto 4, 3, 235, 236, [], 0), (235, .iconst 0, 1, 236, 0, [], 0), (236, .iconst 1, 1, 237, 0, [], 1), (237, .invokevirtual 108, 3, 240, 0, [], 0), (240, .goto 46, 3, 243, 286, [], 0), (243, .aload_n 0, 1, 244, 0, [], 0), (244, .iload_n 1, 1, 245, 0, [], 0), (245, .invokestatic 112, 3, 248, 0, [], 0), (248, .putfield 87, 3, 251, 0, [], 0)]),
  (267, [(251, .aload_n 0, 1, 252, 0, [], 0), (252, .aload_n 0, 1, 253, 0, [], 0), (253, .getfield 87, 3, 256, 0, [], 0), (256, .bipush 7, 2, 258, 0, [], 7), (258, .if_icmp .ne 9, 3, 261, 267, [], 0), (261, .iload_n 1, 1, 262, 0, [], 0), (262, .bipush 59, 2, 264, 0, [], 59), (264, .if_icmp .ne 7, 3, 267, 271, [], 0), (267, .iconst 1, 1, 268, 0, [], 1)]),
  (282, [(268, .goto 4, 3, 271, 272, [], 0), (271, .iconst 0, 1, 272, 0, [], 0), (272, .iconst 1, 1, 273, 0, [], 1), (273, .invokevirtual 108, 3, 276, 0, [], 0), (276, .aload_n 0, 1, 277, 0, [], 0), (277, .dup, 1, 278, 0, [], 0), (278, .getfield 90, 3, 281, 0, [], 0), (281, .iconst 1, 1, 282, 0, [], 1), (282, .iadd, 1, 283, 0, [], 0)]),
  (286, [(283, .putfield 90, 3, 286, 0, [], 0), (286, .return_, 1, 287, 0, [], 0)])]
set_option maxRecDepth 100000 in
theorem okX5_reads : okT cX5_reads tX5_reads = true := by decide +kernel
def tX5_byteAt : List (Nat × List Et) := [(14, [(0, .iload_n 1, 1, 1, 0, [], 0), (1, .aload_n 0, 1, 2, 0, [], 0), (2, .getfield 75, 3, 5, 0, [], 0), (5, .if_icmp .ge 12, 3, 8, 17, [], 0), (8, .aload_n 0, 1, 9, 0, [], 0), (9, .getfield 23, 3, 12, 0, [], 0), (12, .iload_n 1, 1, 13, 0, [], 0), (13, .iaload, 1, 14, 0, [], 0), (14, .goto 4, 3, 17, 18, [], 0)]),
  (18, [(17, .iconst (-1), 1, 18, 0, [], (-1)), (18, .ireturn, 1, 19, 0, [], 0)])]
set_option maxRecDepth 100000 in
theorem okX5_byteAt : okT cX5_byteAt tX5_byteAt = true := by decide +kernel
def tX5_requires : List (Nat × List Et) := [(16, [(0, .iload_n 1, 1, 1, 0, [], 0), (1, .ifCond .ne 23, 3, 4, 24, [], 0), (4, .aload_n 0, 1, 5, 0, [], 0), (5, .getfield 78, 3, 8, 0, [], 0), (8, .ifCond .ne 16, 3, 11, 24, [], 0), (11, .aload_n 0, 1, 12, 0, [], 0), (12, .iload_n 2, 1, 13, 0, [], 0), (13, .putfield 78, 3, 16, 0, [], 0), (16, .aload_n 0, 1, 17, 0, [], 0)]),
  (24, [(17, .aload_n 0, 1, 18, 0, [], 0), (18, .getfield 81, 3, 21, 0, [], 0), (21, .putfield 84, 3, 24, 0, [], 0), (24, .return_, 1, 25, 0, [], 0)])]
set_option maxRecDepth 100000 in
theorem okX5_requires : okT cX5_requires tX5_requires = true := by decide +kernel
def tX5_signOf : List (Nat × List Et) := [(62, [(0, .iload_n 0, 1, 1, 0, [], 0), (1, .tableswitch 64 38 47 #[61, 64, 64, 64, 64, 59, 64, 55, 64, 57], 55, 56, 65, [62, 65, 65, 65, 65, 60, 65, 56, 65, 58], 0), (56, .iconst 3, 1, 57, 0, [], 3), (57, .ireturn, 1, 58, 0, [], 0), (58, .iconst 4, 1, 59, 0, [], 4), (59, .ireturn, 1, 60, 0, [], 0), (60, .iconst 5, 1, 61, 0, [], 5), (61, .ireturn, 1, 62, 0, [], 0), (62, .bipush 6, 2, 64, 0, [], 6)]),
  (67, [(64, .ireturn, 1, 65, 0, [], 0), (65, .bipush 7, 2, 67, 0, [], 7), (67, .ireturn, 1, 68, 0, [], 0)])]
set_option maxRecDepth 100000 in
theorem okX5_signOf : okT cX5_signOf tX5_signOf = true := by decide +kernel
def tX5_readLine : List (Nat × List Et) := [(12, [(0, .aload_n 0, 1, 1, 0, [], 0), (1, .invokevirtual 118, 3, 4, 0, [], 0), (4, .istore_n 1, 1, 5, 0, [], 0), (5, .aload_n 0, 1, 6, 0, [], 0), (6, .iload_n 1, 1, 7, 0, [], 0), (7, .ifCond .eq 8, 3, 10, 15, [], 0), (10, .iload_n 1, 1, 11, 0, [], 0), (11, .iconst 1, 1, 12, 0, [], 1), (12, .if_icmp .ne 7, 3, 15, 19, [], 0)]),
  (29, [(15, .iconst 1, 1, 16, 0, [], 1), (16, .goto 4, 3, 19, 20, [], 0), (19, .iconst 0, 1, 20, 0, [], 0), (20, .iconst 2, 1, 21, 0, [], 2), (21, .invokevirtual 108, 3, 24, 0, [], 0), (24, .aload_n 0, 1, 25, 0, [], 0), (25, .iload_n 1, 1, 26, 0, [], 0), (26, .ifCond .ne 13, 3, 29, 39, [], 0), (29, .aload_n 0, 1, 30, 0, [], 0)]),
  (44, [(30, .getfield 20, 3, 33, 0, [], 0), (33, .iconst 3, 1, 34, 0, [], 3), (34, .iaload, 1, 35, 0, [], 0), (35, .iconst 3, 1, 36, 0, [], 3), (36, .if_icmp .ge 7, 3, 39, 43, [], 0), (39, .iconst 1, 1, 40, 0, [], 1), (40, .goto 4, 3, 43, 44, [], 0), (43, .iconst 0, 1, 44, 0, [], 0), (44, .iconst 5, 1, 45, 0, [], 5)]),
  (60, [(45, .invokevirtual 108, 3, 48, 0, [], 0), (48, .aload_n 0, 1, 49, 0, [], 0), (49, .iload_n 1, 1, 50, 0, [], 0), (50, .iconst 1, 1, 51, 0, [], 1), (51, .if_icmp .ne 15, 3, 54, 66, [], 0), (54, .aload_n 0, 1, 55, 0, [], 0), (55, .getfield 20, 3, 58, 0, [], 0), (58, .bipush 100, 2, 60, 0, [], 100), (60, .iaload, 1, 61, 0, [], 0)]),
  (76, [(61, .bipush 12, 2, 63, 0, [], 12), (63, .if_icmp .ge 7, 3, 66, 70, [], 0), (66, .iconst 1, 1, 67, 0, [], 1), (67, .goto 4, 3, 70, 71, [], 0), (70, .iconst 0, 1, 71, 0, [], 0), (71, .iconst 5, 1, 72, 0, [], 5), (72, .invokevirtual 108, 3, 75, 0, [], 0), (75, .aload_n 0, 1, 76, 0, [], 0), (76, .invokevirtual 115, 3, 79, 0, [], 0)]),
  (95, [(79, .aload_n 0, 1, 80, 0, [], 0), (80, .getfield 78, 3, 83, 0, [], 0), (83, .ifCond .le 4, 3, 86, 87, [], 0), (86, .return_, 1, 87, 0, [], 0), (87, .iload_n 1, 1, 88, 0, [], 0), (88, .ifCond .ne 33, 3, 91, 121, [], 0), (91, .aload_n 0, 1, 92, 0, [], 0), (92, .getfield 20, 3, 95, 0, [], 0), (95, .aload_n 0, 1, 96, 0, [], 0)]),
  (108, [(96, .getfield 20, 3, 99, 0, [], 0), (99, .iconst 3, 1, 100, 0, [], 3), (100, .iaload, 1, 101, 0, [], 0), (101, .aload_n 0, 1, 102, 0, [], 0), (102, .iconst 1, 1, 103, 0, [], 1), (103, .iconst 2, 1, 104, 0, [], 2), (104, .invokevirtual 122, 3, 107, 0, [], 0), (107, .iastore, 1, 108, 0, [], 0), (108, .aload_n 0, 1, 109, 0, [], 0)]),
  (121, [(109, .getfield 20, 3, 112, 0, [], 0), (112, .iconst 3, 1, 113, 0, [], 3), (113, .dup2, 1, 114, 0, [], 0), (114, .iaload, 1, 115, 0, [], 0), (115, .iconst 1, 1, 116, 0, [], 1), (116, .iadd, 1, 117, 0, [], 0), (117, .iastore, 1, 118, 0, [], 0), (118, .goto 7, 3, 121, 125, [], 0), (121, .aload_n 0, 1, 122, 0, [], 0)]),
  (139, [(122, .invokevirtual 133, 3, 125, 0, [], 0), (125, .aload_n 0, 1, 126, 0, [], 0), (126, .getfield 78, 3, 129, 0, [], 0), (129, .ifCond .ne 22, 3, 132, 151, [], 0), (132, .aload_n 0, 1, 133, 0, [], 0), (133, .aload_n 0, 1, 134, 0, [], 0), (134, .getfield 87, 3, 137, 0, [], 0), (137, .bipush 7, 2, 139, 0, [], 7), (139, .if_icmp .ne 7, 3, 142, 146, [], 0)]),
  (155, [(142, .iconst 1, 1, 143, 0, [], 1), (143, .goto 4, 3, 146, 147, [], 0), (146, .iconst 0, 1, 147, 0, [], 0), (147, .iconst 2, 1, 148, 0, [], 2), (148, .invokevirtual 108, 3, 151, 0, [], 0), (151, .aload_n 0, 1, 152, 0, [], 0), (152, .invokevirtual 115, 3, 155, 0, [], 0), (155, .return_, 1, 156, 0, [], 0)])]
set_option maxRecDepth 100000 in
theorem okX5_readLine : okT cX5_readLine tX5_readLine = true := by decide +kernel
def tX5_wordNow : List (Nat × List Et) := [(15, [(0, .aload_n 0, 1, 1, 0, [], 0), (1, .getfield 87, 3, 4, 0, [], 0), (4, .iconst 1, 1, 5, 0, [], 1), (5, .if_icmp .eq 6, 3, 8, 11, [], 0), (8, .bipush (-4), 2, 10, 0, [], (-4)), (10, .ireturn, 1, 11, 0, [], 0), (11, .aload_n 0, 1, 12, 0, [], 0), (12, .getfield 90, 3, 15, 0, [], 0), (15, .aload_n 0, 1, 16, 0, [], 0)]),
  (30, [(16, .getfield 81, 3, 19, 0, [], 0), (19, .isub, 1, 20, 0, [], 0), (20, .istore_n 1, 1, 21, 0, [], 0), (21, .aload_n 0, 1, 22, 0, [], 0), (22, .aload_n 0, 1, 23, 0, [], 0), (23, .getfield 81, 3, 26, 0, [], 0), (26, .invokevirtual 93, 3, 29, 0, [], 0), (29, .istore_n 2, 1, 30, 0, [], 0), (30, .iload_n 1, 1, 31, 0, [], 0)]),
  (46, [(31, .iconst 1, 1, 32, 0, [], 1), (32, .if_icmp .ne 26, 3, 35, 58, [], 0), (35, .iload_n 2, 1, 36, 0, [], 0), (36, .bipush 97, 2, 38, 0, [], 97), (38, .if_icmp .ne 7, 3, 41, 45, [], 0), (41, .iconst 2, 1, 42, 0, [], 2), (42, .goto 15, 3, 45, 57, [], 0), (45, .iload_n 2, 1, 46, 0, [], 0), (46, .bipush 98, 2, 48, 0, [], 98)]),
  (63, [(48, .if_icmp .ne 7, 3, 51, 55, [], 0), (51, .iconst 3, 1, 52, 0, [], 3), (52, .goto 5, 3, 55, 57, [], 0), (55, .bipush (-4), 2, 57, 0, [], (-4)), (57, .ireturn, 1, 58, 0, [], 0), (58, .iload_n 1, 1, 59, 0, [], 0), (59, .iconst 3, 1, 60, 0, [], 3), (60, .if_icmp .ne 41, 3, 63, 101, [], 0), (63, .iload_n 2, 1, 64, 0, [], 0)]),
  (79, [(64, .bipush 102, 2, 66, 0, [], 102), (66, .if_icmp .ne 35, 3, 69, 101, [], 0), (69, .aload_n 0, 1, 70, 0, [], 0), (70, .aload_n 0, 1, 71, 0, [], 0), (71, .getfield 81, 3, 74, 0, [], 0), (74, .iconst 1, 1, 75, 0, [], 1), (75, .iadd, 1, 76, 0, [], 0), (76, .invokevirtual 93, 3, 79, 0, [], 0), (79, .bipush 117, 2, 81, 0, [], 117)]),
  (96, [(81, .if_icmp .ne 20, 3, 84, 101, [], 0), (84, .aload_n 0, 1, 85, 0, [], 0), (85, .aload_n 0, 1, 86, 0, [], 0), (86, .getfield 81, 3, 89, 0, [], 0), (89, .iconst 2, 1, 90, 0, [], 2), (90, .iadd, 1, 91, 0, [], 0), (91, .invokevirtual 93, 3, 94, 0, [], 0), (94, .bipush 110, 2, 96, 0, [], 110), (96, .if_icmp .ne 5, 3, 99, 101, [], 0)]),
  (112, [(99, .iconst 0, 1, 100, 0, [], 0), (100, .ireturn, 1, 101, 0, [], 0), (101, .iload_n 1, 1, 102, 0, [], 0), (102, .iconst 4, 1, 103, 0, [], 4), (103, .if_icmp .ne 58, 3, 106, 161, [], 0), (106, .iload_n 2, 1, 107, 0, [], 0), (107, .bipush 99, 2, 109, 0, [], 99), (109, .if_icmp .ne 52, 3, 112, 161, [], 0), (112, .aload_n 0, 1, 113, 0, [], 0)]),
  (128, [(113, .aload_n 0, 1, 114, 0, [], 0), (114, .getfield 81, 3, 117, 0, [], 0), (117, .iconst 1, 1, 118, 0, [], 1), (118, .iadd, 1, 119, 0, [], 0), (119, .invokevirtual 93, 3, 122, 0, [], 0), (122, .bipush 97, 2, 124, 0, [], 97), (124, .if_icmp .ne 37, 3, 127, 161, [], 0), (127, .aload_n 0, 1, 128, 0, [], 0), (128, .aload_n 0, 1, 129, 0, [], 0)]),
  (144, [(129, .getfield 81, 3, 132, 0, [], 0), (132, .iconst 2, 1, 133, 0, [], 2), (133, .iadd, 1, 134, 0, [], 0), (134, .invokevirtual 93, 3, 137, 0, [], 0), (137, .bipush 108, 2, 139, 0, [], 108), (139, .if_icmp .ne 22, 3, 142, 161, [], 0), (142, .aload_n 0, 1, 143, 0, [], 0), (143, .aload_n 0, 1, 144, 0, [], 0), (144, .getfield 81, 3, 147, 0, [], 0)]),
  (162, [(147, .iconst 3, 1, 148, 0, [], 3), (148, .iadd, 1, 149, 0, [], 0), (149, .invokevirtual 93, 3, 152, 0, [], 0), (152, .bipush 108, 2, 154, 0, [], 108), (154, .if_icmp .ne 7, 3, 157, 161, [], 0), (157, .iconst 1, 1, 158, 0, [], 1), (158, .goto 4, 3, 161, 162, [], 0), (161, .iconst 0, 1, 162, 0, [], 0), (162, .istore_n 3, 1, 163, 0, [], 0)]),
  (173, [(163, .iload_n 3, 1, 164, 0, [], 0), (164, .ifCond .eq 7, 3, 167, 171, [], 0), (167, .iconst 1, 1, 168, 0, [], 1), (168, .goto 5, 3, 171, 173, [], 0), (171, .bipush (-4), 2, 173, 0, [], (-4)), (173, .ireturn, 1, 174, 0, [], 0)])]
set_option maxRecDepth 100000 in
theorem okX5_wordNow : okT cX5_wordNow tX5_wordNow = true := by decide +kernel
def tX5_readNumber : List (Nat × List Et) := [(16, [(0, .aload_n 0, 1, 1, 0, [], 0), (1, .getfield 78, 3, 4, 0, [], 0), (4, .ifCond .ne 21, 3, 7, 25, [], 0), (7, .aload_n 0, 1, 8, 0, [], 0), (8, .aload_n 0, 1, 9, 0, [], 0), (9, .getfield 87, 3, 12, 0, [], 0), (12, .iconst 2, 1, 13, 0, [], 2), (13, .if_icmp .ne 7, 3, 16, 20, [], 0), (16, .iconst 1, 1, 17, 0, [], 1)]),
  (33, [(17, .goto 4, 3, 20, 21, [], 0), (20, .iconst 0, 1, 21, 0, [], 0), (21, .iconst 2, 1, 22, 0, [], 2), (22, .invokevirtual 108, 3, 25, 0, [], 0), (25, .aload_n 0, 1, 26, 0, [], 0), (26, .getfield 78, 3, 29, 0, [], 0), (29, .ifCond .ne 20, 3, 32, 49, [], 0), (32, .aload_n 0, 1, 33, 0, [], 0), (33, .aload_n 0, 1, 34, 0, [], 0)]),
  (46, [(34, .getfield 105, 3, 37, 0, [], 0), (37, .i2l, 1, 38, 0, [], 0), (38, .iload_n 1, 1, 39, 0, [], 0), (39, .i2l, 1, 40, 0, [], 0), (40, .iload_n 2, 1, 41, 0, [], 0), (41, .i2l, 1, 42, 0, [], 0), (42, .invokestatic 71, 3, 45, 0, [], 0), (45, .iconst 3, 1, 46, 0, [], 3), (46, .invokevirtual 108, 3, 49, 0, [], 0)]),
  (65, [(49, .aload_n 0, 1, 50, 0, [], 0), (50, .getfield 78, 3, 53, 0, [], 0), (53, .ifCond .ne 10, 3, 56, 63, [], 0), (56, .aload_n 0, 1, 57, 0, [], 0), (57, .getfield 105, 3, 60, 0, [], 0), (60, .goto 4, 3, 63, 64, [], 0), (63, .iconst 0, 1, 64, 0, [], 0), (64, .istore_n 3, 1, 65, 0, [], 0), (65, .aload_n 0, 1, 66, 0, [], 0)]),
  (70, [(66, .invokevirtual 115, 3, 69, 0, [], 0), (69, .iload_n 3, 1, 70, 0, [], 0), (70, .ireturn, 1, 71, 0, [], 0)])]
set_option maxRecDepth 100000 in
theorem okX5_readNumber : okT cX5_readNumber tX5_readNumber = true := by decide +kernel
def tX5_readCall : List (Nat × List Et) := [(11, [(0, .aload_n 0, 1, 1, 0, [], 0), (1, .getfield 20, 3, 4, 0, [], 0), (4, .iconst 3, 1, 5, 0, [], 3), (5, .iaload, 1, 6, 0, [], 0), (6, .istore_n 1, 1, 7, 0, [], 0), (7, .iconst 4, 1, 8, 0, [], 4), (8, .bipush 8, 2, 10, 0, [], 8), (10, .aload_n 0, 1, 11, 0, [], 0), (11, .getfield 20, 3, 14, 0, [], 0)]),
  (23, [(14, .bipush 100, 2, 16, 0, [], 100), (16, .iaload, 1, 17, 0, [], 0), (17, .imul, 1, 18, 0, [], 0), (18, .iadd, 1, 19, 0, [], 0), (19, .istore_n 2, 1, 20, 0, [], 0), (20, .iconst 0, 1, 21, 0, [], 0), (21, .istore_n 3, 1, 22, 0, [], 0), (22, .iload_n 3, 1, 23, 0, [], 0), (23, .bipush 8, 2, 25, 0, [], 8)]),
  (37, [(25, .if_icmp .ge 18, 3, 28, 43, [], 0), (28, .aload_n 0, 1, 29, 0, [], 0), (29, .getfield 20, 3, 32, 0, [], 0), (32, .iload_n 2, 1, 33, 0, [], 0), (33, .iload_n 3, 1, 34, 0, [], 0), (34, .iadd, 1, 35, 0, [], 0), (35, .iconst 0, 1, 36, 0, [], 0), (36, .iastore, 1, 37, 0, [], 0), (37, .iinc 3 1, 3, 40, 0, [], 1)]),
  (52, [(40, .goto (-18), 3, 43, 22, [], 0), (43, .aload_n 0, 1, 44, 0, [], 0), (44, .getfield 20, 3, 47, 0, [], 0), (47, .iload_n 2, 1, 48, 0, [], 0), (48, .iconst 0, 1, 49, 0, [], 0), (49, .iadd, 1, 50, 0, [], 0), (50, .aload_n 0, 1, 51, 0, [], 0), (51, .iconst 0, 1, 52, 0, [], 0), (52, .iload_n 1, 1, 53, 0, [], 0)]),
  (65, [(53, .iconst 1, 1, 54, 0, [], 1), (54, .isub, 1, 55, 0, [], 0), (55, .invokevirtual 122, 3, 58, 0, [], 0), (58, .iastore, 1, 59, 0, [], 0), (59, .aload_n 0, 1, 60, 0, [], 0), (60, .getfield 20, 3, 63, 0, [], 0), (63, .iload_n 2, 1, 64, 0, [], 0), (64, .iconst 1, 1, 65, 0, [], 1), (65, .iadd, 1, 66, 0, [], 0)]),
  (76, [(66, .aload_n 0, 1, 67, 0, [], 0), (67, .iconst 0, 1, 68, 0, [], 0), (68, .iload_n 1, 1, 69, 0, [], 0), (69, .iconst 1, 1, 70, 0, [], 1), (70, .isub, 1, 71, 0, [], 0), (71, .invokevirtual 122, 3, 74, 0, [], 0), (74, .iastore, 1, 75, 0, [], 0), (75, .aload_n 0, 1, 76, 0, [], 0), (76, .getfield 78, 3, 79, 0, [], 0)]),
  (91, [(79, .ifCond .le 4, 3, 82, 83, [], 0), (82, .return_, 1, 83, 0, [], 0), (83, .iconst 0, 1, 84, 0, [], 0), (84, .istore_n 3, 1, 85, 0, [], 0), (85, .iload_n 3, 1, 86, 0, [], 0), (86, .aload_n 0, 1, 87, 0, [], 0), (87, .getfield 20, 3, 90, 0, [], 0), (90, .aload_n 0, 1, 91, 0, [], 0), (91, .getfield 20, 3, 94, 0, [], 0)]),
  (104, [(94, .iload_n 2, 1, 95, 0, [], 0), (95, .iconst 1, 1, 96, 0, [], 1), (96, .iadd, 1, 97, 0, [], 0), (97, .iaload, 1, 98, 0, [], 0), (98, .iaload, 1, 99, 0, [], 0), (99, .if_icmp .ge 33, 3, 102, 132, [], 0), (102, .aload_n 0, 1, 103, 0, [], 0), (103, .iload_n 2, 1, 104, 0, [], 0), (104, .iconst 2, 1, 105, 0, [], 2)]),
  (115, [(105, .iadd, 1, 106, 0, [], 0), (106, .iconst 3, 1, 107, 0, [], 3), (107, .iload_n 3, 1, 108, 0, [], 0), (108, .imul, 1, 109, 0, [], 0), (109, .iadd, 1, 110, 0, [], 0), (110, .aload_n 0, 1, 111, 0, [], 0), (111, .getfield 20, 3, 114, 0, [], 0), (114, .aload_n 0, 1, 115, 0, [], 0), (115, .getfield 20, 3, 118, 0, [], 0)]),
  (132, [(118, .iload_n 2, 1, 119, 0, [], 0), (119, .iconst 0, 1, 120, 0, [], 0), (120, .iadd, 1, 121, 0, [], 0), (121, .iaload, 1, 122, 0, [], 0), (122, .iaload, 1, 123, 0, [], 0), (123, .invokevirtual 129, 3, 126, 0, [], 0), (126, .iinc 3 1, 3, 129, 0, [], 1), (129, .goto (-44), 3, 132, 85, [], 0), (132, .aload_n 0, 1, 133, 0, [], 0)]),
  (143, [(133, .getfield 20, 3, 136, 0, [], 0), (136, .bipush 100, 2, 138, 0, [], 100), (138, .dup2, 1, 139, 0, [], 0), (139, .iaload, 1, 140, 0, [], 0), (140, .iconst 1, 1, 141, 0, [], 1), (141, .iadd, 1, 142, 0, [], 0), (142, .iastore, 1, 143, 0, [], 0), (143, .return_, 1, 144, 0, [], 0)])]
set_option maxRecDepth 100000 in
theorem okX5_readCall : okT cX5_readCall tX5_readCall = true := by decide +kernel
def tX5_readArgument : List (Nat × List Et) := [(16, [(0, .aload_n 0, 1, 1, 0, [], 0), (1, .getfield 78, 3, 4, 0, [], 0), (4, .ifCond .le 4, 3, 7, 8, [], 0), (7, .return_, 1, 8, 0, [], 0), (8, .aload_n 0, 1, 9, 0, [], 0), (9, .getfield 87, 3, 12, 0, [], 0), (12, .iconst 2, 1, 13, 0, [], 2), (13, .if_icmp .ne 26, 3, 16, 39, [], 0), (16, .aload_n 0, 1, 17, 0, [], 0)]),
  (29, [(17, .getfield 20, 3, 20, 0, [], 0), (20, .iload_n 1, 1, 21, 0, [], 0), (21, .iconst 0, 1, 22, 0, [], 0), (22, .iastore, 1, 23, 0, [], 0), (23, .aload_n 0, 1, 24, 0, [], 0), (24, .getfield 20, 3, 27, 0, [], 0), (27, .iload_n 1, 1, 28, 0, [], 0), (28, .iconst 2, 1, 29, 0, [], 2), (29, .iadd, 1, 30, 0, [], 0)]),
  (41, [(30, .aload_n 0, 1, 31, 0, [], 0), (31, .iconst 0, 1, 32, 0, [], 0), (32, .bipush 9, 2, 34, 0, [], 9), (34, .invokevirtual 122, 3, 37, 0, [], 0), (37, .iastore, 1, 38, 0, [], 0), (38, .return_, 1, 39, 0, [], 0), (39, .aload_n 0, 1, 40, 0, [], 0), (40, .iload_n 2, 1, 41, 0, [], 0), (41, .invokevirtual 126, 3, 44, 0, [], 0)]),
  (59, [(44, .istore_n 3, 1, 45, 0, [], 0), (45, .aload_n 0, 1, 46, 0, [], 0), (46, .getfield 78, 3, 49, 0, [], 0), (49, .ifCond .le 4, 3, 52, 53, [], 0), (52, .return_, 1, 53, 0, [], 0), (53, .aload_n 0, 1, 54, 0, [], 0), (54, .getfield 87, 3, 57, 0, [], 0), (57, .istore 4, 2, 59, 0, [], 0), (59, .aload_n 0, 1, 60, 0, [], 0)]),
  (72, [(60, .getfield 20, 3, 63, 0, [], 0), (63, .iload_n 1, 1, 64, 0, [], 0), (64, .iconst 1, 1, 65, 0, [], 1), (65, .iastore, 1, 66, 0, [], 0), (66, .aload_n 0, 1, 67, 0, [], 0), (67, .getfield 20, 3, 70, 0, [], 0), (70, .iload_n 1, 1, 71, 0, [], 0), (71, .iconst 1, 1, 72, 0, [], 1), (72, .iadd, 1, 73, 0, [], 0)]),
  (83, [(73, .iload_n 3, 1, 74, 0, [], 0), (74, .iastore, 1, 75, 0, [], 0), (75, .aload_n 0, 1, 76, 0, [], 0), (76, .getfield 20, 3, 79, 0, [], 0), (79, .iload_n 1, 1, 80, 0, [], 0), (80, .iconst 2, 1, 81, 0, [], 2), (81, .iadd, 1, 82, 0, [], 0), (82, .iconst 0, 1, 83, 0, [], 0), (83, .iastore, 1, 84, 0, [], 0)]),
  (99, [(84, .iload 4, 2, 86, 0, [], 0), (86, .iconst 3, 1, 87, 0, [], 3), (87, .if_icmp .eq 15, 3, 90, 102, [], 0), (90, .iload 4, 2, 92, 0, [], 0), (92, .iconst 4, 1, 93, 0, [], 4), (93, .if_icmp .eq 9, 3, 96, 102, [], 0), (96, .iload 4, 2, 98, 0, [], 0), (98, .iconst 5, 1, 99, 0, [], 5), (99, .if_icmp .ne 62, 3, 102, 161, [], 0)]),
  (117, [(102, .aload_n 0, 1, 103, 0, [], 0), (103, .invokevirtual 115, 3, 106, 0, [], 0), (106, .aload_n 0, 1, 107, 0, [], 0), (107, .getfield 20, 3, 110, 0, [], 0), (110, .iload_n 1, 1, 111, 0, [], 0), (111, .iload 4, 2, 113, 0, [], 0), (113, .iconst 3, 1, 114, 0, [], 3), (114, .if_icmp .ne 7, 3, 117, 121, [], 0), (117, .iconst 1, 1, 118, 0, [], 1)]),
  (133, [(118, .goto 14, 3, 121, 132, [], 0), (121, .iload 4, 2, 123, 0, [], 0), (123, .iconst 4, 1, 124, 0, [], 4), (124, .if_icmp .ne 7, 3, 127, 131, [], 0), (127, .iconst 2, 1, 128, 0, [], 2), (128, .goto 4, 3, 131, 132, [], 0), (131, .iconst 3, 1, 132, 0, [], 3), (132, .iastore, 1, 133, 0, [], 0), (133, .aload_n 0, 1, 134, 0, [], 0)]),
  (147, [(134, .getfield 20, 3, 137, 0, [], 0), (137, .iload_n 1, 1, 138, 0, [], 0), (138, .iconst 2, 1, 139, 0, [], 2), (139, .iadd, 1, 140, 0, [], 0), (140, .aload_n 0, 1, 141, 0, [], 0), (141, .iload 4, 2, 143, 0, [], 0), (143, .iconst 4, 1, 144, 0, [], 4), (144, .if_icmp .ne 7, 3, 147, 151, [], 0), (147, .iconst 1, 1, 148, 0, [], 1)]),
  (165, [(148, .goto 4, 3, 151, 152, [], 0), (151, .iconst 0, 1, 152, 0, [], 0), (152, .bipush 9, 2, 154, 0, [], 9), (154, .invokevirtual 122, 3, 157, 0, [], 0), (157, .iastore, 1, 158, 0, [], 0), (158, .goto 43, 3, 161, 201, [], 0), (161, .iload 4, 2, 163, 0, [], 0), (163, .bipush 6, 2, 165, 0, [], 6), (165, .if_icmp .ne 36, 3, 168, 201, [], 0)]),
  (182, [(168, .aload_n 0, 1, 169, 0, [], 0), (169, .invokevirtual 115, 3, 172, 0, [], 0), (172, .aload_n 0, 1, 173, 0, [], 0), (173, .iload_n 2, 1, 174, 0, [], 0), (174, .invokevirtual 126, 3, 177, 0, [], 0), (177, .istore 5, 2, 179, 0, [], 0), (179, .iload 5, 2, 181, 0, [], 0), (181, .iload_n 3, 1, 182, 0, [], 0), (182, .if_icmp .eq 19, 3, 185, 201, [], 0)]),
  (197, [(185, .aload_n 0, 1, 186, 0, [], 0), (186, .getfield 20, 3, 189, 0, [], 0), (189, .iload_n 1, 1, 190, 0, [], 0), (190, .iconst 4, 1, 191, 0, [], 4), (191, .iastore, 1, 192, 0, [], 0), (192, .aload_n 0, 1, 193, 0, [], 0), (193, .getfield 20, 3, 196, 0, [], 0), (196, .iload_n 1, 1, 197, 0, [], 0), (197, .iconst 1, 1, 198, 0, [], 1)]),
  (201, [(198, .iadd, 1, 199, 0, [], 0), (199, .iconst 0, 1, 200, 0, [], 0), (200, .iastore, 1, 201, 0, [], 0), (201, .return_, 1, 202, 0, [], 0)])]
set_option maxRecDepth 100000 in
theorem okX5_readArgument : okT cX5_readArgument tX5_readArgument = true := by decide +kernel
def tX5_readValue : List (Nat × List Et) := [(14, [(0, .aload_n 0, 1, 1, 0, [], 0), (1, .invokevirtual 118, 3, 4, 0, [], 0), (4, .istore_n 2, 1, 5, 0, [], 0), (5, .aload_n 0, 1, 6, 0, [], 0), (6, .getfield 78, 3, 9, 0, [], 0), (9, .ifCond .ne 23, 3, 12, 32, [], 0), (12, .aload_n 0, 1, 13, 0, [], 0), (13, .iload_n 2, 1, 14, 0, [], 0), (14, .iconst 2, 1, 15, 0, [], 2)]),
  (29, [(15, .if_icmp .eq 8, 3, 18, 23, [], 0), (18, .iload_n 2, 1, 19, 0, [], 0), (19, .iconst 3, 1, 20, 0, [], 3), (20, .if_icmp .ne 7, 3, 23, 27, [], 0), (23, .iconst 1, 1, 24, 0, [], 1), (24, .goto 4, 3, 27, 28, [], 0), (27, .iconst 0, 1, 28, 0, [], 0), (28, .iconst 2, 1, 29, 0, [], 2), (29, .invokevirtual 108, 3, 32, 0, [], 0)]),
  (46, [(32, .aload_n 0, 1, 33, 0, [], 0), (33, .getfield 78, 3, 36, 0, [], 0), (36, .ifCond .ne 23, 3, 39, 59, [], 0), (39, .aload_n 0, 1, 40, 0, [], 0), (40, .iload_n 2, 1, 41, 0, [], 0), (41, .iconst 2, 1, 42, 0, [], 2), (42, .if_icmp .eq 8, 3, 45, 50, [], 0), (45, .iload_n 1, 1, 46, 0, [], 0), (46, .iconst 2, 1, 47, 0, [], 2)]),
  (63, [(47, .if_icmp .ne 7, 3, 50, 54, [], 0), (50, .iconst 1, 1, 51, 0, [], 1), (51, .goto 4, 3, 54, 55, [], 0), (54, .iconst 0, 1, 55, 0, [], 0), (55, .iconst 3, 1, 56, 0, [], 3), (56, .invokevirtual 108, 3, 59, 0, [], 0), (59, .aload_n 0, 1, 60, 0, [], 0), (60, .invokevirtual 115, 3, 63, 0, [], 0), (63, .iload_n 2, 1, 64, 0, [], 0)]),
  (73, [(64, .iconst 3, 1, 65, 0, [], 3), (65, .if_icmp .ne 7, 3, 68, 72, [], 0), (68, .iconst 1, 1, 69, 0, [], 1), (69, .goto 4, 3, 72, 73, [], 0), (72, .iconst 0, 1, 73, 0, [], 0), (73, .ireturn, 1, 74, 0, [], 0)])]
set_option maxRecDepth 100000 in
theorem okX5_readValue : okT cX5_readValue tX5_readValue = true := by decide +kernel
def tX5_fault : List (Nat × List Et) := [(4, [(0, .aload_n 0, 1, 1, 0, [], 0), (1, .getfield 78, 3, 4, 0, [], 0), (4, .ireturn, 1, 5, 0, [], 0)])]
set_option maxRecDepth 100000 in
theorem okX5_fault : okT cX5_fault tX5_fault = true := by decide +kernel
def tX5_rule : List (Nat × List Et) := [(56, [(0, .iload_n 1, 1, 1, 0, [], 0), (1, .tableswitch 102 0 7 #[47, 54, 62, 71, 77, 83, 91, 96], 47, 48, 103, [48, 55, 63, 72, 78, 84, 92, 97], 0), (48, .aload_n 0, 1, 49, 0, [], 0), (49, .getfield 7, 3, 52, 0, [], 0), (52, .iconst 3, 1, 53, 0, [], 3), (53, .iaload, 1, 54, 0, [], 0), (54, .ireturn, 1, 55, 0, [], 0), (55, .aload_n 0, 1, 56, 0, [], 0), (56, .getfield 7, 3, 59, 0, [], 0)]),
  (72, [(59, .bipush 100, 2, 61, 0, [], 100), (61, .iaload, 1, 62, 0, [], 0), (62, .ireturn, 1, 63, 0, [], 0), (63, .aload_n 0, 1, 64, 0, [], 0), (64, .invokevirtual 192, 3, 67, 0, [], 0), (67, .aload_n 0, 1, 68, 0, [], 0), (68, .getfield 158, 3, 71, 0, [], 0), (71, .ireturn, 1, 72, 0, [], 0), (72, .aload_n 0, 1, 73, 0, [], 0)]),
  (85, [(73, .iconst 0, 1, 74, 0, [], 0), (74, .invokevirtual 201, 3, 77, 0, [], 0), (77, .ireturn, 1, 78, 0, [], 0), (78, .aload_n 0, 1, 79, 0, [], 0), (79, .iconst 1, 1, 80, 0, [], 1), (80, .invokevirtual 201, 3, 83, 0, [], 0), (83, .ireturn, 1, 84, 0, [], 0), (84, .aload_n 0, 1, 85, 0, [], 0), (85, .invokevirtual 204, 3, 88, 0, [], 0)]),
  (102, [(88, .invokestatic 171, 3, 91, 0, [], 0), (91, .ireturn, 1, 92, 0, [], 0), (92, .aload_n 0, 1, 93, 0, [], 0), (93, .invokevirtual 208, 3, 96, 0, [], 0), (96, .ireturn, 1, 97, 0, [], 0), (97, .aload_n 0, 1, 98, 0, [], 0), (98, .iconst 2, 1, 99, 0, [], 2), (99, .invokevirtual 201, 3, 102, 0, [], 0), (102, .ireturn, 1, 103, 0, [], 0)]),
  (104, [(103, .iconst (-1), 1, 104, 0, [], (-1)), (104, .ireturn, 1, 105, 0, [], 0)])]
set_option maxRecDepth 100000 in
theorem okX5_rule : okT cX5_rule tX5_rule = true := by decide +kernel
def tX5_findGraphs : List (Nat × List Et) := [(14, [(0, .aload_n 0, 1, 1, 0, [], 0), (1, .iconst 0, 1, 2, 0, [], 0), (2, .putfield 158, 3, 5, 0, [], 0), (5, .iconst 0, 1, 6, 0, [], 0), (6, .istore_n 1, 1, 7, 0, [], 0), (7, .iload_n 1, 1, 8, 0, [], 0), (8, .sipush 729, 3, 11, 0, [], 729), (11, .if_icmp .ge 17, 3, 14, 28, [], 0), (14, .aload_n 0, 1, 15, 0, [], 0)]),
  (30, [(15, .getfield 44, 3, 18, 0, [], 0), (18, .iload_n 1, 1, 19, 0, [], 0), (19, .bipush (-4), 2, 21, 0, [], (-4)), (21, .iastore, 1, 22, 0, [], 0), (22, .iinc 1 1, 3, 25, 0, [], 1), (25, .goto (-18), 3, 28, 7, [], 0), (28, .iconst 0, 1, 29, 0, [], 0), (29, .istore_n 1, 1, 30, 0, [], 0), (30, .iload_n 1, 1, 31, 0, [], 0)]),
  (46, [(31, .aload_n 0, 1, 32, 0, [], 0), (32, .getfield 7, 3, 35, 0, [], 0), (35, .bipush 100, 2, 37, 0, [], 100), (37, .iaload, 1, 38, 0, [], 0), (38, .if_icmp .ge 41, 3, 41, 79, [], 0), (41, .iload_n 1, 1, 42, 0, [], 0), (42, .aload_n 0, 1, 43, 0, [], 0), (43, .getfield 47, 3, 46, 0, [], 0), (46, .if_icmp .eq 27, 3, 49, 73, [], 0)]),
  (59, [(49, .aload_n 0, 1, 50, 0, [], 0), (50, .aload_n 0, 1, 51, 0, [], 0), (51, .iload_n 1, 1, 52, 0, [], 0), (52, .iconst 0, 1, 53, 0, [], 0), (53, .invokevirtual 139, 3, 56, 0, [], 0), (56, .aload_n 0, 1, 57, 0, [], 0), (57, .iload_n 1, 1, 58, 0, [], 0), (58, .iconst 1, 1, 59, 0, [], 1), (59, .invokevirtual 139, 3, 62, 0, [], 0)]),
  (79, [(62, .aload_n 0, 1, 63, 0, [], 0), (63, .iload_n 1, 1, 64, 0, [], 0), (64, .invokevirtual 161, 3, 67, 0, [], 0), (67, .bipush (-4), 2, 69, 0, [], (-4)), (69, .iload_n 1, 1, 70, 0, [], 0), (70, .invokevirtual 164, 3, 73, 0, [], 0), (73, .iinc 1 1, 3, 76, 0, [], 1), (76, .goto (-46), 3, 79, 30, [], 0), (79, .iconst 0, 1, 80, 0, [], 0)]),
  (92, [(80, .istore_n 1, 1, 81, 0, [], 0), (81, .iload_n 1, 1, 82, 0, [], 0), (82, .aload_n 0, 1, 83, 0, [], 0), (83, .getfield 158, 3, 86, 0, [], 0), (86, .if_icmp .ge 83, 3, 89, 169, [], 0), (89, .iconst 0, 1, 90, 0, [], 0), (90, .istore_n 2, 1, 91, 0, [], 0), (91, .iload_n 2, 1, 92, 0, [], 0), (92, .aload_n 0, 1, 93, 0, [], 0)]),
  (110, [(93, .getfield 7, 3, 96, 0, [], 0), (96, .bipush 100, 2, 98, 0, [], 100), (98, .iaload, 1, 99, 0, [], 0), (99, .if_icmp .ge 64, 3, 102, 163, [], 0), (102, .iload_n 2, 1, 103, 0, [], 0), (103, .aload_n 0, 1, 104, 0, [], 0), (104, .getfield 47, 3, 107, 0, [], 0), (107, .if_icmp .eq 50, 3, 110, 157, [], 0), (110, .aload_n 0, 1, 111, 0, [], 0)]),
  (125, [(111, .iload_n 2, 1, 112, 0, [], 0), (112, .iconst 0, 1, 113, 0, [], 0), (113, .invokevirtual 139, 3, 116, 0, [], 0), (116, .aload_n 0, 1, 117, 0, [], 0), (117, .getfield 29, 3, 120, 0, [], 0), (120, .iload_n 1, 1, 121, 0, [], 0), (121, .iaload, 1, 122, 0, [], 0), (122, .if_icmp .ne 35, 3, 125, 157, [], 0), (125, .aload_n 0, 1, 126, 0, [], 0)]),
  (138, [(126, .aload_n 0, 1, 127, 0, [], 0), (127, .getfield 26, 3, 130, 0, [], 0), (130, .iload_n 1, 1, 131, 0, [], 0), (131, .iaload, 1, 132, 0, [], 0), (132, .aload_n 0, 1, 133, 0, [], 0), (133, .iload_n 2, 1, 134, 0, [], 0), (134, .iconst 1, 1, 135, 0, [], 1), (135, .invokevirtual 139, 3, 138, 0, [], 0), (138, .aload_n 0, 1, 139, 0, [], 0)]),
  (153, [(139, .getfield 32, 3, 142, 0, [], 0), (142, .iload_n 1, 1, 143, 0, [], 0), (143, .iaload, 1, 144, 0, [], 0), (144, .aload_n 0, 1, 145, 0, [], 0), (145, .iload_n 2, 1, 146, 0, [], 0), (146, .invokevirtual 161, 3, 149, 0, [], 0), (149, .invokestatic 168, 3, 152, 0, [], 0), (152, .iload_n 1, 1, 153, 0, [], 0), (153, .iload_n 2, 1, 154, 0, [], 0)]),
  (169, [(154, .invokevirtual 164, 3, 157, 0, [], 0), (157, .iinc 2 1, 3, 160, 0, [], 1), (160, .goto (-69), 3, 163, 91, [], 0), (163, .iinc 1 1, 3, 166, 0, [], 1), (166, .goto (-85), 3, 169, 81, [], 0), (169, .return_, 1, 170, 0, [], 0)])]
set_option maxRecDepth 100000 in
theorem okX5_findGraphs : okT cX5_findGraphs tX5_findGraphs = true := by decide +kernel
def tX5_of : List (Nat × List Et) := [(11, [(0, .aload_n 0, 1, 1, 0, [], 0), (1, .getfield 7, 3, 4, 0, [], 0), (4, .iconst 4, 1, 5, 0, [], 4), (5, .bipush 8, 2, 7, 0, [], 8), (7, .iload_n 1, 1, 8, 0, [], 0), (8, .imul, 1, 9, 0, [], 0), (9, .iadd, 1, 10, 0, [], 0), (10, .iload_n 2, 1, 11, 0, [], 0), (11, .iadd, 1, 12, 0, [], 0)]),
  (13, [(12, .iaload, 1, 13, 0, [], 0), (13, .ireturn, 1, 14, 0, [], 0)])]
set_option maxRecDepth 100000 in
theorem okX5_of : okT cX5_of tX5_of = true := by decide +kernel
def tX5_codeOf : List (Nat × List Et) := [(10, [(0, .iconst 0, 1, 1, 0, [], 0), (1, .istore_n 2, 1, 2, 0, [], 0), (2, .iconst 0, 1, 3, 0, [], 0), (3, .istore_n 3, 1, 4, 0, [], 0), (4, .iload_n 3, 1, 5, 0, [], 0), (5, .aload_n 0, 1, 6, 0, [], 0), (6, .getfield 7, 3, 9, 0, [], 0), (9, .aload_n 0, 1, 10, 0, [], 0), (10, .iload_n 1, 1, 11, 0, [], 0)]),
  (25, [(11, .iconst 0, 1, 12, 0, [], 0), (12, .invokevirtual 139, 3, 15, 0, [], 0), (15, .iaload, 1, 16, 0, [], 0), (16, .if_icmp .ge 52, 3, 19, 68, [], 0), (19, .iconst 0, 1, 20, 0, [], 0), (20, .istore 4, 2, 22, 0, [], 0), (22, .iload 4, 2, 24, 0, [], 0), (24, .aload_n 0, 1, 25, 0, [], 0), (25, .getfield 7, 3, 28, 0, [], 0)]),
  (40, [(28, .aload_n 0, 1, 29, 0, [], 0), (29, .iload_n 1, 1, 30, 0, [], 0), (30, .iconst 1, 1, 31, 0, [], 1), (31, .invokevirtual 139, 3, 34, 0, [], 0), (34, .iaload, 1, 35, 0, [], 0), (35, .if_icmp .ge 27, 3, 38, 62, [], 0), (38, .iload_n 2, 1, 39, 0, [], 0), (39, .iload_n 3, 1, 40, 0, [], 0), (40, .iload 4, 2, 42, 0, [], 0)]),
  (55, [(42, .invokestatic 146, 3, 45, 0, [], 0), (45, .aload_n 0, 1, 46, 0, [], 0), (46, .iload_n 1, 1, 47, 0, [], 0), (47, .iload_n 3, 1, 48, 0, [], 0), (48, .iload 4, 2, 50, 0, [], 0), (50, .invokevirtual 149, 3, 53, 0, [], 0), (53, .imul, 1, 54, 0, [], 0), (54, .iadd, 1, 55, 0, [], 0), (55, .istore_n 2, 1, 56, 0, [], 0)]),
  (69, [(56, .iinc 4 1, 3, 59, 0, [], 1), (59, .goto (-37), 3, 62, 22, [], 0), (62, .iinc 3 1, 3, 65, 0, [], 1), (65, .goto (-61), 3, 68, 4, [], 0), (68, .iload_n 2, 1, 69, 0, [], 0), (69, .ireturn, 1, 70, 0, [], 0)])]
set_option maxRecDepth 100000 in
theorem okX5_codeOf : okT cX5_codeOf tX5_codeOf = true := by decide +kernel
def tX5_weightOf : List (Nat × List Et) := [(16, [(0, .iload_n 0, 1, 1, 0, [], 0), (1, .ifCond .ne 15, 3, 4, 16, [], 0), (4, .iload_n 1, 1, 5, 0, [], 0), (5, .ifCond .ne 7, 3, 8, 12, [], 0), (8, .iconst 1, 1, 9, 0, [], 1), (9, .goto 18, 3, 12, 27, [], 0), (12, .iconst 3, 1, 13, 0, [], 3), (13, .goto 14, 3, 16, 27, [], 0), (16, .iload_n 1, 1, 17, 0, [], 0)]),
  (27, [(17, .ifCond .ne 8, 3, 20, 25, [], 0), (20, .bipush 9, 2, 22, 0, [], 9), (22, .goto 5, 3, 25, 27, [], 0), (25, .bipush 27, 2, 27, 0, [], 27), (27, .ireturn, 1, 28, 0, [], 0)])]
set_option maxRecDepth 100000 in
theorem okX5_weightOf : okT cX5_weightOf tX5_weightOf = true := by decide +kernel
def tX5_relationOf : List (Nat × List Et) := [(11, [(0, .aload_n 0, 1, 1, 0, [], 0), (1, .iload_n 1, 1, 2, 0, [], 0), (2, .iload_n 3, 1, 3, 0, [], 0), (3, .iconst 0, 1, 4, 0, [], 0), (4, .invokevirtual 142, 3, 7, 0, [], 0), (7, .istore 4, 2, 9, 0, [], 0), (9, .aload_n 0, 1, 10, 0, [], 0), (10, .iload_n 1, 1, 11, 0, [], 0), (11, .iload_n 3, 1, 12, 0, [], 0)]),
  (26, [(12, .iconst 2, 1, 13, 0, [], 2), (13, .invokevirtual 142, 3, 16, 0, [], 0), (16, .istore 5, 2, 18, 0, [], 0), (18, .iload 4, 2, 20, 0, [], 0), (20, .iconst 4, 1, 21, 0, [], 4), (21, .if_icmp .ne 5, 3, 24, 26, [], 0), (24, .iconst 1, 1, 25, 0, [], 1), (25, .ireturn, 1, 26, 0, [], 0), (26, .iload 4, 2, 28, 0, [], 0)]),
  (42, [(28, .ifCond .eq 14, 3, 31, 42, [], 0), (31, .aload_n 0, 1, 32, 0, [], 0), (32, .iload_n 1, 1, 33, 0, [], 0), (33, .iload_n 3, 1, 34, 0, [], 0), (34, .iconst 1, 1, 35, 0, [], 1), (35, .invokevirtual 142, 3, 38, 0, [], 0), (38, .iload_n 2, 1, 39, 0, [], 0), (39, .if_icmp .eq 5, 3, 42, 44, [], 0), (42, .iconst 0, 1, 43, 0, [], 0)]),
  (59, [(43, .ireturn, 1, 44, 0, [], 0), (44, .iload 4, 2, 46, 0, [], 0), (46, .iconst 1, 1, 47, 0, [], 1), (47, .if_icmp .ne 16, 3, 50, 63, [], 0), (50, .iload 5, 2, 52, 0, [], 0), (52, .ifCond .le 7, 3, 55, 59, [], 0), (55, .iconst 2, 1, 56, 0, [], 2), (56, .goto 37, 3, 59, 93, [], 0), (59, .iconst 1, 1, 60, 0, [], 1)]),
  (76, [(60, .goto 33, 3, 63, 93, [], 0), (63, .iload 4, 2, 65, 0, [], 0), (65, .iconst 2, 1, 66, 0, [], 2), (66, .if_icmp .ne 17, 3, 69, 83, [], 0), (69, .iload 5, 2, 71, 0, [], 0), (71, .iconst 1, 1, 72, 0, [], 1), (72, .if_icmp .le 7, 3, 75, 79, [], 0), (75, .iconst 2, 1, 76, 0, [], 2), (76, .goto 17, 3, 79, 93, [], 0)]),
  (93, [(79, .iconst 1, 1, 80, 0, [], 1), (80, .goto 13, 3, 83, 93, [], 0), (83, .iload 5, 2, 85, 0, [], 0), (85, .ifCond .ne 7, 3, 88, 92, [], 0), (88, .iconst 1, 1, 89, 0, [], 1), (89, .goto 4, 3, 92, 93, [], 0), (92, .iconst 0, 1, 93, 0, [], 0), (93, .ireturn, 1, 94, 0, [], 0)])]
set_option maxRecDepth 100000 in
theorem okX5_relationOf : okT cX5_relationOf tX5_relationOf = true := by decide +kernel
def tX5_ofArgument : List (Nat × List Et) := [(8, [(0, .aload_n 0, 1, 1, 0, [], 0), (1, .iload_n 1, 1, 2, 0, [], 0), (2, .iconst 2, 1, 3, 0, [], 2), (3, .iconst 3, 1, 4, 0, [], 3), (4, .iload_n 2, 1, 5, 0, [], 0), (5, .imul, 1, 6, 0, [], 0), (6, .iadd, 1, 7, 0, [], 0), (7, .iload_n 3, 1, 8, 0, [], 0), (8, .iadd, 1, 9, 0, [], 0)]),
  (12, [(9, .invokevirtual 139, 3, 12, 0, [], 0), (12, .ireturn, 1, 13, 0, [], 0)])]
set_option maxRecDepth 100000 in
theorem okX5_ofArgument : okT cX5_ofArgument tX5_ofArgument = true := by decide +kernel
def tX5_comes : List (Nat × List Et) := [(14, [(0, .iload_n 1, 1, 1, 0, [], 0), (1, .iload_n 2, 1, 2, 0, [], 0), (2, .iload_n 3, 1, 3, 0, [], 0), (3, .invokestatic 155, 3, 6, 0, [], 0), (6, .istore 6, 2, 8, 0, [], 0), (8, .aload_n 0, 1, 9, 0, [], 0), (9, .getfield 44, 3, 12, 0, [], 0), (12, .iload 6, 2, 14, 0, [], 0), (14, .iaload, 1, 15, 0, [], 0)]),
  (31, [(15, .bipush (-4), 2, 17, 0, [], (-4)), (17, .if_icmp .ne 105, 3, 20, 122, [], 0), (20, .aload_n 0, 1, 21, 0, [], 0), (21, .getfield 44, 3, 24, 0, [], 0), (24, .iload 6, 2, 26, 0, [], 0), (26, .aload_n 0, 1, 27, 0, [], 0), (27, .getfield 158, 3, 30, 0, [], 0), (30, .iastore, 1, 31, 0, [], 0), (31, .aload_n 0, 1, 32, 0, [], 0)]),
  (46, [(32, .getfield 26, 3, 35, 0, [], 0), (35, .aload_n 0, 1, 36, 0, [], 0), (36, .getfield 158, 3, 39, 0, [], 0), (39, .iload_n 1, 1, 40, 0, [], 0), (40, .iastore, 1, 41, 0, [], 0), (41, .aload_n 0, 1, 42, 0, [], 0), (42, .getfield 29, 3, 45, 0, [], 0), (45, .aload_n 0, 1, 46, 0, [], 0), (46, .getfield 158, 3, 49, 0, [], 0)]),
  (61, [(49, .iload_n 2, 1, 50, 0, [], 0), (50, .iastore, 1, 51, 0, [], 0), (51, .aload_n 0, 1, 52, 0, [], 0), (52, .getfield 32, 3, 55, 0, [], 0), (55, .aload_n 0, 1, 56, 0, [], 0), (56, .getfield 158, 3, 59, 0, [], 0), (59, .iload_n 3, 1, 60, 0, [], 0), (60, .iastore, 1, 61, 0, [], 0), (61, .aload_n 0, 1, 62, 0, [], 0)]),
  (77, [(62, .getfield 35, 3, 65, 0, [], 0), (65, .aload_n 0, 1, 66, 0, [], 0), (66, .getfield 158, 3, 69, 0, [], 0), (69, .iload 4, 2, 71, 0, [], 0), (71, .iastore, 1, 72, 0, [], 0), (72, .aload_n 0, 1, 73, 0, [], 0), (73, .getfield 38, 3, 76, 0, [], 0), (76, .aload_n 0, 1, 77, 0, [], 0), (77, .getfield 158, 3, 80, 0, [], 0)]),
  (95, [(80, .iload 5, 2, 82, 0, [], 0), (82, .iastore, 1, 83, 0, [], 0), (83, .aload_n 0, 1, 84, 0, [], 0), (84, .getfield 41, 3, 87, 0, [], 0), (87, .aload_n 0, 1, 88, 0, [], 0), (88, .getfield 158, 3, 91, 0, [], 0), (91, .iload 4, 2, 93, 0, [], 0), (93, .bipush (-4), 2, 95, 0, [], (-4)), (95, .if_icmp .ne 7, 3, 98, 102, [], 0)]),
  (111, [(98, .iconst 1, 1, 99, 0, [], 1), (99, .goto 12, 3, 102, 111, [], 0), (102, .aload_n 0, 1, 103, 0, [], 0), (103, .getfield 41, 3, 106, 0, [], 0), (106, .iload 4, 2, 108, 0, [], 0), (108, .iaload, 1, 109, 0, [], 0), (109, .iconst 1, 1, 110, 0, [], 1), (110, .iadd, 1, 111, 0, [], 0), (111, .iastore, 1, 112, 0, [], 0)]),
  (122, [(112, .aload_n 0, 1, 113, 0, [], 0), (113, .dup, 1, 114, 0, [], 0), (114, .getfield 158, 3, 117, 0, [], 0), (117, .iconst 1, 1, 118, 0, [], 1), (118, .iadd, 1, 119, 0, [], 0), (119, .putfield 158, 3, 122, 0, [], 0), (122, .return_, 1, 123, 0, [], 0)])]
set_option maxRecDepth 100000 in
theorem okX5_comes : okT cX5_comes tX5_comes = true := by decide +kernel
def tX5_slot : List (Nat × List Et) := [(9, [(0, .bipush 81, 2, 2, 0, [], 81), (2, .iconst 3, 1, 3, 0, [], 3), (3, .iload_n 0, 1, 4, 0, [], 0), (4, .imul, 1, 5, 0, [], 0), (5, .iload_n 1, 1, 6, 0, [], 0), (6, .iadd, 1, 7, 0, [], 0), (7, .imul, 1, 8, 0, [], 0), (8, .iload_n 2, 1, 9, 0, [], 0), (9, .iadd, 1, 10, 0, [], 0)]),
  (10, [(10, .ireturn, 1, 11, 0, [], 0)])]
set_option maxRecDepth 100000 in
theorem okX5_slot : okT cX5_slot tX5_slot = true := by decide +kernel
def tX5_composed : List (Nat × List Et) := [(10, [(0, .iconst 0, 1, 1, 0, [], 0), (1, .istore_n 2, 1, 2, 0, [], 0), (2, .iconst 0, 1, 3, 0, [], 0), (3, .istore_n 3, 1, 4, 0, [], 0), (4, .iload_n 3, 1, 5, 0, [], 0), (5, .iconst 2, 1, 6, 0, [], 2), (6, .if_icmp .ge 122, 3, 9, 128, [], 0), (9, .iconst 0, 1, 10, 0, [], 0), (10, .istore 4, 2, 12, 0, [], 0)]),
  (26, [(12, .iload 4, 2, 14, 0, [], 0), (14, .iconst 2, 1, 15, 0, [], 2), (15, .if_icmp .ge 107, 3, 18, 122, [], 0), (18, .iconst 0, 1, 19, 0, [], 0), (19, .istore 5, 2, 21, 0, [], 0), (21, .iconst 0, 1, 22, 0, [], 0), (22, .istore 6, 2, 24, 0, [], 0), (24, .iload 6, 2, 26, 0, [], 0), (26, .iconst 2, 1, 27, 0, [], 2)]),
  (42, [(27, .if_icmp .ge 77, 3, 30, 104, [], 0), (30, .iload_n 0, 1, 31, 0, [], 0), (31, .iload_n 3, 1, 32, 0, [], 0), (32, .iload 6, 2, 34, 0, [], 0), (34, .invokestatic 152, 3, 37, 0, [], 0), (37, .istore 7, 2, 39, 0, [], 0), (39, .iload_n 1, 1, 40, 0, [], 0), (40, .iload 6, 2, 42, 0, [], 0), (42, .iload 4, 2, 44, 0, [], 0)]),
  (63, [(44, .invokestatic 152, 3, 47, 0, [], 0), (47, .istore 8, 2, 49, 0, [], 0), (49, .iload 7, 2, 51, 0, [], 0), (51, .ifCond .eq 8, 3, 54, 59, [], 0), (54, .iload 8, 2, 56, 0, [], 0), (56, .ifCond .ne 7, 3, 59, 63, [], 0), (59, .iconst 0, 1, 60, 0, [], 0), (60, .goto 20, 3, 63, 80, [], 0), (63, .iload 7, 2, 65, 0, [], 0)]),
  (80, [(65, .iconst 2, 1, 66, 0, [], 2), (66, .if_icmp .eq 9, 3, 69, 75, [], 0), (69, .iload 8, 2, 71, 0, [], 0), (71, .iconst 2, 1, 72, 0, [], 2), (72, .if_icmp .ne 7, 3, 75, 79, [], 0), (75, .iconst 2, 1, 76, 0, [], 2), (76, .goto 4, 3, 79, 80, [], 0), (79, .iconst 1, 1, 80, 0, [], 1), (80, .istore 9, 2, 82, 0, [], 0)]),
  (101, [(82, .iload 9, 2, 84, 0, [], 0), (84, .iload 5, 2, 86, 0, [], 0), (86, .if_icmp .le 8, 3, 89, 94, [], 0), (89, .iload 9, 2, 91, 0, [], 0), (91, .goto 5, 3, 94, 96, [], 0), (94, .iload 5, 2, 96, 0, [], 0), (96, .istore 5, 2, 98, 0, [], 0), (98, .iinc 6 1, 3, 101, 0, [], 1), (101, .goto (-77), 3, 104, 24, [], 0)]),
  (116, [(104, .iload_n 2, 1, 105, 0, [], 0), (105, .iload_n 3, 1, 106, 0, [], 0), (106, .iload 4, 2, 108, 0, [], 0), (108, .invokestatic 146, 3, 111, 0, [], 0), (111, .iload 5, 2, 113, 0, [], 0), (113, .imul, 1, 114, 0, [], 0), (114, .iadd, 1, 115, 0, [], 0), (115, .istore_n 2, 1, 116, 0, [], 0), (116, .iinc 4 1, 3, 119, 0, [], 1)]),
  (129, [(119, .goto (-107), 3, 122, 12, [], 0), (122, .iinc 3 1, 3, 125, 0, [], 1), (125, .goto (-121), 3, 128, 4, [], 0), (128, .iload_n 2, 1, 129, 0, [], 0), (129, .ireturn, 1, 130, 0, [], 0)])]
set_option maxRecDepth 100000 in
theorem okX5_composed : okT cX5_composed tX5_composed = true := by decide +kernel
def tX5_relation : List (Nat × List Et) := [(9, [(0, .iload_n 0, 1, 1, 0, [], 0), (1, .iload_n 1, 1, 2, 0, [], 0), (2, .iload_n 2, 1, 3, 0, [], 0), (3, .invokestatic 146, 3, 6, 0, [], 0), (6, .idiv, 1, 7, 0, [], 0), (7, .iconst 3, 1, 8, 0, [], 3), (8, .irem, 1, 9, 0, [], 0), (9, .ireturn, 1, 10, 0, [], 0)])]
set_option maxRecDepth 100000 in
theorem okX5_relation : okT cX5_relation tX5_relation = true := by decide +kernel
def tX5_graphsThat : List (Nat × List Et) := [(10, [(0, .aload_n 0, 1, 1, 0, [], 0), (1, .invokevirtual 192, 3, 4, 0, [], 0), (4, .iconst 0, 1, 5, 0, [], 0), (5, .istore_n 2, 1, 6, 0, [], 0), (6, .iconst 0, 1, 7, 0, [], 0), (7, .istore_n 3, 1, 8, 0, [], 0), (8, .iload_n 3, 1, 9, 0, [], 0), (9, .aload_n 0, 1, 10, 0, [], 0), (10, .getfield 158, 3, 13, 0, [], 0)]),
  (29, [(13, .if_icmp .ge 82, 3, 16, 95, [], 0), (16, .iload_n 2, 1, 17, 0, [], 0), (17, .iload_n 1, 1, 18, 0, [], 0), (18, .ifCond .ne 11, 3, 21, 29, [], 0), (21, .aload_n 0, 1, 22, 0, [], 0), (22, .iload_n 3, 1, 23, 0, [], 0), (23, .invokevirtual 175, 3, 26, 0, [], 0), (26, .goto 58, 3, 29, 84, [], 0), (29, .iload_n 1, 1, 30, 0, [], 0)]),
  (44, [(30, .iconst 1, 1, 31, 0, [], 1), (31, .if_icmp .ne 11, 3, 34, 42, [], 0), (34, .aload_n 0, 1, 35, 0, [], 0), (35, .iload_n 3, 1, 36, 0, [], 0), (36, .invokevirtual 189, 3, 39, 0, [], 0), (39, .goto 45, 3, 42, 84, [], 0), (42, .iload_n 1, 1, 43, 0, [], 0), (43, .iconst 2, 1, 44, 0, [], 2), (44, .if_icmp .ne 19, 3, 47, 63, [], 0)]),
  (63, [(47, .aload_n 0, 1, 48, 0, [], 0), (48, .iload_n 3, 1, 49, 0, [], 0), (49, .invokevirtual 198, 3, 52, 0, [], 0), (52, .ifCond .ne 7, 3, 55, 59, [], 0), (55, .iconst 1, 1, 56, 0, [], 1), (56, .goto 28, 3, 59, 84, [], 0), (59, .iconst 0, 1, 60, 0, [], 0), (60, .goto 24, 3, 63, 84, [], 0), (63, .aload_n 0, 1, 64, 0, [], 0)]),
  (80, [(64, .iload_n 3, 1, 65, 0, [], 0), (65, .invokevirtual 189, 3, 68, 0, [], 0), (68, .ifCond .eq 15, 3, 71, 83, [], 0), (71, .aload_n 0, 1, 72, 0, [], 0), (72, .iload_n 3, 1, 73, 0, [], 0), (73, .invokevirtual 198, 3, 76, 0, [], 0), (76, .ifCond .ne 7, 3, 79, 83, [], 0), (79, .iconst 1, 1, 80, 0, [], 1), (80, .goto 4, 3, 83, 84, [], 0)]),
  (96, [(83, .iconst 0, 1, 84, 0, [], 0), (84, .invokestatic 171, 3, 87, 0, [], 0), (87, .iadd, 1, 88, 0, [], 0), (88, .istore_n 2, 1, 89, 0, [], 0), (89, .iinc 3 1, 3, 92, 0, [], 1), (92, .goto (-84), 3, 95, 8, [], 0), (95, .iload_n 2, 1, 96, 0, [], 0), (96, .ireturn, 1, 97, 0, [], 0)])]
set_option maxRecDepth 100000 in
theorem okX5_graphsThat : okT cX5_graphsThat tX5_graphsThat = true := by decide +kernel
def tX5_isIdle : List (Nat × List Et) := [(12, [(0, .aload_n 0, 1, 1, 0, [], 0), (1, .getfield 26, 3, 4, 0, [], 0), (4, .iload_n 1, 1, 5, 0, [], 0), (5, .iaload, 1, 6, 0, [], 0), (6, .aload_n 0, 1, 7, 0, [], 0), (7, .getfield 29, 3, 10, 0, [], 0), (10, .iload_n 1, 1, 11, 0, [], 0), (11, .iaload, 1, 12, 0, [], 0), (12, .if_icmp .ne 31, 3, 15, 43, [], 0)]),
  (27, [(15, .aload_n 0, 1, 16, 0, [], 0), (16, .getfield 32, 3, 19, 0, [], 0), (19, .iload_n 1, 1, 20, 0, [], 0), (20, .iaload, 1, 21, 0, [], 0), (21, .aload_n 0, 1, 22, 0, [], 0), (22, .getfield 32, 3, 25, 0, [], 0), (25, .iload_n 1, 1, 26, 0, [], 0), (26, .iaload, 1, 27, 0, [], 0), (27, .invokestatic 168, 3, 30, 0, [], 0)]),
  (44, [(30, .aload_n 0, 1, 31, 0, [], 0), (31, .getfield 32, 3, 34, 0, [], 0), (34, .iload_n 1, 1, 35, 0, [], 0), (35, .iaload, 1, 36, 0, [], 0), (36, .if_icmp .ne 7, 3, 39, 43, [], 0), (39, .iconst 1, 1, 40, 0, [], 1), (40, .goto 4, 3, 43, 44, [], 0), (43, .iconst 0, 1, 44, 0, [], 0), (44, .ireturn, 1, 45, 0, [], 0)])]
set_option maxRecDepth 100000 in
theorem okX5_isIdle : okT cX5_isIdle tX5_isIdle = true := by decide +kernel
def tX5_isLoop : List (Nat × List Et) := [(16, [(0, .aload_n 0, 1, 1, 0, [], 0), (1, .iload_n 1, 1, 2, 0, [], 0), (2, .invokevirtual 175, 3, 5, 0, [], 0), (5, .ifCond .eq 15, 3, 8, 20, [], 0), (8, .aload_n 0, 1, 9, 0, [], 0), (9, .iload_n 1, 1, 10, 0, [], 0), (10, .invokevirtual 179, 3, 13, 0, [], 0), (13, .ifCond .ne 7, 3, 16, 20, [], 0), (16, .iconst 1, 1, 17, 0, [], 1)]),
  (21, [(17, .goto 4, 3, 20, 21, [], 0), (20, .iconst 0, 1, 21, 0, [], 0), (21, .ireturn, 1, 22, 0, [], 0)])]
set_option maxRecDepth 100000 in
theorem okX5_isLoop : okT cX5_isLoop tX5_isLoop = true := by decide +kernel
def tX5_fallsOf : List (Nat × List Et) := [(10, [(0, .aload_n 0, 1, 1, 0, [], 0), (1, .getfield 32, 3, 4, 0, [], 0), (4, .iload_n 1, 1, 5, 0, [], 0), (5, .iaload, 1, 6, 0, [], 0), (6, .istore_n 2, 1, 7, 0, [], 0), (7, .iload_n 2, 1, 8, 0, [], 0), (8, .iconst 0, 1, 9, 0, [], 0), (9, .iconst 0, 1, 10, 0, [], 0), (10, .invokestatic 152, 3, 13, 0, [], 0)]),
  (27, [(13, .iconst 2, 1, 14, 0, [], 2), (14, .if_icmp .ne 7, 3, 17, 21, [], 0), (17, .iconst 1, 1, 18, 0, [], 1), (18, .goto 4, 3, 21, 22, [], 0), (21, .iconst 0, 1, 22, 0, [], 0), (22, .invokestatic 171, 3, 25, 0, [], 0), (25, .iload_n 2, 1, 26, 0, [], 0), (26, .iconst 1, 1, 27, 0, [], 1), (27, .iconst 1, 1, 28, 0, [], 1)]),
  (44, [(28, .invokestatic 152, 3, 31, 0, [], 0), (31, .iconst 2, 1, 32, 0, [], 2), (32, .if_icmp .ne 7, 3, 35, 39, [], 0), (35, .iconst 1, 1, 36, 0, [], 1), (36, .goto 4, 3, 39, 40, [], 0), (39, .iconst 0, 1, 40, 0, [], 0), (40, .invokestatic 171, 3, 43, 0, [], 0), (43, .iconst 1, 1, 44, 0, [], 1), (44, .ishl, 1, 45, 0, [], 0)]),
  (46, [(45, .ior, 1, 46, 0, [], 0), (46, .ireturn, 1, 47, 0, [], 0)])]
set_option maxRecDepth 100000 in
theorem okX5_fallsOf : okT cX5_fallsOf tX5_fallsOf = true := by decide +kernel
def tX5_flag : List (Nat × List Et) := [(9, [(0, .iload_n 0, 1, 1, 0, [], 0), (1, .ifCond .eq 7, 3, 4, 8, [], 0), (4, .iconst 1, 1, 5, 0, [], 1), (5, .goto 4, 3, 8, 9, [], 0), (8, .iconst 0, 1, 9, 0, [], 0), (9, .ireturn, 1, 10, 0, [], 0)])]
set_option maxRecDepth 100000 in
theorem okX5_flag : okT cX5_flag tX5_flag = true := by decide +kernel
def tX5_isNeedless : List (Nat × List Et) := [(12, [(0, .iconst 0, 1, 1, 0, [], 0), (1, .istore_n 2, 1, 2, 0, [], 0), (2, .iconst 0, 1, 3, 0, [], 0), (3, .istore_n 3, 1, 4, 0, [], 0), (4, .iload_n 3, 1, 5, 0, [], 0), (5, .aload_n 0, 1, 6, 0, [], 0), (6, .getfield 158, 3, 9, 0, [], 0), (9, .if_icmp .ge 72, 3, 12, 81, [], 0), (12, .iload_n 2, 1, 13, 0, [], 0)]),
  (27, [(13, .ifCond .ne 56, 3, 16, 69, [], 0), (16, .iload_n 3, 1, 17, 0, [], 0), (17, .iload_n 1, 1, 18, 0, [], 0), (18, .if_icmp .eq 55, 3, 21, 73, [], 0), (21, .aload_n 0, 1, 22, 0, [], 0), (22, .getfield 26, 3, 25, 0, [], 0), (25, .iload_n 3, 1, 26, 0, [], 0), (26, .iaload, 1, 27, 0, [], 0), (27, .aload_n 0, 1, 28, 0, [], 0)]),
  (42, [(28, .getfield 26, 3, 31, 0, [], 0), (31, .iload_n 1, 1, 32, 0, [], 0), (32, .iaload, 1, 33, 0, [], 0), (33, .if_icmp .ne 40, 3, 36, 73, [], 0), (36, .aload_n 0, 1, 37, 0, [], 0), (37, .getfield 29, 3, 40, 0, [], 0), (40, .iload_n 3, 1, 41, 0, [], 0), (41, .iaload, 1, 42, 0, [], 0), (42, .aload_n 0, 1, 43, 0, [], 0)]),
  (57, [(43, .getfield 29, 3, 46, 0, [], 0), (46, .iload_n 1, 1, 47, 0, [], 0), (47, .iaload, 1, 48, 0, [], 0), (48, .if_icmp .ne 25, 3, 51, 73, [], 0), (51, .aload_n 0, 1, 52, 0, [], 0), (52, .getfield 32, 3, 55, 0, [], 0), (55, .iload_n 3, 1, 56, 0, [], 0), (56, .iaload, 1, 57, 0, [], 0), (57, .aload_n 0, 1, 58, 0, [], 0)]),
  (74, [(58, .getfield 32, 3, 61, 0, [], 0), (61, .iload_n 1, 1, 62, 0, [], 0), (62, .iaload, 1, 63, 0, [], 0), (63, .invokestatic 182, 3, 66, 0, [], 0), (66, .ifCond .eq 7, 3, 69, 73, [], 0), (69, .iconst 1, 1, 70, 0, [], 1), (70, .goto 4, 3, 73, 74, [], 0), (73, .iconst 0, 1, 74, 0, [], 0), (74, .istore_n 2, 1, 75, 0, [], 0)]),
  (82, [(75, .iinc 3 1, 3, 78, 0, [], 1), (78, .goto (-74), 3, 81, 4, [], 0), (81, .iload_n 2, 1, 82, 0, [], 0), (82, .ireturn, 1, 83, 0, [], 0)])]
set_option maxRecDepth 100000 in
theorem okX5_isNeedless : okT cX5_isNeedless tX5_isNeedless = true := by decide +kernel
def tX5_isNoneAbove : List (Nat × List Et) := [(10, [(0, .iconst 1, 1, 1, 0, [], 1), (1, .istore_n 2, 1, 2, 0, [], 0), (2, .iconst 0, 1, 3, 0, [], 0), (3, .istore_n 3, 1, 4, 0, [], 0), (4, .iload_n 3, 1, 5, 0, [], 0), (5, .iconst 2, 1, 6, 0, [], 2), (6, .if_icmp .ge 51, 3, 9, 57, [], 0), (9, .iconst 0, 1, 10, 0, [], 0), (10, .istore 4, 2, 12, 0, [], 0)]),
  (26, [(12, .iload 4, 2, 14, 0, [], 0), (14, .iconst 2, 1, 15, 0, [], 2), (15, .if_icmp .ge 36, 3, 18, 51, [], 0), (18, .iload_n 2, 1, 19, 0, [], 0), (19, .ifCond .eq 24, 3, 22, 43, [], 0), (22, .iload_n 0, 1, 23, 0, [], 0), (23, .iload_n 3, 1, 24, 0, [], 0), (24, .iload 4, 2, 26, 0, [], 0), (26, .invokestatic 152, 3, 29, 0, [], 0)]),
  (44, [(29, .iload_n 1, 1, 30, 0, [], 0), (30, .iload_n 3, 1, 31, 0, [], 0), (31, .iload 4, 2, 33, 0, [], 0), (33, .invokestatic 152, 3, 36, 0, [], 0), (36, .if_icmp .gt 7, 3, 39, 43, [], 0), (39, .iconst 1, 1, 40, 0, [], 1), (40, .goto 4, 3, 43, 44, [], 0), (43, .iconst 0, 1, 44, 0, [], 0), (44, .istore_n 2, 1, 45, 0, [], 0)]),
  (58, [(45, .iinc 4 1, 3, 48, 0, [], 1), (48, .goto (-36), 3, 51, 12, [], 0), (51, .iinc 3 1, 3, 54, 0, [], 1), (54, .goto (-50), 3, 57, 4, [], 0), (57, .iload_n 2, 1, 58, 0, [], 0), (58, .ireturn, 1, 59, 0, [], 0)])]
set_option maxRecDepth 100000 in
theorem okX5_isNoneAbove : okT cX5_isNoneAbove tX5_isNoneAbove = true := by decide +kernel
def tX5_allEnd : List (Nat × List Et) := [(14, [(0, .aload_n 0, 1, 1, 0, [], 0), (1, .invokevirtual 192, 3, 4, 0, [], 0), (4, .iconst 0, 1, 5, 0, [], 0), (5, .istore_n 1, 1, 6, 0, [], 0), (6, .iload_n 1, 1, 7, 0, [], 0), (7, .aload_n 0, 1, 8, 0, [], 0), (8, .getfield 158, 3, 11, 0, [], 0), (11, .if_icmp .ge 19, 3, 14, 30, [], 0), (14, .aload_n 0, 1, 15, 0, [], 0)]),
  (31, [(15, .iload_n 1, 1, 16, 0, [], 0), (16, .invokevirtual 189, 3, 19, 0, [], 0), (19, .ifCond .eq 5, 3, 22, 24, [], 0), (22, .iconst 0, 1, 23, 0, [], 0), (23, .ireturn, 1, 24, 0, [], 0), (24, .iinc 1 1, 3, 27, 0, [], 1), (27, .goto (-21), 3, 30, 6, [], 0), (30, .iconst 1, 1, 31, 0, [], 1), (31, .ireturn, 1, 32, 0, [], 0)])]
set_option maxRecDepth 100000 in
theorem okX5_allEnd : okT cX5_allEnd tX5_allEnd = true := by decide +kernel
def tX5_components : List (Nat × List Et) := [(10, [(0, .iconst 0, 1, 1, 0, [], 0), (1, .istore_n 1, 1, 2, 0, [], 0), (2, .iconst 0, 1, 3, 0, [], 0), (3, .istore_n 2, 1, 4, 0, [], 0), (4, .iload_n 2, 1, 5, 0, [], 0), (5, .aload_n 0, 1, 6, 0, [], 0), (6, .getfield 7, 3, 9, 0, [], 0), (9, .iconst 3, 1, 10, 0, [], 3), (10, .iaload, 1, 11, 0, [], 0)]),
  (25, [(11, .if_icmp .ge 29, 3, 14, 40, [], 0), (14, .iload_n 1, 1, 15, 0, [], 0), (15, .aload_n 0, 1, 16, 0, [], 0), (16, .iload_n 2, 1, 17, 0, [], 0), (17, .invokevirtual 195, 3, 20, 0, [], 0), (20, .iload_n 2, 1, 21, 0, [], 0), (21, .if_icmp .ne 7, 3, 24, 28, [], 0), (24, .iconst 1, 1, 25, 0, [], 1), (25, .goto 4, 3, 28, 29, [], 0)]),
  (41, [(28, .iconst 0, 1, 29, 0, [], 0), (29, .invokestatic 171, 3, 32, 0, [], 0), (32, .iadd, 1, 33, 0, [], 0), (33, .istore_n 1, 1, 34, 0, [], 0), (34, .iinc 2 1, 3, 37, 0, [], 1), (37, .goto (-33), 3, 40, 4, [], 0), (40, .iload_n 1, 1, 41, 0, [], 0), (41, .ireturn, 1, 42, 0, [], 0)])]
set_option maxRecDepth 100000 in
theorem okX5_components : okT cX5_components tX5_components = true := by decide +kernel
def tX5_componentOf : List (Nat × List Et) := [(10, [(0, .iload_n 1, 1, 1, 0, [], 0), (1, .istore_n 2, 1, 2, 0, [], 0), (2, .iload_n 1, 1, 3, 0, [], 0), (3, .iconst 1, 1, 4, 0, [], 1), (4, .isub, 1, 5, 0, [], 0), (5, .istore_n 3, 1, 6, 0, [], 0), (6, .iload_n 3, 1, 7, 0, [], 0), (7, .ifCond .lt 41, 3, 10, 48, [], 0), (10, .aload_n 0, 1, 11, 0, [], 0)]),
  (23, [(11, .iload_n 1, 1, 12, 0, [], 0), (12, .invokevirtual 186, 3, 15, 0, [], 0), (15, .iload_n 3, 1, 16, 0, [], 0), (16, .ishr, 1, 17, 0, [], 0), (17, .iconst 1, 1, 18, 0, [], 1), (18, .iand, 1, 19, 0, [], 0), (19, .iconst 1, 1, 20, 0, [], 1), (20, .if_icmp .ne 20, 3, 23, 40, [], 0), (23, .aload_n 0, 1, 24, 0, [], 0)]),
  (36, [(24, .iload_n 3, 1, 25, 0, [], 0), (25, .invokevirtual 186, 3, 28, 0, [], 0), (28, .iload_n 1, 1, 29, 0, [], 0), (29, .ishr, 1, 30, 0, [], 0), (30, .iconst 1, 1, 31, 0, [], 1), (31, .iand, 1, 32, 0, [], 0), (32, .iconst 1, 1, 33, 0, [], 1), (33, .if_icmp .ne 7, 3, 36, 40, [], 0), (36, .iload_n 3, 1, 37, 0, [], 0)]),
  (49, [(37, .goto 4, 3, 40, 41, [], 0), (40, .iload_n 2, 1, 41, 0, [], 0), (41, .istore_n 2, 1, 42, 0, [], 0), (42, .iinc 3 (-1), 3, 45, 0, [], (-1)), (45, .goto (-39), 3, 48, 6, [], 0), (48, .iload_n 2, 1, 49, 0, [], 0), (49, .ireturn, 1, 50, 0, [], 0)])]
set_option maxRecDepth 100000 in
theorem okX5_componentOf : okT cX5_componentOf tX5_componentOf = true := by decide +kernel
def tX5_reachOf : List (Nat × List Et) := [(11, [(0, .iconst 0, 1, 1, 0, [], 0), (1, .istore_n 2, 1, 2, 0, [], 0), (2, .iconst 0, 1, 3, 0, [], 0), (3, .istore_n 3, 1, 4, 0, [], 0), (4, .iload_n 3, 1, 5, 0, [], 0), (5, .aload_n 0, 1, 6, 0, [], 0), (6, .getfield 7, 3, 9, 0, [], 0), (9, .bipush 100, 2, 11, 0, [], 100), (11, .iaload, 1, 12, 0, [], 0)]),
  (26, [(12, .if_icmp .ge 42, 3, 15, 54, [], 0), (15, .iload_n 2, 1, 16, 0, [], 0), (16, .iload_n 3, 1, 17, 0, [], 0), (17, .aload_n 0, 1, 18, 0, [], 0), (18, .getfield 47, 3, 21, 0, [], 0), (21, .if_icmp .eq 24, 3, 24, 45, [], 0), (24, .aload_n 0, 1, 25, 0, [], 0), (25, .iload_n 3, 1, 26, 0, [], 0), (26, .iconst 0, 1, 27, 0, [], 0)]),
  (41, [(27, .invokevirtual 139, 3, 30, 0, [], 0), (30, .iload_n 1, 1, 31, 0, [], 0), (31, .if_icmp .ne 14, 3, 34, 45, [], 0), (34, .iconst 1, 1, 35, 0, [], 1), (35, .aload_n 0, 1, 36, 0, [], 0), (36, .iload_n 3, 1, 37, 0, [], 0), (37, .iconst 1, 1, 38, 0, [], 1), (38, .invokevirtual 139, 3, 41, 0, [], 0), (41, .ishl, 1, 42, 0, [], 0)]),
  (56, [(42, .goto 4, 3, 45, 46, [], 0), (45, .iconst 0, 1, 46, 0, [], 0), (46, .ior, 1, 47, 0, [], 0), (47, .istore_n 2, 1, 48, 0, [], 0), (48, .iinc 3 1, 3, 51, 0, [], 1), (51, .goto (-47), 3, 54, 4, [], 0), (54, .iconst 0, 1, 55, 0, [], 0), (55, .istore_n 3, 1, 56, 0, [], 0), (56, .iload_n 3, 1, 57, 0, [], 0)]),
  (72, [(57, .iconst 3, 1, 58, 0, [], 3), (58, .if_icmp .ge 70, 3, 61, 128, [], 0), (61, .iconst 0, 1, 62, 0, [], 0), (62, .istore 4, 2, 64, 0, [], 0), (64, .iload 4, 2, 66, 0, [], 0), (66, .aload_n 0, 1, 67, 0, [], 0), (67, .getfield 7, 3, 70, 0, [], 0), (70, .bipush 100, 2, 72, 0, [], 100), (72, .iaload, 1, 73, 0, [], 0)]),
  (88, [(73, .if_icmp .ge 49, 3, 76, 122, [], 0), (76, .iload_n 2, 1, 77, 0, [], 0), (77, .iload 4, 2, 79, 0, [], 0), (79, .aload_n 0, 1, 80, 0, [], 0), (80, .getfield 47, 3, 83, 0, [], 0), (83, .if_icmp .eq 30, 3, 86, 113, [], 0), (86, .iload_n 2, 1, 87, 0, [], 0), (87, .aload_n 0, 1, 88, 0, [], 0), (88, .iload 4, 2, 90, 0, [], 0)]),
  (102, [(90, .iconst 0, 1, 91, 0, [], 0), (91, .invokevirtual 139, 3, 94, 0, [], 0), (94, .ishr, 1, 95, 0, [], 0), (95, .iconst 1, 1, 96, 0, [], 1), (96, .iand, 1, 97, 0, [], 0), (97, .iconst 1, 1, 98, 0, [], 1), (98, .if_icmp .ne 15, 3, 101, 113, [], 0), (101, .iconst 1, 1, 102, 0, [], 1), (102, .aload_n 0, 1, 103, 0, [], 0)]),
  (116, [(103, .iload 4, 2, 105, 0, [], 0), (105, .iconst 1, 1, 106, 0, [], 1), (106, .invokevirtual 139, 3, 109, 0, [], 0), (109, .ishl, 1, 110, 0, [], 0), (110, .goto 4, 3, 113, 114, [], 0), (113, .iconst 0, 1, 114, 0, [], 0), (114, .ior, 1, 115, 0, [], 0), (115, .istore_n 2, 1, 116, 0, [], 0), (116, .iinc 4 1, 3, 119, 0, [], 1)]),
  (129, [(119, .goto (-55), 3, 122, 64, [], 0), (122, .iinc 3 1, 3, 125, 0, [], 1), (125, .goto (-69), 3, 128, 56, [], 0), (128, .iload_n 2, 1, 129, 0, [], 0), (129, .ireturn, 1, 130, 0, [], 0)])]
set_option maxRecDepth 100000 in
theorem okX5_reachOf : okT cX5_reachOf tX5_reachOf = true := by decide +kernel
def tX5_fun : List (Nat × List Et) := [(44, [(0, .aload_n 0, 1, 1, 0, [], 0), (1, .iload_n 1, 1, 2, 0, [], 0), (2, .invokevirtual 211, 3, 5, 0, [], 0), (5, .ifCond .ne 5, 3, 8, 10, [], 0), (8, .iconst (-1), 1, 9, 0, [], (-1)), (9, .ireturn, 1, 10, 0, [], 0), (10, .iload_n 2, 1, 11, 0, [], 0), (11, .tableswitch 81 0 4 #[33, 40, 46, 52, 75], 33, 44, 92, [44, 51, 57, 63, 86], 0), (44, .aload_n 0, 1, 45, 0, [], 0)]),
  (57, [(45, .getfield 7, 3, 48, 0, [], 0), (48, .iload_n 1, 1, 49, 0, [], 0), (49, .iaload, 1, 50, 0, [], 0), (50, .ireturn, 1, 51, 0, [], 0), (51, .aload_n 0, 1, 52, 0, [], 0), (52, .iload_n 1, 1, 53, 0, [], 0), (53, .invokevirtual 214, 3, 56, 0, [], 0), (56, .ireturn, 1, 57, 0, [], 0), (57, .aload_n 0, 1, 58, 0, [], 0)]),
  (72, [(58, .iload_n 1, 1, 59, 0, [], 0), (59, .invokevirtual 217, 3, 62, 0, [], 0), (62, .ireturn, 1, 63, 0, [], 0), (63, .aload_n 0, 1, 64, 0, [], 0), (64, .invokevirtual 192, 3, 67, 0, [], 0), (67, .aload_n 0, 1, 68, 0, [], 0), (68, .iload_n 1, 1, 69, 0, [], 0), (69, .invokevirtual 220, 3, 72, 0, [], 0), (72, .bipush (-4), 2, 74, 0, [], (-4))]),
  (88, [(74, .if_icmp .ne 7, 3, 77, 81, [], 0), (77, .iconst 1, 1, 78, 0, [], 1), (78, .goto 4, 3, 81, 82, [], 0), (81, .iconst 0, 1, 82, 0, [], 0), (82, .invokestatic 171, 3, 85, 0, [], 0), (85, .ireturn, 1, 86, 0, [], 0), (86, .aload_n 0, 1, 87, 0, [], 0), (87, .iload_n 1, 1, 88, 0, [], 0), (88, .invokevirtual 186, 3, 91, 0, [], 0)]),
  (93, [(91, .ireturn, 1, 92, 0, [], 0), (92, .iconst (-1), 1, 93, 0, [], (-1)), (93, .ireturn, 1, 94, 0, [], 0)])]
set_option maxRecDepth 100000 in
theorem okX5_fun : okT cX5_fun tX5_fun = true := by decide +kernel
def tX5_isFun : List (Nat × List Et) := [(10, [(0, .iload_n 1, 1, 1, 0, [], 0), (1, .i2l, 1, 2, 0, [], 0), (2, .lconst 0, 1, 3, 0, [], 0), (3, .aload_n 0, 1, 4, 0, [], 0), (4, .getfield 7, 3, 7, 0, [], 0), (7, .iconst 3, 1, 8, 0, [], 3), (8, .iaload, 1, 9, 0, [], 0), (9, .iconst 1, 1, 10, 0, [], 1), (10, .isub, 1, 11, 0, [], 0)]),
  (15, [(11, .i2l, 1, 12, 0, [], 0), (12, .invokestatic 71, 3, 15, 0, [], 0), (15, .ireturn, 1, 16, 0, [], 0)])]
set_option maxRecDepth 100000 in
theorem okX5_isFun : okT cX5_isFun tX5_isFun = true := by decide +kernel
def tX5_callsFrom : List (Nat × List Et) := [(11, [(0, .iconst 0, 1, 1, 0, [], 0), (1, .istore_n 2, 1, 2, 0, [], 0), (2, .iconst 0, 1, 3, 0, [], 0), (3, .istore_n 3, 1, 4, 0, [], 0), (4, .iload_n 3, 1, 5, 0, [], 0), (5, .aload_n 0, 1, 6, 0, [], 0), (6, .getfield 7, 3, 9, 0, [], 0), (9, .bipush 100, 2, 11, 0, [], 100), (11, .iaload, 1, 12, 0, [], 0)]),
  (26, [(12, .if_icmp .ge 30, 3, 15, 42, [], 0), (15, .iload_n 2, 1, 16, 0, [], 0), (16, .aload_n 0, 1, 17, 0, [], 0), (17, .iload_n 3, 1, 18, 0, [], 0), (18, .iconst 0, 1, 19, 0, [], 0), (19, .invokevirtual 139, 3, 22, 0, [], 0), (22, .iload_n 1, 1, 23, 0, [], 0), (23, .if_icmp .ne 7, 3, 26, 30, [], 0), (26, .iconst 1, 1, 27, 0, [], 1)]),
  (43, [(27, .goto 4, 3, 30, 31, [], 0), (30, .iconst 0, 1, 31, 0, [], 0), (31, .invokestatic 171, 3, 34, 0, [], 0), (34, .iadd, 1, 35, 0, [], 0), (35, .istore_n 2, 1, 36, 0, [], 0), (36, .iinc 3 1, 3, 39, 0, [], 1), (39, .goto (-35), 3, 42, 4, [], 0), (42, .iload_n 2, 1, 43, 0, [], 0), (43, .ireturn, 1, 44, 0, [], 0)])]
set_option maxRecDepth 100000 in
theorem okX5_callsFrom : okT cX5_callsFrom tX5_callsFrom = true := by decide +kernel
def tX5_componentNumber : List (Nat × List Et) := [(11, [(0, .aload_n 0, 1, 1, 0, [], 0), (1, .iload_n 1, 1, 2, 0, [], 0), (2, .invokevirtual 195, 3, 5, 0, [], 0), (5, .istore_n 2, 1, 6, 0, [], 0), (6, .iconst 0, 1, 7, 0, [], 0), (7, .istore_n 3, 1, 8, 0, [], 0), (8, .iconst 0, 1, 9, 0, [], 0), (9, .istore 4, 2, 11, 0, [], 0), (11, .iload 4, 2, 13, 0, [], 0)]),
  (29, [(13, .iload_n 2, 1, 14, 0, [], 0), (14, .if_icmp .ge 31, 3, 17, 45, [], 0), (17, .iload_n 3, 1, 18, 0, [], 0), (18, .aload_n 0, 1, 19, 0, [], 0), (19, .iload 4, 2, 21, 0, [], 0), (21, .invokevirtual 195, 3, 24, 0, [], 0), (24, .iload 4, 2, 26, 0, [], 0), (26, .if_icmp .ne 7, 3, 29, 33, [], 0), (29, .iconst 1, 1, 30, 0, [], 1)]),
  (46, [(30, .goto 4, 3, 33, 34, [], 0), (33, .iconst 0, 1, 34, 0, [], 0), (34, .invokestatic 171, 3, 37, 0, [], 0), (37, .iadd, 1, 38, 0, [], 0), (38, .istore_n 3, 1, 39, 0, [], 0), (39, .iinc 4 1, 3, 42, 0, [], 1), (42, .goto (-31), 3, 45, 11, [], 0), (45, .iload_n 3, 1, 46, 0, [], 0), (46, .ireturn, 1, 47, 0, [], 0)])]
set_option maxRecDepth 100000 in
theorem okX5_componentNumber : okT cX5_componentNumber tX5_componentNumber = true := by decide +kernel
def tX5_loopOf : List (Nat × List Et) := [(10, [(0, .aload_n 0, 1, 1, 0, [], 0), (1, .iload_n 1, 1, 2, 0, [], 0), (2, .invokevirtual 186, 3, 5, 0, [], 0), (5, .iconst 1, 1, 6, 0, [], 1), (6, .iload_n 1, 1, 7, 0, [], 0), (7, .ishl, 1, 8, 0, [], 0), (8, .ior, 1, 9, 0, [], 0), (9, .istore_n 2, 1, 10, 0, [], 0), (10, .iconst 0, 1, 11, 0, [], 0)]),
  (25, [(11, .istore_n 3, 1, 12, 0, [], 0), (12, .iload_n 3, 1, 13, 0, [], 0), (13, .aload_n 0, 1, 14, 0, [], 0), (14, .getfield 158, 3, 17, 0, [], 0), (17, .if_icmp .ge 33, 3, 20, 50, [], 0), (20, .iload_n 2, 1, 21, 0, [], 0), (21, .aload_n 0, 1, 22, 0, [], 0), (22, .getfield 26, 3, 25, 0, [], 0), (25, .iload_n 3, 1, 26, 0, [], 0)]),
  (36, [(26, .iaload, 1, 27, 0, [], 0), (27, .ishr, 1, 28, 0, [], 0), (28, .iconst 1, 1, 29, 0, [], 1), (29, .iand, 1, 30, 0, [], 0), (30, .iconst 1, 1, 31, 0, [], 1), (31, .if_icmp .ne 13, 3, 34, 44, [], 0), (34, .aload_n 0, 1, 35, 0, [], 0), (35, .iload_n 3, 1, 36, 0, [], 0), (36, .invokevirtual 189, 3, 39, 0, [], 0)]),
  (52, [(39, .ifCond .eq 5, 3, 42, 44, [], 0), (42, .iload_n 3, 1, 43, 0, [], 0), (43, .ireturn, 1, 44, 0, [], 0), (44, .iinc 3 1, 3, 47, 0, [], 1), (47, .goto (-35), 3, 50, 12, [], 0), (50, .bipush (-4), 2, 52, 0, [], (-4)), (52, .ireturn, 1, 53, 0, [], 0)])]
set_option maxRecDepth 100000 in
theorem okX5_loopOf : okT cX5_loopOf tX5_loopOf = true := by decide +kernel
def tX5_call : List (Nat × List Et) := [(14, [(0, .aload_n 0, 1, 1, 0, [], 0), (1, .iload_n 1, 1, 2, 0, [], 0), (2, .invokevirtual 223, 3, 5, 0, [], 0), (5, .ifCond .eq 15, 3, 8, 20, [], 0), (8, .iload_n 2, 1, 9, 0, [], 0), (9, .i2l, 1, 10, 0, [], 0), (10, .lconst 0, 1, 11, 0, [], 0), (11, .ldc2_w 226, 3, 14, 0, [], 0), (14, .invokestatic 71, 3, 17, 0, [], 0)]),
  (31, [(17, .ifCond .ne 5, 3, 20, 22, [], 0), (20, .iconst (-1), 1, 21, 0, [], (-1)), (21, .ireturn, 1, 22, 0, [], 0), (22, .aload_n 0, 1, 23, 0, [], 0), (23, .invokevirtual 192, 3, 26, 0, [], 0), (26, .iload_n 2, 1, 27, 0, [], 0), (27, .iconst 2, 1, 28, 0, [], 2), (28, .if_icmp .ge 12, 3, 31, 40, [], 0), (31, .aload_n 0, 1, 32, 0, [], 0)]),
  (46, [(32, .iload_n 1, 1, 33, 0, [], 0), (33, .iload_n 2, 1, 34, 0, [], 0), (34, .invokevirtual 139, 3, 37, 0, [], 0), (37, .goto 41, 3, 40, 78, [], 0), (40, .iload_n 2, 1, 41, 0, [], 0), (41, .iconst 2, 1, 42, 0, [], 2), (42, .if_icmp .ne 11, 3, 45, 53, [], 0), (45, .aload_n 0, 1, 46, 0, [], 0), (46, .iload_n 1, 1, 47, 0, [], 0)]),
  (63, [(47, .invokevirtual 161, 3, 50, 0, [], 0), (50, .goto 28, 3, 53, 78, [], 0), (53, .aload_n 0, 1, 54, 0, [], 0), (54, .getfield 44, 3, 57, 0, [], 0), (57, .aload_n 0, 1, 58, 0, [], 0), (58, .iload_n 1, 1, 59, 0, [], 0), (59, .iconst 0, 1, 60, 0, [], 0), (60, .invokevirtual 139, 3, 63, 0, [], 0), (63, .aload_n 0, 1, 64, 0, [], 0)]),
  (78, [(64, .iload_n 1, 1, 65, 0, [], 0), (65, .iconst 1, 1, 66, 0, [], 1), (66, .invokevirtual 139, 3, 69, 0, [], 0), (69, .aload_n 0, 1, 70, 0, [], 0), (70, .iload_n 1, 1, 71, 0, [], 0), (71, .invokevirtual 161, 3, 74, 0, [], 0), (74, .invokestatic 155, 3, 77, 0, [], 0), (77, .iaload, 1, 78, 0, [], 0), (78, .ireturn, 1, 79, 0, [], 0)])]
set_option maxRecDepth 100000 in
theorem okX5_call : okT cX5_call tX5_call = true := by decide +kernel
def tX5_isCall : List (Nat × List Et) := [(11, [(0, .iload_n 1, 1, 1, 0, [], 0), (1, .i2l, 1, 2, 0, [], 0), (2, .lconst 0, 1, 3, 0, [], 0), (3, .aload_n 0, 1, 4, 0, [], 0), (4, .getfield 7, 3, 7, 0, [], 0), (7, .bipush 100, 2, 9, 0, [], 100), (9, .iaload, 1, 10, 0, [], 0), (10, .iconst 1, 1, 11, 0, [], 1), (11, .isub, 1, 12, 0, [], 0)]),
  (16, [(12, .i2l, 1, 13, 0, [], 0), (13, .invokestatic 71, 3, 16, 0, [], 0), (16, .ireturn, 1, 17, 0, [], 0)])]
set_option maxRecDepth 100000 in
theorem okX5_isCall : okT cX5_isCall tX5_isCall = true := by decide +kernel
def tX5_argument : List (Nat × List Et) := [(12, [(0, .aload_n 0, 1, 1, 0, [], 0), (1, .iload_n 1, 1, 2, 0, [], 0), (2, .iload_n 2, 1, 3, 0, [], 0), (3, .invokevirtual 228, 3, 6, 0, [], 0), (6, .ifCond .eq 15, 3, 9, 21, [], 0), (9, .iload_n 3, 1, 10, 0, [], 0), (10, .i2l, 1, 11, 0, [], 0), (11, .lconst 0, 1, 12, 0, [], 0), (12, .ldc2_w 231, 3, 15, 0, [], 0)]),
  (27, [(15, .invokestatic 71, 3, 18, 0, [], 0), (18, .ifCond .ne 5, 3, 21, 23, [], 0), (21, .iconst (-1), 1, 22, 0, [], (-1)), (22, .ireturn, 1, 23, 0, [], 0), (23, .aload_n 0, 1, 24, 0, [], 0), (24, .iload_n 1, 1, 25, 0, [], 0), (25, .iload_n 2, 1, 26, 0, [], 0), (26, .iconst 0, 1, 27, 0, [], 0), (27, .invokevirtual 142, 3, 30, 0, [], 0)]),
  (45, [(30, .istore 4, 2, 32, 0, [], 0), (32, .iload_n 3, 1, 33, 0, [], 0), (33, .iconst 1, 1, 34, 0, [], 1), (34, .if_icmp .ne 19, 3, 37, 53, [], 0), (37, .iload 4, 2, 39, 0, [], 0), (39, .ifCond .eq 9, 3, 42, 48, [], 0), (42, .iload 4, 2, 44, 0, [], 0), (44, .iconst 4, 1, 45, 0, [], 4), (45, .if_icmp .ne 8, 3, 48, 53, [], 0)]),
  (60, [(48, .bipush (-4), 2, 50, 0, [], (-4)), (50, .goto 10, 3, 53, 60, [], 0), (53, .aload_n 0, 1, 54, 0, [], 0), (54, .iload_n 1, 1, 55, 0, [], 0), (55, .iload_n 2, 1, 56, 0, [], 0), (56, .iload_n 3, 1, 57, 0, [], 0), (57, .invokevirtual 142, 3, 60, 0, [], 0), (60, .ireturn, 1, 61, 0, [], 0)])]
set_option maxRecDepth 100000 in
theorem okX5_argument : okT cX5_argument tX5_argument = true := by decide +kernel
def tX5_isArgument : List (Nat × List Et) := [(12, [(0, .aload_n 0, 1, 1, 0, [], 0), (1, .iload_n 1, 1, 2, 0, [], 0), (2, .invokevirtual 223, 3, 5, 0, [], 0), (5, .ifCond .eq 30, 3, 8, 35, [], 0), (8, .iload_n 2, 1, 9, 0, [], 0), (9, .i2l, 1, 10, 0, [], 0), (10, .lconst 0, 1, 11, 0, [], 0), (11, .aload_n 0, 1, 12, 0, [], 0), (12, .getfield 7, 3, 15, 0, [], 0)]),
  (25, [(15, .aload_n 0, 1, 16, 0, [], 0), (16, .iload_n 1, 1, 17, 0, [], 0), (17, .iconst 1, 1, 18, 0, [], 1), (18, .invokevirtual 139, 3, 21, 0, [], 0), (21, .iaload, 1, 22, 0, [], 0), (22, .iconst 1, 1, 23, 0, [], 1), (23, .isub, 1, 24, 0, [], 0), (24, .i2l, 1, 25, 0, [], 0), (25, .invokestatic 71, 3, 28, 0, [], 0)]),
  (36, [(28, .ifCond .eq 7, 3, 31, 35, [], 0), (31, .iconst 1, 1, 32, 0, [], 1), (32, .goto 4, 3, 35, 36, [], 0), (35, .iconst 0, 1, 36, 0, [], 0), (36, .ireturn, 1, 37, 0, [], 0)])]
set_option maxRecDepth 100000 in
theorem okX5_isArgument : okT cX5_isArgument tX5_isArgument = true := by decide +kernel
def tX5_graph : List (Nat × List Et) := [(56, [(0, .aload_n 0, 1, 1, 0, [], 0), (1, .iload_n 1, 1, 2, 0, [], 0), (2, .invokevirtual 233, 3, 5, 0, [], 0), (5, .ifCond .ne 5, 3, 8, 10, [], 0), (8, .iconst (-1), 1, 9, 0, [], (-1)), (9, .ireturn, 1, 10, 0, [], 0), (10, .iload_n 2, 1, 11, 0, [], 0), (11, .tableswitch 126 0 7 #[45, 52, 59, 66, 73, 82, 108, 117], 45, 56, 137, [56, 63, 70, 77, 84, 93, 119, 128], 0), (56, .aload_n 0, 1, 57, 0, [], 0)]),
  (69, [(57, .getfield 26, 3, 60, 0, [], 0), (60, .iload_n 1, 1, 61, 0, [], 0), (61, .iaload, 1, 62, 0, [], 0), (62, .ireturn, 1, 63, 0, [], 0), (63, .aload_n 0, 1, 64, 0, [], 0), (64, .getfield 29, 3, 67, 0, [], 0), (67, .iload_n 1, 1, 68, 0, [], 0), (68, .iaload, 1, 69, 0, [], 0), (69, .ireturn, 1, 70, 0, [], 0)]),
  (82, [(70, .aload_n 0, 1, 71, 0, [], 0), (71, .getfield 32, 3, 74, 0, [], 0), (74, .iload_n 1, 1, 75, 0, [], 0), (75, .iaload, 1, 76, 0, [], 0), (76, .ireturn, 1, 77, 0, [], 0), (77, .aload_n 0, 1, 78, 0, [], 0), (78, .getfield 41, 3, 81, 0, [], 0), (81, .iload_n 1, 1, 82, 0, [], 0), (82, .iaload, 1, 83, 0, [], 0)]),
  (97, [(83, .ireturn, 1, 84, 0, [], 0), (84, .aload_n 0, 1, 85, 0, [], 0), (85, .iload_n 1, 1, 86, 0, [], 0), (86, .invokevirtual 175, 3, 89, 0, [], 0), (89, .invokestatic 171, 3, 92, 0, [], 0), (92, .ireturn, 1, 93, 0, [], 0), (93, .aload_n 0, 1, 94, 0, [], 0), (94, .getfield 26, 3, 97, 0, [], 0), (97, .iload_n 1, 1, 98, 0, [], 0)]),
  (110, [(98, .iaload, 1, 99, 0, [], 0), (99, .aload_n 0, 1, 100, 0, [], 0), (100, .getfield 29, 3, 103, 0, [], 0), (103, .iload_n 1, 1, 104, 0, [], 0), (104, .iaload, 1, 105, 0, [], 0), (105, .if_icmp .ne 11, 3, 108, 116, [], 0), (108, .aload_n 0, 1, 109, 0, [], 0), (109, .iload_n 1, 1, 110, 0, [], 0), (110, .invokevirtual 179, 3, 113, 0, [], 0)]),
  (128, [(113, .goto 5, 3, 116, 118, [], 0), (116, .bipush (-4), 2, 118, 0, [], (-4)), (118, .ireturn, 1, 119, 0, [], 0), (119, .aload_n 0, 1, 120, 0, [], 0), (120, .iload_n 1, 1, 121, 0, [], 0), (121, .invokevirtual 189, 3, 124, 0, [], 0), (124, .invokestatic 171, 3, 127, 0, [], 0), (127, .ireturn, 1, 128, 0, [], 0), (128, .aload_n 0, 1, 129, 0, [], 0)]),
  (138, [(129, .iload_n 1, 1, 130, 0, [], 0), (130, .invokevirtual 198, 3, 133, 0, [], 0), (133, .invokestatic 171, 3, 136, 0, [], 0), (136, .ireturn, 1, 137, 0, [], 0), (137, .iconst (-1), 1, 138, 0, [], (-1)), (138, .ireturn, 1, 139, 0, [], 0)])]
set_option maxRecDepth 100000 in
theorem okX5_graph : okT cX5_graph tX5_graph = true := by decide +kernel
def tX5_isGraph : List (Nat × List Et) := [(12, [(0, .aload_n 0, 1, 1, 0, [], 0), (1, .invokevirtual 192, 3, 4, 0, [], 0), (4, .iload_n 1, 1, 5, 0, [], 0), (5, .i2l, 1, 6, 0, [], 0), (6, .lconst 0, 1, 7, 0, [], 0), (7, .aload_n 0, 1, 8, 0, [], 0), (8, .getfield 158, 3, 11, 0, [], 0), (11, .iconst 1, 1, 12, 0, [], 1), (12, .isub, 1, 13, 0, [], 0)]),
  (17, [(13, .i2l, 1, 14, 0, [], 0), (14, .invokestatic 71, 3, 17, 0, [], 0), (17, .ireturn, 1, 18, 0, [], 0)])]
set_option maxRecDepth 100000 in
theorem okX5_isGraph : okT cX5_isGraph tX5_isGraph = true := by decide +kernel
def tX5_word : List (Nat × List Et) := [(14, [(0, .aload_n 0, 1, 1, 0, [], 0), (1, .iload_n 1, 1, 2, 0, [], 0), (2, .invokevirtual 233, 3, 5, 0, [], 0), (5, .ifCond .eq 7, 3, 8, 12, [], 0), (8, .iload_n 2, 1, 9, 0, [], 0), (9, .ifCond .ge 5, 3, 12, 14, [], 0), (12, .iconst (-1), 1, 13, 0, [], (-1)), (13, .ireturn, 1, 14, 0, [], 0), (14, .iload_n 2, 1, 15, 0, [], 0)]),
  (28, [(15, .aload_n 0, 1, 16, 0, [], 0), (16, .getfield 41, 3, 19, 0, [], 0), (19, .iload_n 1, 1, 20, 0, [], 0), (20, .iaload, 1, 21, 0, [], 0), (21, .if_icmp .lt 6, 3, 24, 27, [], 0), (24, .bipush (-4), 2, 26, 0, [], (-4)), (26, .ireturn, 1, 27, 0, [], 0), (27, .iload_n 1, 1, 28, 0, [], 0), (28, .istore_n 3, 1, 29, 0, [], 0)]),
  (41, [(29, .aload_n 0, 1, 30, 0, [], 0), (30, .getfield 41, 3, 33, 0, [], 0), (33, .iload_n 3, 1, 34, 0, [], 0), (34, .iaload, 1, 35, 0, [], 0), (35, .iload_n 2, 1, 36, 0, [], 0), (36, .iconst 1, 1, 37, 0, [], 1), (37, .iadd, 1, 38, 0, [], 0), (38, .if_icmp .le 13, 3, 41, 51, [], 0), (41, .aload_n 0, 1, 42, 0, [], 0)]),
  (56, [(42, .getfield 35, 3, 45, 0, [], 0), (45, .iload_n 3, 1, 46, 0, [], 0), (46, .iaload, 1, 47, 0, [], 0), (47, .istore_n 3, 1, 48, 0, [], 0), (48, .goto (-19), 3, 51, 29, [], 0), (51, .aload_n 0, 1, 52, 0, [], 0), (52, .getfield 38, 3, 55, 0, [], 0), (55, .iload_n 3, 1, 56, 0, [], 0), (56, .iaload, 1, 57, 0, [], 0)]),
  (57, [(57, .ireturn, 1, 58, 0, [], 0)])]
set_option maxRecDepth 100000 in
theorem okX5_word : okT cX5_word tX5_word = true := by decide +kernel
def tX5_find : List (Nat × List Et) := [(16, [(0, .aload_n 0, 1, 1, 0, [], 0), (1, .iload_n 1, 1, 2, 0, [], 0), (2, .invokevirtual 211, 3, 5, 0, [], 0), (5, .ifCond .eq 23, 3, 8, 28, [], 0), (8, .aload_n 0, 1, 9, 0, [], 0), (9, .iload_n 2, 1, 10, 0, [], 0), (10, .invokevirtual 211, 3, 13, 0, [], 0), (13, .ifCond .eq 15, 3, 16, 28, [], 0), (16, .iload_n 3, 1, 17, 0, [], 0)]),
  (31, [(17, .i2l, 1, 18, 0, [], 0), (18, .lconst 0, 1, 19, 0, [], 0), (19, .ldc2_w 236, 3, 22, 0, [], 0), (22, .invokestatic 71, 3, 25, 0, [], 0), (25, .ifCond .ne 5, 3, 28, 30, [], 0), (28, .iconst (-1), 1, 29, 0, [], (-1)), (29, .ireturn, 1, 30, 0, [], 0), (30, .aload_n 0, 1, 31, 0, [], 0), (31, .invokevirtual 192, 3, 34, 0, [], 0)]),
  (45, [(34, .aload_n 0, 1, 35, 0, [], 0), (35, .getfield 44, 3, 38, 0, [], 0), (38, .iload_n 1, 1, 39, 0, [], 0), (39, .iload_n 2, 1, 40, 0, [], 0), (40, .iload_n 3, 1, 41, 0, [], 0), (41, .invokestatic 155, 3, 44, 0, [], 0), (44, .iaload, 1, 45, 0, [], 0), (45, .ireturn, 1, 46, 0, [], 0)])]
set_option maxRecDepth 100000 in
theorem okX5_find : okT cX5_find tX5_find = true := by decide +kernel
def tX5_compose : List (Nat × List Et) := [(16, [(0, .aload_n 0, 1, 1, 0, [], 0), (1, .iload_n 1, 1, 2, 0, [], 0), (2, .invokevirtual 233, 3, 5, 0, [], 0), (5, .ifCond .eq 11, 3, 8, 16, [], 0), (8, .aload_n 0, 1, 9, 0, [], 0), (9, .iload_n 2, 1, 10, 0, [], 0), (10, .invokevirtual 233, 3, 13, 0, [], 0), (13, .ifCond .ne 5, 3, 16, 18, [], 0), (16, .iconst (-1), 1, 17, 0, [], (-1))]),
  (29, [(17, .ireturn, 1, 18, 0, [], 0), (18, .aload_n 0, 1, 19, 0, [], 0), (19, .getfield 29, 3, 22, 0, [], 0), (22, .iload_n 1, 1, 23, 0, [], 0), (23, .iaload, 1, 24, 0, [], 0), (24, .aload_n 0, 1, 25, 0, [], 0), (25, .getfield 26, 3, 28, 0, [], 0), (28, .iload_n 2, 1, 29, 0, [], 0), (29, .iaload, 1, 30, 0, [], 0)]),
  (44, [(30, .if_icmp .ne 41, 3, 33, 71, [], 0), (33, .aload_n 0, 1, 34, 0, [], 0), (34, .getfield 44, 3, 37, 0, [], 0), (37, .aload_n 0, 1, 38, 0, [], 0), (38, .getfield 26, 3, 41, 0, [], 0), (41, .iload_n 1, 1, 42, 0, [], 0), (42, .iaload, 1, 43, 0, [], 0), (43, .aload_n 0, 1, 44, 0, [], 0), (44, .getfield 29, 3, 47, 0, [], 0)]),
  (59, [(47, .iload_n 2, 1, 48, 0, [], 0), (48, .iaload, 1, 49, 0, [], 0), (49, .aload_n 0, 1, 50, 0, [], 0), (50, .getfield 32, 3, 53, 0, [], 0), (53, .iload_n 1, 1, 54, 0, [], 0), (54, .iaload, 1, 55, 0, [], 0), (55, .aload_n 0, 1, 56, 0, [], 0), (56, .getfield 32, 3, 59, 0, [], 0), (59, .iload_n 2, 1, 60, 0, [], 0)]),
  (73, [(60, .iaload, 1, 61, 0, [], 0), (61, .invokestatic 168, 3, 64, 0, [], 0), (64, .invokestatic 155, 3, 67, 0, [], 0), (67, .iaload, 1, 68, 0, [], 0), (68, .goto 5, 3, 71, 73, [], 0), (71, .bipush (-4), 2, 73, 0, [], (-4)), (73, .ireturn, 1, 74, 0, [], 0)])]
set_option maxRecDepth 100000 in
theorem okX5_compose : okT cX5_compose tX5_compose = true := by decide +kernel
def tX5_witness : List (Nat × List Et) := [(14, [(0, .aload_n 0, 1, 1, 0, [], 0), (1, .iload_n 1, 1, 2, 0, [], 0), (2, .invokevirtual 211, 3, 5, 0, [], 0), (5, .ifCond .ne 5, 3, 8, 10, [], 0), (8, .iconst (-1), 1, 9, 0, [], (-1)), (9, .ireturn, 1, 10, 0, [], 0), (10, .aload_n 0, 1, 11, 0, [], 0), (11, .invokevirtual 192, 3, 14, 0, [], 0), (14, .aload_n 0, 1, 15, 0, [], 0)]),
  (19, [(15, .iload_n 1, 1, 16, 0, [], 0), (16, .invokevirtual 220, 3, 19, 0, [], 0), (19, .ireturn, 1, 20, 0, [], 0)])]
set_option maxRecDepth 100000 in
theorem okX5_witness : okT cX5_witness tX5_witness = true := by decide +kernel
def tX5_open : List (Nat × List Et) := [(14, [(0, .iload_n 1, 1, 1, 0, [], 0), (1, .i2l, 1, 2, 0, [], 0), (2, .lconst 1, 1, 3, 0, [], 0), (3, .ldc2_w 231, 3, 6, 0, [], 0), (6, .invokestatic 71, 3, 9, 0, [], 0), (9, .ifCond .ne 5, 3, 12, 14, [], 0), (12, .iconst (-1), 1, 13, 0, [], (-1)), (13, .ireturn, 1, 14, 0, [], 0), (14, .aload_n 0, 1, 15, 0, [], 0)]),
  (28, [(15, .getfield 7, 3, 18, 0, [], 0), (18, .iconst 3, 1, 19, 0, [], 3), (19, .iaload, 1, 20, 0, [], 0), (20, .iconst 3, 1, 21, 0, [], 3), (21, .if_icmp .ne 6, 3, 24, 27, [], 0), (24, .bipush (-3), 2, 26, 0, [], (-3)), (26, .ireturn, 1, 27, 0, [], 0), (27, .aload_n 0, 1, 28, 0, [], 0), (28, .getfield 7, 3, 31, 0, [], 0)]),
  (43, [(31, .aload_n 0, 1, 32, 0, [], 0), (32, .getfield 7, 3, 35, 0, [], 0), (35, .iconst 3, 1, 36, 0, [], 3), (36, .iaload, 1, 37, 0, [], 0), (37, .iload_n 1, 1, 38, 0, [], 0), (38, .iastore, 1, 39, 0, [], 0), (39, .aload_n 0, 1, 40, 0, [], 0), (40, .getfield 7, 3, 43, 0, [], 0), (43, .iconst 3, 1, 44, 0, [], 3)]),
  (54, [(44, .dup2, 1, 45, 0, [], 0), (45, .iaload, 1, 46, 0, [], 0), (46, .iconst 1, 1, 47, 0, [], 1), (47, .iadd, 1, 48, 0, [], 0), (48, .iastore, 1, 49, 0, [], 0), (49, .aload_n 0, 1, 50, 0, [], 0), (50, .getfield 7, 3, 53, 0, [], 0), (53, .iconst 3, 1, 54, 0, [], 3), (54, .iaload, 1, 55, 0, [], 0)]),
  (55, [(55, .ireturn, 1, 56, 0, [], 0)])]
set_option maxRecDepth 100000 in
theorem okX5_open : okT cX5_open tX5_open = true := by decide +kernel
def tX5_add : List (Nat × List Et) := [(16, [(0, .aload_n 0, 1, 1, 0, [], 0), (1, .iload_n 1, 1, 2, 0, [], 0), (2, .invokevirtual 211, 3, 5, 0, [], 0), (5, .ifCond .eq 11, 3, 8, 16, [], 0), (8, .aload_n 0, 1, 9, 0, [], 0), (9, .iload_n 2, 1, 10, 0, [], 0), (10, .invokevirtual 211, 3, 13, 0, [], 0), (13, .ifCond .ne 5, 3, 16, 18, [], 0), (16, .iconst (-1), 1, 17, 0, [], (-1))]),
  (32, [(17, .ireturn, 1, 18, 0, [], 0), (18, .aload_n 0, 1, 19, 0, [], 0), (19, .getfield 7, 3, 22, 0, [], 0), (22, .bipush 100, 2, 24, 0, [], 100), (24, .iaload, 1, 25, 0, [], 0), (25, .bipush 12, 2, 27, 0, [], 12), (27, .if_icmp .ne 6, 3, 30, 33, [], 0), (30, .bipush (-3), 2, 32, 0, [], (-3)), (32, .ireturn, 1, 33, 0, [], 0)]),
  (45, [(33, .iconst 4, 1, 34, 0, [], 4), (34, .bipush 8, 2, 36, 0, [], 8), (36, .aload_n 0, 1, 37, 0, [], 0), (37, .getfield 7, 3, 40, 0, [], 0), (40, .bipush 100, 2, 42, 0, [], 100), (42, .iaload, 1, 43, 0, [], 0), (43, .imul, 1, 44, 0, [], 0), (44, .iadd, 1, 45, 0, [], 0), (45, .istore_n 3, 1, 46, 0, [], 0)]),
  (61, [(46, .iconst 0, 1, 47, 0, [], 0), (47, .istore 4, 2, 49, 0, [], 0), (49, .iload 4, 2, 51, 0, [], 0), (51, .bipush 8, 2, 53, 0, [], 8), (53, .if_icmp .ge 19, 3, 56, 72, [], 0), (56, .aload_n 0, 1, 57, 0, [], 0), (57, .getfield 7, 3, 60, 0, [], 0), (60, .iload_n 3, 1, 61, 0, [], 0), (61, .iload 4, 2, 63, 0, [], 0)]),
  (77, [(63, .iadd, 1, 64, 0, [], 0), (64, .iconst 0, 1, 65, 0, [], 0), (65, .iastore, 1, 66, 0, [], 0), (66, .iinc 4 1, 3, 69, 0, [], 1), (69, .goto (-20), 3, 72, 49, [], 0), (72, .aload_n 0, 1, 73, 0, [], 0), (73, .getfield 7, 3, 76, 0, [], 0), (76, .iload_n 3, 1, 77, 0, [], 0), (77, .iconst 0, 1, 78, 0, [], 0)]),
  (88, [(78, .iadd, 1, 79, 0, [], 0), (79, .iload_n 1, 1, 80, 0, [], 0), (80, .iastore, 1, 81, 0, [], 0), (81, .aload_n 0, 1, 82, 0, [], 0), (82, .getfield 7, 3, 85, 0, [], 0), (85, .iload_n 3, 1, 86, 0, [], 0), (86, .iconst 1, 1, 87, 0, [], 1), (87, .iadd, 1, 88, 0, [], 0), (88, .iload_n 2, 1, 89, 0, [], 0)]),
  (100, [(89, .iastore, 1, 90, 0, [], 0), (90, .aload_n 0, 1, 91, 0, [], 0), (91, .getfield 7, 3, 94, 0, [], 0), (94, .bipush 100, 2, 96, 0, [], 100), (96, .dup2, 1, 97, 0, [], 0), (97, .iaload, 1, 98, 0, [], 0), (98, .iconst 1, 1, 99, 0, [], 1), (99, .iadd, 1, 100, 0, [], 0), (100, .iastore, 1, 101, 0, [], 0)]),
  (108, [(101, .aload_n 0, 1, 102, 0, [], 0), (102, .getfield 7, 3, 105, 0, [], 0), (105, .bipush 100, 2, 107, 0, [], 100), (107, .iaload, 1, 108, 0, [], 0), (108, .ireturn, 1, 109, 0, [], 0)])]
set_option maxRecDepth 100000 in
theorem okX5_add : okT cX5_add tX5_add = true := by decide +kernel
def tX5_cut : List (Nat × List Et) := [(11, [(0, .iload_n 1, 1, 1, 0, [], 0), (1, .i2l, 1, 2, 0, [], 0), (2, .lconst 0, 1, 3, 0, [], 0), (3, .aload_n 0, 1, 4, 0, [], 0), (4, .getfield 7, 3, 7, 0, [], 0), (7, .bipush 100, 2, 9, 0, [], 100), (9, .iaload, 1, 10, 0, [], 0), (10, .i2l, 1, 11, 0, [], 0), (11, .invokestatic 71, 3, 14, 0, [], 0)]),
  (27, [(14, .ifCond .ne 5, 3, 17, 19, [], 0), (17, .iconst (-1), 1, 18, 0, [], (-1)), (18, .ireturn, 1, 19, 0, [], 0), (19, .aload_n 0, 1, 20, 0, [], 0), (20, .getfield 7, 3, 23, 0, [], 0), (23, .bipush 100, 2, 25, 0, [], 100), (25, .iaload, 1, 26, 0, [], 0), (26, .istore_n 2, 1, 27, 0, [], 0), (27, .aload_n 0, 1, 28, 0, [], 0)]),
  (36, [(28, .getfield 7, 3, 31, 0, [], 0), (31, .bipush 100, 2, 33, 0, [], 100), (33, .iload_n 1, 1, 34, 0, [], 0), (34, .iastore, 1, 35, 0, [], 0), (35, .iload_n 2, 1, 36, 0, [], 0), (36, .ireturn, 1, 37, 0, [], 0)])]
set_option maxRecDepth 100000 in
theorem okX5_cut : okT cX5_cut tX5_cut = true := by decide +kernel
def tX5_set : List (Nat × List Et) := [(14, [(0, .aload_n 0, 1, 1, 0, [], 0), (1, .iload_n 1, 1, 2, 0, [], 0), (2, .iload_n 2, 1, 3, 0, [], 0), (3, .invokevirtual 228, 3, 6, 0, [], 0), (6, .ifCond .eq 21, 3, 9, 27, [], 0), (9, .iload_n 3, 1, 10, 0, [], 0), (10, .aload_n 0, 1, 11, 0, [], 0), (11, .getfield 7, 3, 14, 0, [], 0), (14, .aload_n 0, 1, 15, 0, [], 0)]),
  (29, [(15, .iload_n 1, 1, 16, 0, [], 0), (16, .iconst 0, 1, 17, 0, [], 0), (17, .invokevirtual 139, 3, 20, 0, [], 0), (20, .iaload, 1, 21, 0, [], 0), (21, .invokestatic 240, 3, 24, 0, [], 0), (24, .ifCond .ne 5, 3, 27, 29, [], 0), (27, .iconst (-1), 1, 28, 0, [], (-1)), (28, .ireturn, 1, 29, 0, [], 0), (29, .aload_n 0, 1, 30, 0, [], 0)]),
  (41, [(30, .iload_n 1, 1, 31, 0, [], 0), (31, .iload_n 2, 1, 32, 0, [], 0), (32, .invokevirtual 243, 3, 35, 0, [], 0), (35, .istore 4, 2, 37, 0, [], 0), (37, .aload_n 0, 1, 38, 0, [], 0), (38, .iload_n 1, 1, 39, 0, [], 0), (39, .iload_n 2, 1, 40, 0, [], 0), (40, .iload_n 3, 1, 41, 0, [], 0), (41, .invokevirtual 246, 3, 44, 0, [], 0)]),
  (46, [(44, .iload 4, 2, 46, 0, [], 0), (46, .ireturn, 1, 47, 0, [], 0)])]
set_option maxRecDepth 100000 in
theorem okX5_set : okT cX5_set tX5_set = true := by decide +kernel
def tX5_mayBe : List (Nat × List Et) := [(14, [(0, .iload_n 0, 1, 1, 0, [], 0), (1, .i2l, 1, 2, 0, [], 0), (2, .lconst 0, 1, 3, 0, [], 0), (3, .ldc2_w 238, 3, 6, 0, [], 0), (6, .invokestatic 71, 3, 9, 0, [], 0), (9, .ifCond .ne 5, 3, 12, 14, [], 0), (12, .iconst 0, 1, 13, 0, [], 0), (13, .ireturn, 1, 14, 0, [], 0), (14, .iload_n 0, 1, 15, 0, [], 0)]),
  (26, [(15, .bipush 100, 2, 17, 0, [], 100), (17, .idiv, 1, 18, 0, [], 0), (18, .istore_n 2, 1, 19, 0, [], 0), (19, .iload_n 0, 1, 20, 0, [], 0), (20, .bipush 10, 2, 22, 0, [], 10), (22, .idiv, 1, 23, 0, [], 0), (23, .bipush 10, 2, 25, 0, [], 10), (25, .irem, 1, 26, 0, [], 0), (26, .istore_n 3, 1, 27, 0, [], 0)]),
  (41, [(27, .iload_n 0, 1, 28, 0, [], 0), (28, .bipush 10, 2, 30, 0, [], 10), (30, .irem, 1, 31, 0, [], 0), (31, .istore 4, 2, 33, 0, [], 0), (33, .iload_n 2, 1, 34, 0, [], 0), (34, .ifCond .ne 13, 3, 37, 47, [], 0), (37, .iload_n 3, 1, 38, 0, [], 0), (38, .ifCond .ne 7, 3, 41, 45, [], 0), (41, .iconst 1, 1, 42, 0, [], 1)]),
  (56, [(42, .goto 4, 3, 45, 46, [], 0), (45, .iconst 0, 1, 46, 0, [], 0), (46, .ireturn, 1, 47, 0, [], 0), (47, .iload_n 2, 1, 48, 0, [], 0), (48, .iconst 4, 1, 49, 0, [], 4), (49, .if_icmp .ne 23, 3, 52, 72, [], 0), (52, .iload_n 3, 1, 53, 0, [], 0), (53, .ifCond .ne 17, 3, 56, 70, [], 0), (56, .iload 4, 2, 58, 0, [], 0)]),
  (72, [(58, .ifCond .ne 12, 3, 61, 70, [], 0), (61, .iload_n 1, 1, 62, 0, [], 0), (62, .iconst 2, 1, 63, 0, [], 2), (63, .if_icmp .ne 7, 3, 66, 70, [], 0), (66, .iconst 1, 1, 67, 0, [], 1), (67, .goto 4, 3, 70, 71, [], 0), (70, .iconst 0, 1, 71, 0, [], 0), (71, .ireturn, 1, 72, 0, [], 0), (72, .iload_n 3, 1, 73, 0, [], 0)]),
  (88, [(73, .iload_n 1, 1, 74, 0, [], 0), (74, .if_icmp .ge 17, 3, 77, 91, [], 0), (77, .iload_n 2, 1, 78, 0, [], 0), (78, .iconst 2, 1, 79, 0, [], 2), (79, .if_icmp .ne 8, 3, 82, 87, [], 0), (82, .iload 4, 2, 84, 0, [], 0), (84, .ifCond .le 7, 3, 87, 91, [], 0), (87, .iconst 1, 1, 88, 0, [], 1), (88, .goto 4, 3, 91, 92, [], 0)]),
  (92, [(91, .iconst 0, 1, 92, 0, [], 0), (92, .ireturn, 1, 93, 0, [], 0)])]
set_option maxRecDepth 100000 in
theorem okX5_mayBe : okT cX5_mayBe tX5_mayBe = true := by decide +kernel
def tX5_toldOf : List (Nat × List Et) := [(12, [(0, .bipush 100, 2, 2, 0, [], 100), (2, .aload_n 0, 1, 3, 0, [], 0), (3, .iload_n 1, 1, 4, 0, [], 0), (4, .iload_n 2, 1, 5, 0, [], 0), (5, .iconst 0, 1, 6, 0, [], 0), (6, .invokevirtual 142, 3, 9, 0, [], 0), (9, .imul, 1, 10, 0, [], 0), (10, .bipush 10, 2, 12, 0, [], 10), (12, .aload_n 0, 1, 13, 0, [], 0)]),
  (23, [(13, .iload_n 1, 1, 14, 0, [], 0), (14, .iload_n 2, 1, 15, 0, [], 0), (15, .iconst 1, 1, 16, 0, [], 1), (16, .invokevirtual 142, 3, 19, 0, [], 0), (19, .imul, 1, 20, 0, [], 0), (20, .iadd, 1, 21, 0, [], 0), (21, .aload_n 0, 1, 22, 0, [], 0), (22, .iload_n 1, 1, 23, 0, [], 0), (23, .iload_n 2, 1, 24, 0, [], 0)]),
  (29, [(24, .iconst 2, 1, 25, 0, [], 2), (25, .invokevirtual 142, 3, 28, 0, [], 0), (28, .iadd, 1, 29, 0, [], 0), (29, .ireturn, 1, 30, 0, [], 0)])]
set_option maxRecDepth 100000 in
theorem okX5_toldOf : okT cX5_toldOf tX5_toldOf = true := by decide +kernel
def tX5_argumentBecomes : List (Nat × List Et) := [(9, [(0, .iconst 4, 1, 1, 0, [], 4), (1, .bipush 8, 2, 3, 0, [], 8), (3, .iload_n 1, 1, 4, 0, [], 0), (4, .imul, 1, 5, 0, [], 0), (5, .iadd, 1, 6, 0, [], 0), (6, .iconst 2, 1, 7, 0, [], 2), (7, .iadd, 1, 8, 0, [], 0), (8, .iconst 3, 1, 9, 0, [], 3), (9, .iload_n 2, 1, 10, 0, [], 0)]),
  (23, [(10, .imul, 1, 11, 0, [], 0), (11, .iadd, 1, 12, 0, [], 0), (12, .istore 4, 2, 14, 0, [], 0), (14, .aload_n 0, 1, 15, 0, [], 0), (15, .getfield 7, 3, 18, 0, [], 0), (18, .iload 4, 2, 20, 0, [], 0), (20, .iload_n 3, 1, 21, 0, [], 0), (21, .bipush 100, 2, 23, 0, [], 100), (23, .idiv, 1, 24, 0, [], 0)]),
  (36, [(24, .iastore, 1, 25, 0, [], 0), (25, .aload_n 0, 1, 26, 0, [], 0), (26, .getfield 7, 3, 29, 0, [], 0), (29, .iload 4, 2, 31, 0, [], 0), (31, .iconst 1, 1, 32, 0, [], 1), (32, .iadd, 1, 33, 0, [], 0), (33, .iload_n 3, 1, 34, 0, [], 0), (34, .bipush 10, 2, 36, 0, [], 10), (36, .idiv, 1, 37, 0, [], 0)]),
  (49, [(37, .bipush 10, 2, 39, 0, [], 10), (39, .irem, 1, 40, 0, [], 0), (40, .iastore, 1, 41, 0, [], 0), (41, .aload_n 0, 1, 42, 0, [], 0), (42, .getfield 7, 3, 45, 0, [], 0), (45, .iload 4, 2, 47, 0, [], 0), (47, .iconst 2, 1, 48, 0, [], 2), (48, .iadd, 1, 49, 0, [], 0), (49, .iload_n 3, 1, 50, 0, [], 0)]),
  (54, [(50, .bipush 10, 2, 52, 0, [], 10), (52, .irem, 1, 53, 0, [], 0), (53, .iastore, 1, 54, 0, [], 0), (54, .return_, 1, 55, 0, [], 0)])]
set_option maxRecDepth 100000 in
theorem okX5_argumentBecomes : okT cX5_argumentBecomes tX5_argumentBecomes = true := by decide +kernel
def tX5_spare : List (Nat × List Et) := [(14, [(0, .aload_n 0, 1, 1, 0, [], 0), (1, .invokevirtual 204, 3, 4, 0, [], 0), (4, .ifCond .eq 6, 3, 7, 10, [], 0), (7, .bipush (-4), 2, 9, 0, [], (-4)), (9, .ireturn, 1, 10, 0, [], 0), (10, .bipush (-4), 2, 12, 0, [], (-4)), (12, .istore_n 1, 1, 13, 0, [], 0), (13, .iconst 0, 1, 14, 0, [], 0), (14, .istore_n 2, 1, 15, 0, [], 0)]),
  (29, [(15, .iload_n 2, 1, 16, 0, [], 0), (16, .aload_n 0, 1, 17, 0, [], 0), (17, .getfield 7, 3, 20, 0, [], 0), (20, .bipush 100, 2, 22, 0, [], 100), (22, .iaload, 1, 23, 0, [], 0), (23, .if_icmp .ge 34, 3, 26, 57, [], 0), (26, .iload_n 1, 1, 27, 0, [], 0), (27, .bipush (-4), 2, 29, 0, [], (-4)), (29, .if_icmp .ne 28, 3, 32, 57, [], 0)]),
  (48, [(32, .aload_n 0, 1, 33, 0, [], 0), (33, .iload_n 2, 1, 34, 0, [], 0), (34, .putfield 47, 3, 37, 0, [], 0), (37, .aload_n 0, 1, 38, 0, [], 0), (38, .invokevirtual 204, 3, 41, 0, [], 0), (41, .ifCond .eq 7, 3, 44, 48, [], 0), (44, .iload_n 2, 1, 45, 0, [], 0), (45, .goto 5, 3, 48, 50, [], 0), (48, .bipush (-4), 2, 50, 0, [], (-4))]),
  (64, [(50, .istore_n 1, 1, 51, 0, [], 0), (51, .iinc 2 1, 3, 54, 0, [], 1), (54, .goto (-39), 3, 57, 15, [], 0), (57, .aload_n 0, 1, 58, 0, [], 0), (58, .bipush (-4), 2, 60, 0, [], (-4)), (60, .putfield 47, 3, 63, 0, [], 0), (63, .iload_n 1, 1, 64, 0, [], 0), (64, .ireturn, 1, 65, 0, [], 0)])]
set_option maxRecDepth 100000 in
theorem okX5_spare : okT cX5_spare tX5_spare = true := by decide +kernel
def tX5_mend : List (Nat × List Et) := [(13, [(0, .aload_n 0, 1, 1, 0, [], 0), (1, .invokevirtual 204, 3, 4, 0, [], 0), (4, .ifCond .eq 6, 3, 7, 10, [], 0), (7, .bipush (-4), 2, 9, 0, [], (-4)), (9, .ireturn, 1, 10, 0, [], 0), (10, .iconst 0, 1, 11, 0, [], 0), (11, .istore_n 1, 1, 12, 0, [], 0), (12, .iload_n 1, 1, 13, 0, [], 0), (13, .aload_n 0, 1, 14, 0, [], 0)]),
  (27, [(14, .getfield 7, 3, 17, 0, [], 0), (17, .bipush 100, 2, 19, 0, [], 100), (19, .iaload, 1, 20, 0, [], 0), (20, .if_icmp .ge 77, 3, 23, 97, [], 0), (23, .iconst 0, 1, 24, 0, [], 0), (24, .istore_n 2, 1, 25, 0, [], 0), (25, .iload_n 2, 1, 26, 0, [], 0), (26, .aload_n 0, 1, 27, 0, [], 0), (27, .getfield 7, 3, 30, 0, [], 0)]),
  (42, [(30, .aload_n 0, 1, 31, 0, [], 0), (31, .iload_n 1, 1, 32, 0, [], 0), (32, .iconst 1, 1, 33, 0, [], 1), (33, .invokevirtual 139, 3, 36, 0, [], 0), (36, .iaload, 1, 37, 0, [], 0), (37, .if_icmp .ge 54, 3, 40, 91, [], 0), (40, .iconst 0, 1, 41, 0, [], 0), (41, .istore_n 3, 1, 42, 0, [], 0), (42, .iload_n 3, 1, 43, 0, [], 0)]),
  (57, [(43, .aload_n 0, 1, 44, 0, [], 0), (44, .getfield 7, 3, 47, 0, [], 0), (47, .aload_n 0, 1, 48, 0, [], 0), (48, .iload_n 1, 1, 49, 0, [], 0), (49, .iconst 0, 1, 50, 0, [], 0), (50, .invokevirtual 139, 3, 53, 0, [], 0), (53, .iaload, 1, 54, 0, [], 0), (54, .if_icmp .ge 31, 3, 57, 85, [], 0), (57, .aload_n 0, 1, 58, 0, [], 0)]),
  (71, [(58, .iload_n 1, 1, 59, 0, [], 0), (59, .iload_n 2, 1, 60, 0, [], 0), (60, .iload_n 3, 1, 61, 0, [], 0), (61, .invokevirtual 250, 3, 64, 0, [], 0), (64, .ifCond .eq 15, 3, 67, 79, [], 0), (67, .bipush 100, 2, 69, 0, [], 100), (69, .iload_n 1, 1, 70, 0, [], 0), (70, .imul, 1, 71, 0, [], 0), (71, .bipush 10, 2, 73, 0, [], 10)]),
  (85, [(73, .iload_n 2, 1, 74, 0, [], 0), (74, .imul, 1, 75, 0, [], 0), (75, .iadd, 1, 76, 0, [], 0), (76, .iload_n 3, 1, 77, 0, [], 0), (77, .iadd, 1, 78, 0, [], 0), (78, .ireturn, 1, 79, 0, [], 0), (79, .iinc 3 1, 3, 82, 0, [], 1), (82, .goto (-40), 3, 85, 42, [], 0), (85, .iinc 2 1, 3, 88, 0, [], 1)]),
  (99, [(88, .goto (-63), 3, 91, 25, [], 0), (91, .iinc 1 1, 3, 94, 0, [], 1), (94, .goto (-82), 3, 97, 12, [], 0), (97, .bipush (-4), 2, 99, 0, [], (-4)), (99, .ireturn, 1, 100, 0, [], 0)])]
set_option maxRecDepth 100000 in
theorem okX5_mend : okT cX5_mend tX5_mend = true := by decide +kernel
def tX5_endsIf : List (Nat × List Et) := [(11, [(0, .aload_n 0, 1, 1, 0, [], 0), (1, .iload_n 1, 1, 2, 0, [], 0), (2, .iload_n 2, 1, 3, 0, [], 0), (3, .invokevirtual 243, 3, 6, 0, [], 0), (6, .istore 4, 2, 8, 0, [], 0), (8, .aload_n 0, 1, 9, 0, [], 0), (9, .iload_n 1, 1, 10, 0, [], 0), (10, .iload_n 2, 1, 11, 0, [], 0), (11, .bipush 101, 2, 13, 0, [], 101)]),
  (27, [(13, .bipush 10, 2, 15, 0, [], 10), (15, .iload_n 3, 1, 16, 0, [], 0), (16, .imul, 1, 17, 0, [], 0), (17, .iadd, 1, 18, 0, [], 0), (18, .invokevirtual 246, 3, 21, 0, [], 0), (21, .aload_n 0, 1, 22, 0, [], 0), (22, .invokevirtual 204, 3, 25, 0, [], 0), (25, .istore 5, 2, 27, 0, [], 0), (27, .aload_n 0, 1, 28, 0, [], 0)]),
  (37, [(28, .iload_n 1, 1, 29, 0, [], 0), (29, .iload_n 2, 1, 30, 0, [], 0), (30, .iload 4, 2, 32, 0, [], 0), (32, .invokevirtual 246, 3, 35, 0, [], 0), (35, .iload 5, 2, 37, 0, [], 0), (37, .ireturn, 1, 38, 0, [], 0)])]
set_option maxRecDepth 100000 in
theorem okX5_endsIf : okT cX5_endsIf tX5_endsIf = true := by decide +kernel
def tX5_loops : List (Nat × List Et) := [(5, [(0, .aload_n 0, 1, 1, 0, [], 0), (1, .iconst 3, 1, 2, 0, [], 3), (2, .invokevirtual 201, 3, 5, 0, [], 0), (5, .ireturn, 1, 6, 0, [], 0)])]
set_option maxRecDepth 100000 in
theorem okX5_loops : okT cX5_loops tX5_loops = true := by decide +kernel
def tX5_run : List (Nat × List Et) := [(14, [(0, .aload_n 0, 1, 1, 0, [], 0), (1, .iload_n 1, 1, 2, 0, [], 0), (2, .invokevirtual 211, 3, 5, 0, [], 0), (5, .ifCond .eq 41, 3, 8, 46, [], 0), (8, .iload_n 2, 1, 9, 0, [], 0), (9, .i2l, 1, 10, 0, [], 0), (10, .lconst 0, 1, 11, 0, [], 0), (11, .ldc2_w 257, 3, 14, 0, [], 0), (14, .invokestatic 71, 3, 17, 0, [], 0)]),
  (29, [(17, .ifCond .eq 29, 3, 20, 46, [], 0), (20, .iload_n 3, 1, 21, 0, [], 0), (21, .i2l, 1, 22, 0, [], 0), (22, .lconst 0, 1, 23, 0, [], 0), (23, .aload_n 0, 1, 24, 0, [], 0), (24, .getfield 7, 3, 27, 0, [], 0), (27, .iload_n 1, 1, 28, 0, [], 0), (28, .iaload, 1, 29, 0, [], 0), (29, .iconst 2, 1, 30, 0, [], 2)]),
  (48, [(30, .if_icmp .ne 9, 3, 33, 39, [], 0), (33, .ldc2_w 257, 3, 36, 0, [], 0), (36, .goto 4, 3, 39, 40, [], 0), (39, .lconst 0, 1, 40, 0, [], 0), (40, .invokestatic 71, 3, 43, 0, [], 0), (43, .ifCond .ne 5, 3, 46, 48, [], 0), (46, .iconst (-1), 1, 47, 0, [], (-1)), (47, .ireturn, 1, 48, 0, [], 0), (48, .iload 4, 2, 50, 0, [], 0)]),
  (63, [(50, .istore 5, 2, 52, 0, [], 0), (52, .iload_n 1, 1, 53, 0, [], 0), (53, .istore 6, 2, 55, 0, [], 0), (55, .iconst 0, 1, 56, 0, [], 0), (56, .istore 7, 2, 58, 0, [], 0), (58, .aload_n 0, 1, 59, 0, [], 0), (59, .getfield 51, 3, 62, 0, [], 0), (62, .iconst 0, 1, 63, 0, [], 0), (63, .iload_n 2, 1, 64, 0, [], 0)]),
  (75, [(64, .iastore, 1, 65, 0, [], 0), (65, .aload_n 0, 1, 66, 0, [], 0), (66, .getfield 51, 3, 69, 0, [], 0), (69, .iconst 1, 1, 70, 0, [], 1), (70, .iload_n 3, 1, 71, 0, [], 0), (71, .iastore, 1, 72, 0, [], 0), (72, .aload_n 0, 1, 73, 0, [], 0), (73, .iload 6, 2, 75, 0, [], 0), (75, .invokevirtual 259, 3, 78, 0, [], 0)]),
  (95, [(78, .istore 8, 2, 80, 0, [], 0), (80, .iload 8, 2, 82, 0, [], 0), (82, .ifCond .le 152, 3, 85, 234, [], 0), (85, .iload 5, 2, 87, 0, [], 0), (87, .ldc_w 262, 3, 90, 0, [], 0), (90, .imul, 1, 91, 0, [], 0), (91, .sipush 12345, 3, 94, 0, [], 12345), (94, .iadd, 1, 95, 0, [], 0), (95, .istore 5, 2, 97, 0, [], 0)]),
  (111, [(97, .iload 5, 2, 99, 0, [], 0), (99, .bipush 16, 2, 101, 0, [], 16), (101, .ishr, 1, 102, 0, [], 0), (102, .sipush 32767, 3, 105, 0, [], 32767), (105, .iand, 1, 106, 0, [], 0), (106, .istore 9, 2, 108, 0, [], 0), (108, .aload_n 0, 1, 109, 0, [], 0), (109, .iload 6, 2, 111, 0, [], 0), (111, .iload 9, 2, 113, 0, [], 0)]),
  (127, [(113, .iload 8, 2, 115, 0, [], 0), (115, .irem, 1, 116, 0, [], 0), (116, .invokevirtual 263, 3, 119, 0, [], 0), (119, .istore 10, 2, 121, 0, [], 0), (121, .aload_n 0, 1, 122, 0, [], 0), (122, .getfield 54, 3, 125, 0, [], 0), (125, .iconst 0, 1, 126, 0, [], 0), (126, .iconst 0, 1, 127, 0, [], 0), (127, .iastore, 1, 128, 0, [], 0)]),
  (140, [(128, .aload_n 0, 1, 129, 0, [], 0), (129, .getfield 54, 3, 132, 0, [], 0), (132, .iconst 1, 1, 133, 0, [], 1), (133, .iconst 0, 1, 134, 0, [], 0), (134, .iastore, 1, 135, 0, [], 0), (135, .iconst 0, 1, 136, 0, [], 0), (136, .istore 11, 2, 138, 0, [], 0), (138, .iload 11, 2, 140, 0, [], 0), (140, .aload_n 0, 1, 141, 0, [], 0)]),
  (156, [(141, .getfield 7, 3, 144, 0, [], 0), (144, .aload_n 0, 1, 145, 0, [], 0), (145, .iload 10, 2, 147, 0, [], 0), (147, .iconst 1, 1, 148, 0, [], 1), (148, .invokevirtual 139, 3, 151, 0, [], 0), (151, .iaload, 1, 152, 0, [], 0), (152, .if_icmp .ge 24, 3, 155, 176, [], 0), (155, .aload_n 0, 1, 156, 0, [], 0), (156, .getfield 54, 3, 159, 0, [], 0)]),
  (176, [(159, .iload 11, 2, 161, 0, [], 0), (161, .aload_n 0, 1, 162, 0, [], 0), (162, .iload 10, 2, 164, 0, [], 0), (164, .iload 11, 2, 166, 0, [], 0), (166, .invokevirtual 266, 3, 169, 0, [], 0), (169, .iastore, 1, 170, 0, [], 0), (170, .iinc 11 1, 3, 173, 0, [], 1), (173, .goto (-35), 3, 176, 138, [], 0), (176, .aload_n 0, 1, 177, 0, [], 0)]),
  (189, [(177, .getfield 51, 3, 180, 0, [], 0), (180, .iconst 0, 1, 181, 0, [], 0), (181, .aload_n 0, 1, 182, 0, [], 0), (182, .getfield 54, 3, 185, 0, [], 0), (185, .iconst 0, 1, 186, 0, [], 0), (186, .iaload, 1, 187, 0, [], 0), (187, .iastore, 1, 188, 0, [], 0), (188, .aload_n 0, 1, 189, 0, [], 0), (189, .getfield 51, 3, 192, 0, [], 0)]),
  (203, [(192, .iconst 1, 1, 193, 0, [], 1), (193, .aload_n 0, 1, 194, 0, [], 0), (194, .getfield 54, 3, 197, 0, [], 0), (197, .iconst 1, 1, 198, 0, [], 1), (198, .iaload, 1, 199, 0, [], 0), (199, .iastore, 1, 200, 0, [], 0), (200, .aload_n 0, 1, 201, 0, [], 0), (201, .iload 10, 2, 203, 0, [], 0), (203, .iconst 1, 1, 204, 0, [], 1)]),
  (223, [(204, .invokevirtual 139, 3, 207, 0, [], 0), (207, .istore 6, 2, 209, 0, [], 0), (209, .iinc 7 1, 3, 212, 0, [], 1), (212, .iload 7, 2, 214, 0, [], 0), (214, .sipush 200, 3, 217, 0, [], 200), (217, .if_icmp .ne 6, 3, 220, 223, [], 0), (220, .bipush (-4), 2, 222, 0, [], (-4)), (222, .ireturn, 1, 223, 0, [], 0), (223, .aload_n 0, 1, 224, 0, [], 0)]),
  (236, [(224, .iload 6, 2, 226, 0, [], 0), (226, .invokevirtual 259, 3, 229, 0, [], 0), (229, .istore 8, 2, 231, 0, [], 0), (231, .goto (-151), 3, 234, 80, [], 0), (234, .iload 7, 2, 236, 0, [], 0), (236, .ireturn, 1, 237, 0, [], 0)])]
set_option maxRecDepth 100000 in
theorem okX5_run : okT cX5_run tX5_run = true := by decide +kernel
def tX5_madeMany : List (Nat × List Et) := [(11, [(0, .iconst 0, 1, 1, 0, [], 0), (1, .istore_n 2, 1, 2, 0, [], 0), (2, .iconst 0, 1, 3, 0, [], 0), (3, .istore_n 3, 1, 4, 0, [], 0), (4, .iload_n 3, 1, 5, 0, [], 0), (5, .aload_n 0, 1, 6, 0, [], 0), (6, .getfield 7, 3, 9, 0, [], 0), (9, .bipush 100, 2, 11, 0, [], 100), (11, .iaload, 1, 12, 0, [], 0)]),
  (26, [(12, .if_icmp .ge 38, 3, 15, 50, [], 0), (15, .iload_n 2, 1, 16, 0, [], 0), (16, .aload_n 0, 1, 17, 0, [], 0), (17, .iload_n 3, 1, 18, 0, [], 0), (18, .iconst 0, 1, 19, 0, [], 0), (19, .invokevirtual 139, 3, 22, 0, [], 0), (22, .iload_n 1, 1, 23, 0, [], 0), (23, .if_icmp .ne 15, 3, 26, 38, [], 0), (26, .aload_n 0, 1, 27, 0, [], 0)]),
  (43, [(27, .iload_n 3, 1, 28, 0, [], 0), (28, .invokevirtual 254, 3, 31, 0, [], 0), (31, .ifCond .eq 7, 3, 34, 38, [], 0), (34, .iconst 1, 1, 35, 0, [], 1), (35, .goto 4, 3, 38, 39, [], 0), (38, .iconst 0, 1, 39, 0, [], 0), (39, .invokestatic 171, 3, 42, 0, [], 0), (42, .iadd, 1, 43, 0, [], 0), (43, .istore_n 2, 1, 44, 0, [], 0)]),
  (51, [(44, .iinc 3 1, 3, 47, 0, [], 1), (47, .goto (-43), 3, 50, 4, [], 0), (50, .iload_n 2, 1, 51, 0, [], 0), (51, .ireturn, 1, 52, 0, [], 0)])]
set_option maxRecDepth 100000 in
theorem okX5_madeMany : okT cX5_madeMany tX5_madeMany = true := by decide +kernel
def tX5_isMade : List (Nat × List Et) := [(10, [(0, .iconst 1, 1, 1, 0, [], 1), (1, .istore_n 2, 1, 2, 0, [], 0), (2, .iconst 0, 1, 3, 0, [], 0), (3, .istore_n 3, 1, 4, 0, [], 0), (4, .iload_n 3, 1, 5, 0, [], 0), (5, .aload_n 0, 1, 6, 0, [], 0), (6, .getfield 7, 3, 9, 0, [], 0), (9, .aload_n 0, 1, 10, 0, [], 0), (10, .iload_n 1, 1, 11, 0, [], 0)]),
  (23, [(11, .iconst 1, 1, 12, 0, [], 1), (12, .invokevirtual 139, 3, 15, 0, [], 0), (15, .iaload, 1, 16, 0, [], 0), (16, .if_icmp .ge 81, 3, 19, 97, [], 0), (19, .aload_n 0, 1, 20, 0, [], 0), (20, .iload_n 1, 1, 21, 0, [], 0), (21, .iload_n 3, 1, 22, 0, [], 0), (22, .iconst 0, 1, 23, 0, [], 0), (23, .invokevirtual 142, 3, 26, 0, [], 0)]),
  (39, [(26, .istore 4, 2, 28, 0, [], 0), (28, .aload_n 0, 1, 29, 0, [], 0), (29, .getfield 51, 3, 32, 0, [], 0), (32, .aload_n 0, 1, 33, 0, [], 0), (33, .iload_n 1, 1, 34, 0, [], 0), (34, .iload_n 3, 1, 35, 0, [], 0), (35, .iconst 1, 1, 36, 0, [], 1), (36, .invokevirtual 142, 3, 39, 0, [], 0), (39, .iaload, 1, 40, 0, [], 0)]),
  (52, [(40, .istore 5, 2, 42, 0, [], 0), (42, .aload_n 0, 1, 43, 0, [], 0), (43, .iload_n 1, 1, 44, 0, [], 0), (44, .iload_n 3, 1, 45, 0, [], 0), (45, .iconst 2, 1, 46, 0, [], 2), (46, .invokevirtual 142, 3, 49, 0, [], 0), (49, .istore 6, 2, 51, 0, [], 0), (51, .iload_n 2, 1, 52, 0, [], 0), (52, .ifCond .eq 37, 3, 55, 89, [], 0)]),
  (71, [(55, .iload 4, 2, 57, 0, [], 0), (57, .iconst 1, 1, 58, 0, [], 1), (58, .if_icmp .ne 10, 3, 61, 68, [], 0), (61, .iload 5, 2, 63, 0, [], 0), (63, .iload 6, 2, 65, 0, [], 0), (65, .if_icmp .lt 24, 3, 68, 89, [], 0), (68, .iload 4, 2, 70, 0, [], 0), (70, .iconst 2, 1, 71, 0, [], 2), (71, .if_icmp .ne 14, 3, 74, 85, [], 0)]),
  (90, [(74, .iload 6, 2, 76, 0, [], 0), (76, .iconst 1, 1, 77, 0, [], 1), (77, .if_icmp .le 8, 3, 80, 85, [], 0), (80, .iload 5, 2, 82, 0, [], 0), (82, .ifCond .le 7, 3, 85, 89, [], 0), (85, .iconst 1, 1, 86, 0, [], 1), (86, .goto 4, 3, 89, 90, [], 0), (89, .iconst 0, 1, 90, 0, [], 0), (90, .istore_n 2, 1, 91, 0, [], 0)]),
  (98, [(91, .iinc 3 1, 3, 94, 0, [], 1), (94, .goto (-90), 3, 97, 4, [], 0), (97, .iload_n 2, 1, 98, 0, [], 0), (98, .ireturn, 1, 99, 0, [], 0)])]
set_option maxRecDepth 100000 in
theorem okX5_isMade : okT cX5_isMade tX5_isMade = true := by decide +kernel
def tX5_madeAt : List (Nat × List Et) := [(13, [(0, .iload_n 2, 1, 1, 0, [], 0), (1, .istore_n 3, 1, 2, 0, [], 0), (2, .iconst 0, 1, 3, 0, [], 0), (3, .istore 4, 2, 5, 0, [], 0), (5, .iload 4, 2, 7, 0, [], 0), (7, .aload_n 0, 1, 8, 0, [], 0), (8, .getfield 7, 3, 11, 0, [], 0), (11, .bipush 100, 2, 13, 0, [], 100), (13, .iaload, 1, 14, 0, [], 0)]),
  (29, [(14, .if_icmp .ge 39, 3, 17, 53, [], 0), (17, .aload_n 0, 1, 18, 0, [], 0), (18, .iload 4, 2, 20, 0, [], 0), (20, .iconst 0, 1, 21, 0, [], 0), (21, .invokevirtual 139, 3, 24, 0, [], 0), (24, .iload_n 1, 1, 25, 0, [], 0), (25, .if_icmp .ne 22, 3, 28, 47, [], 0), (28, .aload_n 0, 1, 29, 0, [], 0), (29, .iload 4, 2, 31, 0, [], 0)]),
  (50, [(31, .invokevirtual 254, 3, 34, 0, [], 0), (34, .ifCond .eq 13, 3, 37, 47, [], 0), (37, .iload_n 3, 1, 38, 0, [], 0), (38, .ifCond .ne 6, 3, 41, 44, [], 0), (41, .iload 4, 2, 43, 0, [], 0), (43, .ireturn, 1, 44, 0, [], 0), (44, .iinc 3 (-1), 3, 47, 0, [], (-1)), (47, .iinc 4 1, 3, 50, 0, [], 1), (50, .goto (-45), 3, 53, 5, [], 0)]),
  (55, [(53, .bipush (-4), 2, 55, 0, [], (-4)), (55, .ireturn, 1, 56, 0, [], 0)])]
set_option maxRecDepth 100000 in
theorem okX5_madeAt : okT cX5_madeAt tX5_madeAt = true := by decide +kernel
def tX5_argumentNow : List (Nat × List Et) := [(12, [(0, .aload_n 0, 1, 1, 0, [], 0), (1, .getfield 51, 3, 4, 0, [], 0), (4, .aload_n 0, 1, 5, 0, [], 0), (5, .iload_n 1, 1, 6, 0, [], 0), (6, .iload_n 2, 1, 7, 0, [], 0), (7, .iconst 1, 1, 8, 0, [], 1), (8, .invokevirtual 142, 3, 11, 0, [], 0), (11, .iaload, 1, 12, 0, [], 0), (12, .istore_n 3, 1, 13, 0, [], 0)]),
  (24, [(13, .aload_n 0, 1, 14, 0, [], 0), (14, .iload_n 1, 1, 15, 0, [], 0), (15, .iload_n 2, 1, 16, 0, [], 0), (16, .iconst 2, 1, 17, 0, [], 2), (17, .invokevirtual 142, 3, 20, 0, [], 0), (20, .istore 4, 2, 22, 0, [], 0), (22, .aload_n 0, 1, 23, 0, [], 0), (23, .iload_n 1, 1, 24, 0, [], 0), (24, .iload_n 2, 1, 25, 0, [], 0)]),
  (66, [(25, .iconst 0, 1, 26, 0, [], 0), (26, .invokevirtual 142, 3, 29, 0, [], 0), (29, .tableswitch 93 1 4 #[31, 36, 41, 62], 31, 60, 122, [60, 65, 70, 91], 0), (60, .iload_n 3, 1, 61, 0, [], 0), (61, .iload 4, 2, 63, 0, [], 0), (63, .isub, 1, 64, 0, [], 0), (64, .ireturn, 1, 65, 0, [], 0), (65, .iload_n 3, 1, 66, 0, [], 0), (66, .iload 4, 2, 68, 0, [], 0)]),
  (83, [(68, .idiv, 1, 69, 0, [], 0), (69, .ireturn, 1, 70, 0, [], 0), (70, .iload_n 3, 1, 71, 0, [], 0), (71, .iload 4, 2, 73, 0, [], 0), (73, .iadd, 1, 74, 0, [], 0), (74, .sipush 999, 3, 77, 0, [], 999), (77, .if_icmp .le 9, 3, 80, 86, [], 0), (80, .sipush 999, 3, 83, 0, [], 999), (83, .goto 7, 3, 86, 90, [], 0)]),
  (97, [(86, .iload_n 3, 1, 87, 0, [], 0), (87, .iload 4, 2, 89, 0, [], 0), (89, .iadd, 1, 90, 0, [], 0), (90, .ireturn, 1, 91, 0, [], 0), (91, .aload_n 0, 1, 92, 0, [], 0), (92, .getfield 51, 3, 95, 0, [], 0), (95, .iconst 0, 1, 96, 0, [], 0), (96, .iaload, 1, 97, 0, [], 0), (97, .aload_n 0, 1, 98, 0, [], 0)]),
  (112, [(98, .getfield 51, 3, 101, 0, [], 0), (101, .iconst 1, 1, 102, 0, [], 1), (102, .iaload, 1, 103, 0, [], 0), (103, .if_icmp .ge 12, 3, 106, 115, [], 0), (106, .aload_n 0, 1, 107, 0, [], 0), (107, .getfield 51, 3, 110, 0, [], 0), (110, .iconst 0, 1, 111, 0, [], 0), (111, .iaload, 1, 112, 0, [], 0), (112, .goto 9, 3, 115, 121, [], 0)]),
  (124, [(115, .aload_n 0, 1, 116, 0, [], 0), (116, .getfield 51, 3, 119, 0, [], 0), (119, .iconst 1, 1, 120, 0, [], 1), (120, .iaload, 1, 121, 0, [], 0), (121, .ireturn, 1, 122, 0, [], 0), (122, .iload 4, 2, 124, 0, [], 0), (124, .ireturn, 1, 125, 0, [], 0)])]
set_option maxRecDepth 100000 in
theorem okX5_argumentNow : okT cX5_argumentNow tX5_argumentNow = true := by decide +kernel
def tX5_keep : List (Nat × List Et) := [(12, [(0, .iload_n 1, 1, 1, 0, [], 0), (1, .i2l, 1, 2, 0, [], 0), (2, .lconst 0, 1, 3, 0, [], 0), (3, .lconst 1, 1, 4, 0, [], 0), (4, .invokestatic 71, 3, 7, 0, [], 0), (7, .ifCond .ne 5, 3, 10, 12, [], 0), (10, .iconst (-1), 1, 11, 0, [], (-1)), (11, .ireturn, 1, 12, 0, [], 0), (12, .aload_n 0, 1, 13, 0, [], 0)]),
  (27, [(13, .getfield 16, 3, 16, 0, [], 0), (16, .iload_n 1, 1, 17, 0, [], 0), (17, .baload, 1, 18, 0, [], 0), (18, .invokestatic 171, 3, 21, 0, [], 0), (21, .istore_n 2, 1, 22, 0, [], 0), (22, .aload_n 0, 1, 23, 0, [], 0), (23, .getfield 16, 3, 26, 0, [], 0), (26, .iload_n 1, 1, 27, 0, [], 0), (27, .iconst 1, 1, 28, 0, [], 1)]),
  (41, [(28, .bastore, 1, 29, 0, [], 0), (29, .iconst 0, 1, 30, 0, [], 0), (30, .istore_n 3, 1, 31, 0, [], 0), (31, .iload_n 3, 1, 32, 0, [], 0), (32, .bipush 101, 2, 34, 0, [], 101), (34, .if_icmp .ge 26, 3, 37, 60, [], 0), (37, .aload_n 0, 1, 38, 0, [], 0), (38, .getfield 13, 3, 41, 0, [], 0), (41, .bipush 101, 2, 43, 0, [], 101)]),
  (53, [(43, .iload_n 1, 1, 44, 0, [], 0), (44, .imul, 1, 45, 0, [], 0), (45, .iload_n 3, 1, 46, 0, [], 0), (46, .iadd, 1, 47, 0, [], 0), (47, .aload_n 0, 1, 48, 0, [], 0), (48, .getfield 7, 3, 51, 0, [], 0), (51, .iload_n 3, 1, 52, 0, [], 0), (52, .iaload, 1, 53, 0, [], 0), (53, .iastore, 1, 54, 0, [], 0)]),
  (61, [(54, .iinc 3 1, 3, 57, 0, [], 1), (57, .goto (-26), 3, 60, 31, [], 0), (60, .iload_n 2, 1, 61, 0, [], 0), (61, .ireturn, 1, 62, 0, [], 0)])]
set_option maxRecDepth 100000 in
theorem okX5_keep : okT cX5_keep tX5_keep = true := by decide +kernel
def tX5_back : List (Nat × List Et) := [(12, [(0, .iload_n 1, 1, 1, 0, [], 0), (1, .i2l, 1, 2, 0, [], 0), (2, .lconst 0, 1, 3, 0, [], 0), (3, .lconst 1, 1, 4, 0, [], 0), (4, .invokestatic 71, 3, 7, 0, [], 0), (7, .ifCond .ne 5, 3, 10, 12, [], 0), (10, .iconst (-1), 1, 11, 0, [], (-1)), (11, .ireturn, 1, 12, 0, [], 0), (12, .aload_n 0, 1, 13, 0, [], 0)]),
  (26, [(13, .getfield 16, 3, 16, 0, [], 0), (16, .iload_n 1, 1, 17, 0, [], 0), (17, .baload, 1, 18, 0, [], 0), (18, .ifCond .ne 6, 3, 21, 24, [], 0), (21, .bipush (-2), 2, 23, 0, [], (-2)), (23, .ireturn, 1, 24, 0, [], 0), (24, .iconst 0, 1, 25, 0, [], 0), (25, .istore_n 2, 1, 26, 0, [], 0), (26, .iload_n 2, 1, 27, 0, [], 0)]),
  (43, [(27, .bipush 101, 2, 29, 0, [], 101), (29, .if_icmp .ge 26, 3, 32, 55, [], 0), (32, .aload_n 0, 1, 33, 0, [], 0), (33, .getfield 7, 3, 36, 0, [], 0), (36, .iload_n 2, 1, 37, 0, [], 0), (37, .aload_n 0, 1, 38, 0, [], 0), (38, .getfield 13, 3, 41, 0, [], 0), (41, .bipush 101, 2, 43, 0, [], 101), (43, .iload_n 1, 1, 44, 0, [], 0)]),
  (56, [(44, .imul, 1, 45, 0, [], 0), (45, .iload_n 2, 1, 46, 0, [], 0), (46, .iadd, 1, 47, 0, [], 0), (47, .iaload, 1, 48, 0, [], 0), (48, .iastore, 1, 49, 0, [], 0), (49, .iinc 2 1, 3, 52, 0, [], 1), (52, .goto (-26), 3, 55, 26, [], 0), (55, .aload_n 0, 1, 56, 0, [], 0), (56, .getfield 7, 3, 59, 0, [], 0)]),
  (62, [(59, .bipush 100, 2, 61, 0, [], 100), (61, .iaload, 1, 62, 0, [], 0), (62, .ireturn, 1, 63, 0, [], 0)])]
set_option maxRecDepth 100000 in
theorem okX5_back : okT cX5_back tX5_back = true := by decide +kernel
def tX5_sheet : List (Nat × List Et) := [(15, [(0, .iload_n 1, 1, 1, 0, [], 0), (1, .iload_n 2, 1, 2, 0, [], 0), (2, .invokestatic 269, 3, 5, 0, [], 0), (5, .ifCond .eq 9, 3, 8, 14, [], 0), (8, .iload_n 3, 1, 9, 0, [], 0), (9, .bipush 40, 2, 11, 0, [], 40), (11, .if_icmp .le 5, 3, 14, 16, [], 0), (14, .iconst (-1), 1, 15, 0, [], (-1)), (15, .ireturn, 1, 16, 0, [], 0)]),
  (29, [(16, .iload_n 3, 1, 17, 0, [], 0), (17, .ifCond .ge 6, 3, 20, 23, [], 0), (20, .bipush (-14), 2, 22, 0, [], (-14)), (22, .ireturn, 1, 23, 0, [], 0), (23, .aload_n 0, 1, 24, 0, [], 0), (24, .getfield 57, 3, 27, 0, [], 0), (27, .iload_n 1, 1, 28, 0, [], 0), (28, .iload_n 2, 1, 29, 0, [], 0), (29, .iastore, 1, 30, 0, [], 0)]),
  (42, [(30, .aload_n 0, 1, 31, 0, [], 0), (31, .getfield 60, 3, 34, 0, [], 0), (34, .iload_n 1, 1, 35, 0, [], 0), (35, .iload_n 3, 1, 36, 0, [], 0), (36, .iastore, 1, 37, 0, [], 0), (37, .iconst 0, 1, 38, 0, [], 0), (38, .istore 4, 2, 40, 0, [], 0), (40, .iload 4, 2, 42, 0, [], 0), (42, .bipush 40, 2, 44, 0, [], 40)]),
  (58, [(44, .if_icmp .ge 22, 3, 47, 66, [], 0), (47, .aload_n 0, 1, 48, 0, [], 0), (48, .getfield 63, 3, 51, 0, [], 0), (51, .bipush 40, 2, 53, 0, [], 40), (53, .iload_n 1, 1, 54, 0, [], 0), (54, .imul, 1, 55, 0, [], 0), (55, .iload 4, 2, 57, 0, [], 0), (57, .iadd, 1, 58, 0, [], 0), (58, .iconst 0, 1, 59, 0, [], 0)]),
  (67, [(59, .iastore, 1, 60, 0, [], 0), (60, .iinc 4 1, 3, 63, 0, [], 1), (63, .goto (-23), 3, 66, 40, [], 0), (66, .iconst 1, 1, 67, 0, [], 1), (67, .ireturn, 1, 68, 0, [], 0)])]
set_option maxRecDepth 100000 in
theorem okX5_sheet : okT cX5_sheet tX5_sheet = true := by decide +kernel
def tX5_isSheet : List (Nat × List Et) := [(14, [(0, .iload_n 0, 1, 1, 0, [], 0), (1, .i2l, 1, 2, 0, [], 0), (2, .lconst 0, 1, 3, 0, [], 0), (3, .ldc2_w 226, 3, 6, 0, [], 0), (6, .invokestatic 71, 3, 9, 0, [], 0), (9, .ifCond .eq 19, 3, 12, 28, [], 0), (12, .iload_n 1, 1, 13, 0, [], 0), (13, .i2l, 1, 14, 0, [], 0), (14, .lconst 0, 1, 15, 0, [], 0)]),
  (29, [(15, .ldc2_w 231, 3, 18, 0, [], 0), (18, .invokestatic 71, 3, 21, 0, [], 0), (21, .ifCond .eq 7, 3, 24, 28, [], 0), (24, .iconst 1, 1, 25, 0, [], 1), (25, .goto 4, 3, 28, 29, [], 0), (28, .iconst 0, 1, 29, 0, [], 0), (29, .ireturn, 1, 30, 0, [], 0)])]
set_option maxRecDepth 100000 in
theorem okX5_isSheet : okT cX5_isSheet tX5_isSheet = true := by decide +kernel
def tX5_lay : List (Nat × List Et) := [(14, [(0, .iload_n 1, 1, 1, 0, [], 0), (1, .iconst 0, 1, 2, 0, [], 0), (2, .invokestatic 269, 3, 5, 0, [], 0), (5, .ifCond .ne 5, 3, 8, 10, [], 0), (8, .iconst (-1), 1, 9, 0, [], (-1)), (9, .ireturn, 1, 10, 0, [], 0), (10, .aload_n 0, 1, 11, 0, [], 0), (11, .getfield 57, 3, 14, 0, [], 0), (14, .iload_n 1, 1, 15, 0, [], 0)]),
  (27, [(15, .iaload, 1, 16, 0, [], 0), (16, .bipush (-4), 2, 18, 0, [], (-4)), (18, .if_icmp .ne 6, 3, 21, 24, [], 0), (21, .bipush (-11), 2, 23, 0, [], (-11)), (23, .ireturn, 1, 24, 0, [], 0), (24, .iload_n 2, 1, 25, 0, [], 0), (25, .i2l, 1, 26, 0, [], 0), (26, .lconst 0, 1, 27, 0, [], 0), (27, .aload_n 0, 1, 28, 0, [], 0)]),
  (42, [(28, .getfield 60, 3, 31, 0, [], 0), (31, .iload_n 1, 1, 32, 0, [], 0), (32, .iaload, 1, 33, 0, [], 0), (33, .iconst 1, 1, 34, 0, [], 1), (34, .isub, 1, 35, 0, [], 0), (35, .i2l, 1, 36, 0, [], 0), (36, .invokestatic 71, 3, 39, 0, [], 0), (39, .ifCond .ne 6, 3, 42, 45, [], 0), (42, .bipush (-12), 2, 44, 0, [], (-12))]),
  (55, [(44, .ireturn, 1, 45, 0, [], 0), (45, .aload_n 0, 1, 46, 0, [], 0), (46, .getfield 63, 3, 49, 0, [], 0), (49, .bipush 40, 2, 51, 0, [], 40), (51, .iload_n 1, 1, 52, 0, [], 0), (52, .imul, 1, 53, 0, [], 0), (53, .iload_n 2, 1, 54, 0, [], 0), (54, .iadd, 1, 55, 0, [], 0), (55, .aload_n 0, 1, 56, 0, [], 0)]),
  (70, [(56, .getfield 57, 3, 59, 0, [], 0), (59, .iload_n 1, 1, 60, 0, [], 0), (60, .iaload, 1, 61, 0, [], 0), (61, .ifCond .ne 8, 3, 64, 69, [], 0), (64, .iload_n 3, 1, 65, 0, [], 0), (65, .i2b, 1, 66, 0, [], 0), (66, .goto 19, 3, 69, 85, [], 0), (69, .aload_n 0, 1, 70, 0, [], 0), (70, .getfield 57, 3, 73, 0, [], 0)]),
  (85, [(73, .iload_n 1, 1, 74, 0, [], 0), (74, .iaload, 1, 75, 0, [], 0), (75, .iconst 1, 1, 76, 0, [], 1), (76, .if_icmp .ne 8, 3, 79, 84, [], 0), (79, .iload_n 3, 1, 80, 0, [], 0), (80, .i2s, 1, 81, 0, [], 0), (81, .goto 4, 3, 84, 85, [], 0), (84, .iload_n 3, 1, 85, 0, [], 0), (85, .iastore, 1, 86, 0, [], 0)]),
  (87, [(86, .iconst 1, 1, 87, 0, [], 1), (87, .ireturn, 1, 88, 0, [], 0)])]
set_option maxRecDepth 100000 in
theorem okX5_lay : okT cX5_lay tX5_lay = true := by decide +kernel
def tX5_read : List (Nat × List Et) := [(15, [(0, .iload_n 1, 1, 1, 0, [], 0), (1, .iload_n 2, 1, 2, 0, [], 0), (2, .invokestatic 269, 3, 5, 0, [], 0), (5, .ifCond .eq 16, 3, 8, 21, [], 0), (8, .iload 4, 2, 10, 0, [], 0), (10, .i2l, 1, 11, 0, [], 0), (11, .lconst 0, 1, 12, 0, [], 0), (12, .ldc2_w 272, 3, 15, 0, [], 0), (15, .invokestatic 71, 3, 18, 0, [], 0)]),
  (33, [(18, .ifCond .ne 5, 3, 21, 23, [], 0), (21, .iconst (-1), 1, 22, 0, [], (-1)), (22, .ireturn, 1, 23, 0, [], 0), (23, .iconst 0, 1, 24, 0, [], 0), (24, .istore 5, 2, 26, 0, [], 0), (26, .iload 5, 2, 28, 0, [], 0), (28, .bipush 101, 2, 30, 0, [], 101), (30, .if_icmp .ge 23, 3, 33, 53, [], 0), (33, .aload_n 0, 1, 34, 0, [], 0)]),
  (50, [(34, .getfield 66, 3, 37, 0, [], 0), (37, .iload 5, 2, 39, 0, [], 0), (39, .aload_n 0, 1, 40, 0, [], 0), (40, .getfield 7, 3, 43, 0, [], 0), (43, .iload 5, 2, 45, 0, [], 0), (45, .iaload, 1, 46, 0, [], 0), (46, .iastore, 1, 47, 0, [], 0), (47, .iinc 5 1, 3, 50, 0, [], 1), (50, .goto (-24), 3, 53, 26, [], 0)]),
  (66, [(53, .iconst 0, 1, 54, 0, [], 0), (54, .istore 5, 2, 56, 0, [], 0), (56, .iconst 0, 1, 57, 0, [], 0), (57, .istore 6, 2, 59, 0, [], 0), (59, .iconst 0, 1, 60, 0, [], 0), (60, .istore 7, 2, 62, 0, [], 0), (62, .iload 7, 2, 64, 0, [], 0), (64, .iload 4, 2, 66, 0, [], 0), (66, .if_icmp .ge 193, 3, 69, 259, [], 0)]),
  (85, [(69, .iload 5, 2, 71, 0, [], 0), (71, .ifCond .ne 188, 3, 74, 259, [], 0), (74, .iconst 0, 1, 75, 0, [], 0), (75, .istore 8, 2, 77, 0, [], 0), (77, .iload 8, 2, 79, 0, [], 0), (79, .iconst 3, 1, 80, 0, [], 3), (80, .if_icmp .ge 84, 3, 83, 164, [], 0), (83, .iload 5, 2, 85, 0, [], 0), (85, .ifCond .ne 79, 3, 88, 164, [], 0)]),
  (98, [(88, .iload_n 3, 1, 89, 0, [], 0), (89, .i2l, 1, 90, 0, [], 0), (90, .iconst 3, 1, 91, 0, [], 3), (91, .iload 7, 2, 93, 0, [], 0), (93, .imul, 1, 94, 0, [], 0), (94, .i2l, 1, 95, 0, [], 0), (95, .ladd, 1, 96, 0, [], 0), (96, .iload 8, 2, 98, 0, [], 0), (98, .i2l, 1, 99, 0, [], 0)]),
  (113, [(99, .ladd, 1, 100, 0, [], 0), (100, .lstore 9, 2, 102, 0, [], 0), (102, .aload_n 0, 1, 103, 0, [], 0), (103, .getfield 57, 3, 106, 0, [], 0), (106, .iload_n 1, 1, 107, 0, [], 0), (107, .iaload, 1, 108, 0, [], 0), (108, .bipush (-4), 2, 110, 0, [], (-4)), (110, .if_icmp .ne 7, 3, 113, 117, [], 0), (113, .iconst 1, 1, 114, 0, [], 1)]),
  (128, [(114, .goto 42, 3, 117, 156, [], 0), (117, .aload_n 0, 1, 118, 0, [], 0), (118, .getfield 57, 3, 121, 0, [], 0), (121, .iload_n 1, 1, 122, 0, [], 0), (122, .iaload, 1, 123, 0, [], 0), (123, .iload_n 2, 1, 124, 0, [], 0), (124, .if_icmp .eq 7, 3, 127, 131, [], 0), (127, .iconst 3, 1, 128, 0, [], 3), (128, .goto 28, 3, 131, 156, [], 0)]),
  (145, [(131, .lload 9, 2, 133, 0, [], 0), (133, .lconst 0, 1, 134, 0, [], 0), (134, .lcmp, 1, 135, 0, [], 0), (135, .ifCond .lt 16, 3, 138, 151, [], 0), (138, .lload 9, 2, 140, 0, [], 0), (140, .aload_n 0, 1, 141, 0, [], 0), (141, .getfield 60, 3, 144, 0, [], 0), (144, .iload_n 1, 1, 145, 0, [], 0), (145, .iaload, 1, 146, 0, [], 0)]),
  (161, [(146, .i2l, 1, 147, 0, [], 0), (147, .lcmp, 1, 148, 0, [], 0), (148, .ifCond .lt 7, 3, 151, 155, [], 0), (151, .iconst 2, 1, 152, 0, [], 2), (152, .goto 4, 3, 155, 156, [], 0), (155, .iconst 0, 1, 156, 0, [], 0), (156, .istore 5, 2, 158, 0, [], 0), (158, .iinc 8 1, 3, 161, 0, [], 1), (161, .goto (-84), 3, 164, 77, [], 0)]),
  (176, [(164, .iload 5, 2, 166, 0, [], 0), (166, .ifCond .ne 87, 3, 169, 253, [], 0), (169, .bipush 40, 2, 171, 0, [], 40), (171, .iload_n 1, 1, 172, 0, [], 0), (172, .imul, 1, 173, 0, [], 0), (173, .iload_n 3, 1, 174, 0, [], 0), (174, .iadd, 1, 175, 0, [], 0), (175, .iconst 3, 1, 176, 0, [], 3), (176, .iload 7, 2, 178, 0, [], 0)]),
  (190, [(178, .imul, 1, 179, 0, [], 0), (179, .iadd, 1, 180, 0, [], 0), (180, .istore 8, 2, 182, 0, [], 0), (182, .aload_n 0, 1, 183, 0, [], 0), (183, .aload_n 0, 1, 184, 0, [], 0), (184, .getfield 63, 3, 187, 0, [], 0), (187, .iload 8, 2, 189, 0, [], 0), (189, .iaload, 1, 190, 0, [], 0), (190, .aload_n 0, 1, 191, 0, [], 0)]),
  (205, [(191, .getfield 63, 3, 194, 0, [], 0), (194, .iload 8, 2, 196, 0, [], 0), (196, .iconst 1, 1, 197, 0, [], 1), (197, .iadd, 1, 198, 0, [], 0), (198, .iaload, 1, 199, 0, [], 0), (199, .aload_n 0, 1, 200, 0, [], 0), (200, .getfield 63, 3, 203, 0, [], 0), (203, .iload 8, 2, 205, 0, [], 0), (205, .iconst 2, 1, 206, 0, [], 2)]),
  (221, [(206, .iadd, 1, 207, 0, [], 0), (207, .iaload, 1, 208, 0, [], 0), (208, .invokevirtual 274, 3, 211, 0, [], 0), (211, .ifCond .ge 39, 3, 214, 250, [], 0), (214, .iconst 0, 1, 215, 0, [], 0), (215, .istore 9, 2, 217, 0, [], 0), (217, .iload 9, 2, 219, 0, [], 0), (219, .bipush 101, 2, 221, 0, [], 101), (221, .if_icmp .ge 23, 3, 224, 244, [], 0)]),
  (238, [(224, .aload_n 0, 1, 225, 0, [], 0), (225, .getfield 7, 3, 228, 0, [], 0), (228, .iload 9, 2, 230, 0, [], 0), (230, .aload_n 0, 1, 231, 0, [], 0), (231, .getfield 66, 3, 234, 0, [], 0), (234, .iload 9, 2, 236, 0, [], 0), (236, .iaload, 1, 237, 0, [], 0), (237, .iastore, 1, 238, 0, [], 0), (238, .iinc 9 1, 3, 241, 0, [], 1)]),
  (259, [(241, .goto (-24), 3, 244, 217, [], 0), (244, .bipush (-20), 2, 246, 0, [], (-20)), (246, .iload 7, 2, 248, 0, [], 0), (248, .isub, 1, 249, 0, [], 0), (249, .ireturn, 1, 250, 0, [], 0), (250, .iinc 6 1, 3, 253, 0, [], 1), (253, .iinc 7 1, 3, 256, 0, [], 1), (256, .goto (-194), 3, 259, 62, [], 0), (259, .aload_n 0, 1, 260, 0, [], 0)]),
  (267, [(260, .iload 5, 2, 262, 0, [], 0), (262, .putfield 277, 3, 265, 0, [], 0), (265, .iload 6, 2, 267, 0, [], 0), (267, .ireturn, 1, 268, 0, [], 0)])]
set_option maxRecDepth 100000 in
theorem okX5_read : okT cX5_read tX5_read = true := by decide +kernel
def tX5_torn : List (Nat × List Et) := [(4, [(0, .aload_n 0, 1, 1, 0, [], 0), (1, .getfield 277, 3, 4, 0, [], 0), (4, .ireturn, 1, 5, 0, [], 0)])]
set_option maxRecDepth 100000 in
theorem okX5_torn : okT cX5_torn tX5_torn = true := by decide +kernel
def tX5_count : List (Nat × List Et) := [(50, [(0, .iload_n 1, 1, 1, 0, [], 0), (1, .tableswitch 174 0 5 #[39, 59, 64, 69, 92, 169], 39, 40, 175, [40, 60, 65, 70, 93, 170], 0), (40, .aload_n 0, 1, 41, 0, [], 0), (41, .getfield 16, 3, 44, 0, [], 0), (44, .iconst 0, 1, 45, 0, [], 0), (45, .baload, 1, 46, 0, [], 0), (46, .invokestatic 171, 3, 49, 0, [], 0), (49, .aload_n 0, 1, 50, 0, [], 0), (50, .getfield 16, 3, 53, 0, [], 0)]),
  (65, [(53, .iconst 1, 1, 54, 0, [], 1), (54, .baload, 1, 55, 0, [], 0), (55, .invokestatic 171, 3, 58, 0, [], 0), (58, .iadd, 1, 59, 0, [], 0), (59, .ireturn, 1, 60, 0, [], 0), (60, .aload_n 0, 1, 61, 0, [], 0), (61, .invokevirtual 280, 3, 64, 0, [], 0), (64, .ireturn, 1, 65, 0, [], 0), (65, .aload_n 0, 1, 66, 0, [], 0)]),
  (81, [(66, .getfield 75, 3, 69, 0, [], 0), (69, .ireturn, 1, 70, 0, [], 0), (70, .aload_n 0, 1, 71, 0, [], 0), (71, .getfield 57, 3, 74, 0, [], 0), (74, .iconst 0, 1, 75, 0, [], 0), (75, .iaload, 1, 76, 0, [], 0), (76, .bipush (-4), 2, 78, 0, [], (-4)), (78, .if_icmp .ne 8, 3, 81, 86, [], 0), (81, .bipush (-4), 2, 83, 0, [], (-4))]),
  (97, [(83, .goto 9, 3, 86, 92, [], 0), (86, .aload_n 0, 1, 87, 0, [], 0), (87, .getfield 60, 3, 90, 0, [], 0), (90, .iconst 0, 1, 91, 0, [], 0), (91, .iaload, 1, 92, 0, [], 0), (92, .ireturn, 1, 93, 0, [], 0), (93, .aload_n 0, 1, 94, 0, [], 0), (94, .getfield 7, 3, 97, 0, [], 0), (97, .iconst 0, 1, 98, 0, [], 0)]),
  (112, [(98, .iaload, 1, 99, 0, [], 0), (99, .aload_n 0, 1, 100, 0, [], 0), (100, .getfield 7, 3, 103, 0, [], 0), (103, .iconst 3, 1, 104, 0, [], 3), (104, .iaload, 1, 105, 0, [], 0), (105, .ifCond .le 7, 3, 108, 112, [], 0), (108, .iconst 1, 1, 109, 0, [], 1), (109, .goto 4, 3, 112, 113, [], 0), (112, .iconst 0, 1, 113, 0, [], 0)]),
  (127, [(113, .invokestatic 171, 3, 116, 0, [], 0), (116, .imul, 1, 117, 0, [], 0), (117, .aload_n 0, 1, 118, 0, [], 0), (118, .getfield 7, 3, 121, 0, [], 0), (121, .iconst 1, 1, 122, 0, [], 1), (122, .iaload, 1, 123, 0, [], 0), (123, .aload_n 0, 1, 124, 0, [], 0), (124, .getfield 7, 3, 127, 0, [], 0), (127, .iconst 3, 1, 128, 0, [], 3)]),
  (142, [(128, .iaload, 1, 129, 0, [], 0), (129, .iconst 1, 1, 130, 0, [], 1), (130, .if_icmp .le 7, 3, 133, 137, [], 0), (133, .iconst 1, 1, 134, 0, [], 1), (134, .goto 4, 3, 137, 138, [], 0), (137, .iconst 0, 1, 138, 0, [], 0), (138, .invokestatic 171, 3, 141, 0, [], 0), (141, .imul, 1, 142, 0, [], 0), (142, .iadd, 1, 143, 0, [], 0)]),
  (155, [(143, .aload_n 0, 1, 144, 0, [], 0), (144, .getfield 7, 3, 147, 0, [], 0), (147, .iconst 2, 1, 148, 0, [], 2), (148, .iaload, 1, 149, 0, [], 0), (149, .aload_n 0, 1, 150, 0, [], 0), (150, .getfield 7, 3, 153, 0, [], 0), (153, .iconst 3, 1, 154, 0, [], 3), (154, .iaload, 1, 155, 0, [], 0), (155, .iconst 2, 1, 156, 0, [], 2)]),
  (170, [(156, .if_icmp .le 7, 3, 159, 163, [], 0), (159, .iconst 1, 1, 160, 0, [], 1), (160, .goto 4, 3, 163, 164, [], 0), (163, .iconst 0, 1, 164, 0, [], 0), (164, .invokestatic 171, 3, 167, 0, [], 0), (167, .imul, 1, 168, 0, [], 0), (168, .iadd, 1, 169, 0, [], 0), (169, .ireturn, 1, 170, 0, [], 0), (170, .aload_n 0, 1, 171, 0, [], 0)]),
  (176, [(171, .invokevirtual 283, 3, 174, 0, [], 0), (174, .ireturn, 1, 175, 0, [], 0), (175, .iconst (-1), 1, 176, 0, [], (-1)), (176, .ireturn, 1, 177, 0, [], 0)])]
set_option maxRecDepth 100000 in
theorem okX5_count : okT cX5_count tX5_count = true := by decide +kernel
def tX5_plainArguments : List (Nat × List Et) := [(11, [(0, .iconst 0, 1, 1, 0, [], 0), (1, .istore_n 1, 1, 2, 0, [], 0), (2, .iconst 0, 1, 3, 0, [], 0), (3, .istore_n 2, 1, 4, 0, [], 0), (4, .iload_n 2, 1, 5, 0, [], 0), (5, .aload_n 0, 1, 6, 0, [], 0), (6, .getfield 7, 3, 9, 0, [], 0), (9, .bipush 100, 2, 11, 0, [], 100), (11, .iaload, 1, 12, 0, [], 0)]),
  (24, [(12, .if_icmp .ge 53, 3, 15, 65, [], 0), (15, .iconst 0, 1, 16, 0, [], 0), (16, .istore_n 3, 1, 17, 0, [], 0), (17, .iload_n 3, 1, 18, 0, [], 0), (18, .aload_n 0, 1, 19, 0, [], 0), (19, .getfield 7, 3, 22, 0, [], 0), (22, .aload_n 0, 1, 23, 0, [], 0), (23, .iload_n 2, 1, 24, 0, [], 0), (24, .iconst 1, 1, 25, 0, [], 1)]),
  (37, [(25, .invokevirtual 139, 3, 28, 0, [], 0), (28, .iaload, 1, 29, 0, [], 0), (29, .if_icmp .ge 30, 3, 32, 59, [], 0), (32, .iload_n 1, 1, 33, 0, [], 0), (33, .aload_n 0, 1, 34, 0, [], 0), (34, .iload_n 2, 1, 35, 0, [], 0), (35, .iload_n 3, 1, 36, 0, [], 0), (36, .iconst 0, 1, 37, 0, [], 0), (37, .invokevirtual 142, 3, 40, 0, [], 0)]),
  (56, [(40, .ifCond .ne 7, 3, 43, 47, [], 0), (43, .iconst 1, 1, 44, 0, [], 1), (44, .goto 4, 3, 47, 48, [], 0), (47, .iconst 0, 1, 48, 0, [], 0), (48, .invokestatic 171, 3, 51, 0, [], 0), (51, .iadd, 1, 52, 0, [], 0), (52, .istore_n 1, 1, 53, 0, [], 0), (53, .iinc 3 1, 3, 56, 0, [], 1), (56, .goto (-39), 3, 59, 17, [], 0)]),
  (66, [(59, .iinc 2 1, 3, 62, 0, [], 1), (62, .goto (-58), 3, 65, 4, [], 0), (65, .iload_n 1, 1, 66, 0, [], 0), (66, .ireturn, 1, 67, 0, [], 0)])]
set_option maxRecDepth 100000 in
theorem okX5_plainArguments : okT cX5_plainArguments tX5_plainArguments = true := by decide +kernel
def tX5_codesOfAll : List (Nat × List Et) := [(10, [(0, .aload_n 0, 1, 1, 0, [], 0), (1, .invokevirtual 192, 3, 4, 0, [], 0), (4, .iconst 0, 1, 5, 0, [], 0), (5, .istore_n 1, 1, 6, 0, [], 0), (6, .iconst 0, 1, 7, 0, [], 0), (7, .istore_n 2, 1, 8, 0, [], 0), (8, .iload_n 2, 1, 9, 0, [], 0), (9, .aload_n 0, 1, 10, 0, [], 0), (10, .getfield 158, 3, 13, 0, [], 0)]),
  (25, [(13, .if_icmp .ge 18, 3, 16, 31, [], 0), (16, .iload_n 1, 1, 17, 0, [], 0), (17, .aload_n 0, 1, 18, 0, [], 0), (18, .getfield 32, 3, 21, 0, [], 0), (21, .iload_n 2, 1, 22, 0, [], 0), (22, .iaload, 1, 23, 0, [], 0), (23, .iadd, 1, 24, 0, [], 0), (24, .istore_n 1, 1, 25, 0, [], 0), (25, .iinc 2 1, 3, 28, 0, [], 1)]),
  (32, [(28, .goto (-20), 3, 31, 8, [], 0), (31, .iload_n 1, 1, 32, 0, [], 0), (32, .ireturn, 1, 33, 0, [], 0)])]
set_option maxRecDepth 100000 in
theorem okX5_codesOfAll : okT cX5_codesOfAll tX5_codesOfAll = true := by decide +kernel
end
section
theorem inWS {w : Cond} (i : Nat) (h : lw_tbl[i]? = some w) (hg : goodWord w = true) : w ∈ WS := List.mem_filter.mpr ⟨List.mem_of_getElem? h, hg⟩
theorem inpX0 : wsX00 = [169, 171, 173, 175, 177, 179, 181, 183, 185, 187, 189].filterMap (fun i => lw_tbl[i]?) := by decide +kernel
theorem inX0 : ∀ w ∈ wsX00, w ∈ WS := fun w h => by
  rw [inpX0] at h
  obtain ⟨i, -, hi⟩ := List.mem_filterMap.mp h
  refine List.mem_filter.mpr ⟨List.mem_of_getElem? hi, ?_⟩
  have h2 : wsX00.all goodWord = true := by decide +kernel
  rw [inpX0] at h2
  exact List.all_eq_true.mp h2 w h
theorem inpX1 : wsX10 = [132, 134, 136, 138, 140, 142].filterMap (fun i => lw_tbl[i]?) := by decide +kernel
theorem inX1 : ∀ w ∈ wsX10, w ∈ WS := fun w h => by
  rw [inpX1] at h
  obtain ⟨i, -, hi⟩ := List.mem_filterMap.mp h
  refine List.mem_filter.mpr ⟨List.mem_of_getElem? hi, ?_⟩
  have h2 : wsX10.all goodWord = true := by decide +kernel
  rw [inpX1] at h2
  exact List.all_eq_true.mp h2 w h
theorem inpX2 : wsX20 = [206, 208, 210].filterMap (fun i => lw_tbl[i]?) := by decide +kernel
theorem inX2 : ∀ w ∈ wsX20, w ∈ WS := fun w h => by
  rw [inpX2] at h
  obtain ⟨i, -, hi⟩ := List.mem_filterMap.mp h
  refine List.mem_filter.mpr ⟨List.mem_of_getElem? hi, ?_⟩
  have h2 : wsX20.all goodWord = true := by decide +kernel
  rw [inpX2] at h2
  exact List.all_eq_true.mp h2 w h
theorem inpX3 : wsX30 = [95, 97, 99, 101, 103, 105].filterMap (fun i => lw_tbl[i]?) := by decide +kernel
theorem inX3 : ∀ w ∈ wsX30, w ∈ WS := fun w h => by
  rw [inpX3] at h
  obtain ⟨i, -, hi⟩ := List.mem_filterMap.mp h
  refine List.mem_filter.mpr ⟨List.mem_of_getElem? hi, ?_⟩
  have h2 : wsX30.all goodWord = true := by decide +kernel
  rw [inpX3] at h2
  exact List.all_eq_true.mp h2 w h
theorem inpX4 : wsX40 = [223, 225, 227, 229, 231, 233, 235, 237, 239].filterMap (fun i => lw_tbl[i]?) := by decide +kernel
theorem inX4 : ∀ w ∈ wsX40, w ∈ WS := fun w h => by
  rw [inpX4] at h
  obtain ⟨i, -, hi⟩ := List.mem_filterMap.mp h
  refine List.mem_filter.mpr ⟨List.mem_of_getElem? hi, ?_⟩
  have h2 : wsX40.all goodWord = true := by decide +kernel
  rw [inpX4] at h2
  exact List.all_eq_true.mp h2 w h
theorem inpX5 : wsX50 = [752, 754, 756, 758, 760, 762, 764, 766, 768, 770, 772, 774, 776, 778, 780, 782, 784, 786, 788, 790, 792, 794, 796, 798, 800, 802, 804, 806].filterMap (fun i => lw_tbl[i]?) := by decide +kernel
theorem inX5 : ∀ w ∈ wsX50, w ∈ WS := fun w h => by
  rw [inpX5] at h
  obtain ⟨i, -, hi⟩ := List.mem_filterMap.mp h
  refine List.mem_filter.mpr ⟨List.mem_of_getElem? hi, ?_⟩
  have h2 : wsX50.all goodWord = true := by decide +kernel
  rw [inpX5] at h2
  exact List.all_eq_true.mp h2 w h
def AllC {α : Type} (P : Nat → α → Prop) : List (Nat × α) → Prop
  | [] => True
  | e :: r => P e.1 e.2 ∧ AllC P r
theorem as2_all {α : Type} {P : Nat → α → Prop} : ∀ {l : List (Nat × α)}, AllC P l → ∀ {n : Nat} {v : α}, as2 l n = some v → P n v
  | [], _, _, _, h => by cases h
  | e :: r, h, n, v, hv => by
    unfold as2 at hv
    cases hb : Nat.beq e.1 n with
    | true =>
      rw [hb] at hv
      cases hv
      have := Nat.eq_of_beq_eq_true hb
      subst this
      exact h.1
    | false =>
      rw [hb] at hv
      exact as2_all h.2 hv
theorem flX0_11 : FldOK RX0 11 0 0 := ⟨RX0, TX0, 11, rfl, by decide, inWS 152 (by decide +kernel) rfl, inX0⟩
theorem flX0_15 : FldOK RX0 15 0 1 := ⟨RX0, TX0, 11, rfl, by decide, inWS 154 (by decide +kernel) rfl, inX0⟩
theorem flX0_18 : FldOK RX0 18 0 2 := ⟨RX0, TX0, 11, rfl, by decide, inWS 156 (by decide +kernel) rfl, inX0⟩
theorem flX0_21 : FldOK RX0 21 0 3 := ⟨RX0, TX0, 11, rfl, by decide, inWS 158 (by decide +kernel) rfl, inX0⟩
theorem flX0_24 : FldOK RX0 24 0 6 := ⟨RX0, TX0, 11, rfl, by decide, inWS 164 (by decide +kernel) rfl, inX0⟩
theorem flX0_27 : FldOK RX0 27 0 7 := ⟨RX0, TX0, 11, rfl, by decide, inWS 165 (by decide +kernel) rfl, inX0⟩
theorem flX0_30 : FldOK RX0 30 0 8 := ⟨RX0, TX0, 11, rfl, by decide, inWS 166 (by decide +kernel) rfl, inX0⟩
theorem flX0_33 : FldOK RX0 33 0 9 := ⟨RX0, TX0, 11, rfl, by decide, inWS 167 (by decide +kernel) rfl, inX0⟩
theorem flX0_36 : FldOK RX0 36 0 10 := ⟨RX0, TX0, 11, rfl, by decide, inWS 168 (by decide +kernel) rfl, inX0⟩
theorem flX0_45 : FldOK RX0 45 1 5 := ⟨RX1, TX1, 6, rfl, by decide, inWS 130 (by decide +kernel) rfl, inX1⟩
theorem flX0_51 : FldOK RX0 51 1 1 := ⟨RX1, TX1, 6, rfl, by decide, inWS 119 (by decide +kernel) rfl, inX1⟩
theorem flX0_54 : FldOK RX0 54 1 2 := ⟨RX1, TX1, 6, rfl, by decide, inWS 122 (by decide +kernel) rfl, inX1⟩
theorem flX0_65 : FldOK RX0 65 0 4 := ⟨RX0, TX0, 11, rfl, by decide, inWS 160 (by decide +kernel) rfl, inX0⟩
theorem flX0_68 : FldOK RX0 68 0 5 := ⟨RX0, TX0, 11, rfl, by decide, inWS 162 (by decide +kernel) rfl, inX0⟩
def fdX0 : List (Nat × Nat × Nat) := [(11, 0, 0), (15, 0, 1), (18, 0, 2), (21, 0, 3), (24, 0, 6), (27, 0, 7), (30, 0, 8), (33, 0, 9), (36, 0, 10), (45, 1, 5), (51, 1, 1), (54, 1, 2), (65, 0, 4), (68, 0, 5)]
theorem fdX0_ok : ∀ idx t k, as2 fdX0 idx = some (t, k) → FldOK RX0 idx t k := fun _ _ _ h => as2_all (P := fun i v => FldOK RX0 i v.1 v.2) (l := fdX0) ⟨flX0_11, flX0_15, flX0_18, flX0_21, flX0_24, flX0_27, flX0_30, flX0_33, flX0_36, flX0_45, flX0_51, flX0_54, flX0_65, flX0_68, trivial⟩ h
theorem flX1_15 : FldOK RX1 15 1 1 := ⟨RX1, TX1, 6, rfl, by decide, inWS 118 (by decide +kernel) rfl, inX1⟩
theorem flX1_18 : FldOK RX1 18 1 2 := ⟨RX1, TX1, 6, rfl, by decide, inWS 121 (by decide +kernel) rfl, inX1⟩
theorem flX1_21 : FldOK RX1 21 1 3 := ⟨RX1, TX1, 6, rfl, by decide, inWS 124 (by decide +kernel) rfl, inX1⟩
theorem flX1_24 : FldOK RX1 24 1 4 := ⟨RX1, TX1, 6, rfl, by decide, inWS 125 (by decide +kernel) rfl, inX1⟩
theorem flX1_28 : FldOK RX1 28 1 5 := ⟨RX1, TX1, 6, rfl, by decide, inWS 128 (by decide +kernel) rfl, inX1⟩
theorem flX1_9 : FldOK RX1 9 1 0 := ⟨RX1, TX1, 6, rfl, by decide, inWS 115 (by decide +kernel) rfl, inX1⟩
def fdX1 : List (Nat × Nat × Nat) := [(15, 1, 1), (18, 1, 2), (21, 1, 3), (24, 1, 4), (28, 1, 5), (9, 1, 0)]
theorem fdX1_ok : ∀ idx t k, as2 fdX1 idx = some (t, k) → FldOK RX1 idx t k := fun _ _ _ h => as2_all (P := fun i v => FldOK RX1 i v.1 v.2) (l := fdX1) ⟨flX1_15, flX1_18, flX1_21, flX1_24, flX1_28, flX1_9, trivial⟩ h
theorem flX2_15 : FldOK RX2 15 2 1 := ⟨RX2, TX2, 3, rfl, by decide, inWS 202 (by decide +kernel) rfl, inX2⟩
theorem flX2_19 : FldOK RX2 19 2 2 := ⟨RX2, TX2, 3, rfl, by decide, inWS 204 (by decide +kernel) rfl, inX2⟩
theorem flX2_9 : FldOK RX2 9 2 0 := ⟨RX2, TX2, 3, rfl, by decide, inWS 200 (by decide +kernel) rfl, inX2⟩
def fdX2 : List (Nat × Nat × Nat) := [(15, 2, 1), (19, 2, 2), (9, 2, 0)]
theorem fdX2_ok : ∀ idx t k, as2 fdX2 idx = some (t, k) → FldOK RX2 idx t k := fun _ _ _ h => as2_all (P := fun i v => FldOK RX2 i v.1 v.2) (l := fdX2) ⟨flX2_15, flX2_19, flX2_9, trivial⟩ h
theorem flX3_104 : FldOK RX3 104 3 3 := ⟨RX3, TX3, 6, rfl, by decide, inWS 92 (by decide +kernel) rfl, inX3⟩
theorem flX3_116 : FldOK RX3 116 3 1 := ⟨RX3, TX3, 6, rfl, by decide, inWS 88 (by decide +kernel) rfl, inX3⟩
theorem flX3_15 : FldOK RX3 15 3 2 := ⟨RX3, TX3, 6, rfl, by decide, inWS 89 (by decide +kernel) rfl, inX3⟩
theorem flX3_19 : FldOK RX3 19 3 4 := ⟨RX3, TX3, 6, rfl, by decide, inWS 93 (by decide +kernel) rfl, inX3⟩
theorem flX3_25 : FldOK RX3 25 3 5 := ⟨RX3, TX3, 6, rfl, by decide, inWS 94 (by decide +kernel) rfl, inX3⟩
theorem flX3_47 : FldOK RX3 47 1 4 := ⟨RX1, TX1, 6, rfl, by decide, inWS 126 (by decide +kernel) rfl, inX1⟩
theorem flX3_62 : FldOK RX3 62 1 5 := ⟨RX1, TX1, 6, rfl, by decide, inWS 129 (by decide +kernel) rfl, inX1⟩
theorem flX3_69 : FldOK RX3 69 1 0 := ⟨RX1, TX1, 6, rfl, by decide, inWS 116 (by decide +kernel) rfl, inX1⟩
theorem flX3_9 : FldOK RX3 9 3 0 := ⟨RX3, TX3, 6, rfl, by decide, inWS 85 (by decide +kernel) rfl, inX3⟩
def fdX3 : List (Nat × Nat × Nat) := [(104, 3, 3), (116, 3, 1), (15, 3, 2), (19, 3, 4), (25, 3, 5), (47, 1, 4), (62, 1, 5), (69, 1, 0), (9, 3, 0)]
theorem fdX3_ok : ∀ idx t k, as2 fdX3 idx = some (t, k) → FldOK RX3 idx t k := fun _ _ _ h => as2_all (P := fun i v => FldOK RX3 i v.1 v.2) (l := fdX3) ⟨flX3_104, flX3_116, flX3_15, flX3_19, flX3_25, flX3_47, flX3_62, flX3_69, flX3_9, trivial⟩ h
theorem flX4_10 : FldOK RX4 10 4 0 := ⟨RX4, TX4, 9, rfl, by decide, inWS 214 (by decide +kernel) rfl, inX4⟩
theorem flX4_112 : FldOK RX4 112 1 0 := ⟨RX1, TX1, 6, rfl, by decide, inWS 117 (by decide +kernel) rfl, inX1⟩
theorem flX4_125 : FldOK RX4 125 0 3 := ⟨RX0, TX0, 11, rfl, by decide, inWS 159 (by decide +kernel) rfl, inX0⟩
theorem flX4_131 : FldOK RX4 131 1 1 := ⟨RX1, TX1, 6, rfl, by decide, inWS 120 (by decide +kernel) rfl, inX1⟩
theorem flX4_134 : FldOK RX4 134 1 2 := ⟨RX1, TX1, 6, rfl, by decide, inWS 123 (by decide +kernel) rfl, inX1⟩
theorem flX4_143 : FldOK RX4 143 0 2 := ⟨RX0, TX0, 11, rfl, by decide, inWS 157 (by decide +kernel) rfl, inX0⟩
theorem flX4_172 : FldOK RX4 172 0 0 := ⟨RX0, TX0, 11, rfl, by decide, inWS 153 (by decide +kernel) rfl, inX0⟩
theorem flX4_175 : FldOK RX4 175 0 1 := ⟨RX0, TX0, 11, rfl, by decide, inWS 155 (by decide +kernel) rfl, inX0⟩
theorem flX4_19 : FldOK RX4 19 4 1 := ⟨RX4, TX4, 9, rfl, by decide, inWS 215 (by decide +kernel) rfl, inX4⟩
theorem flX4_23 : FldOK RX4 23 4 2 := ⟨RX4, TX4, 9, rfl, by decide, inWS 216 (by decide +kernel) rfl, inX4⟩
theorem flX4_257 : FldOK RX4 257 2 1 := ⟨RX2, TX2, 3, rfl, by decide, inWS 203 (by decide +kernel) rfl, inX2⟩
theorem flX4_266 : FldOK RX4 266 2 0 := ⟨RX2, TX2, 3, rfl, by decide, inWS 201 (by decide +kernel) rfl, inX2⟩
theorem flX4_269 : FldOK RX4 269 4 8 := ⟨RX4, TX4, 9, rfl, by decide, inWS 222 (by decide +kernel) rfl, inX4⟩
theorem flX4_275 : FldOK RX4 275 2 2 := ⟨RX2, TX2, 3, rfl, by decide, inWS 205 (by decide +kernel) rfl, inX2⟩
theorem flX4_29 : FldOK RX4 29 4 3 := ⟨RX4, TX4, 9, rfl, by decide, inWS 217 (by decide +kernel) rfl, inX4⟩
theorem flX4_33 : FldOK RX4 33 4 4 := ⟨RX4, TX4, 9, rfl, by decide, inWS 218 (by decide +kernel) rfl, inX4⟩
theorem flX4_37 : FldOK RX4 37 4 5 := ⟨RX4, TX4, 9, rfl, by decide, inWS 219 (by decide +kernel) rfl, inX4⟩
theorem flX4_43 : FldOK RX4 43 4 6 := ⟨RX4, TX4, 9, rfl, by decide, inWS 220 (by decide +kernel) rfl, inX4⟩
theorem flX4_47 : FldOK RX4 47 4 7 := ⟨RX4, TX4, 9, rfl, by decide, inWS 221 (by decide +kernel) rfl, inX4⟩
theorem flX4_52 : FldOK RX4 52 3 1 := ⟨RX3, TX3, 6, rfl, by decide, inWS 87 (by decide +kernel) rfl, inX3⟩
theorem flX4_56 : FldOK RX4 56 3 0 := ⟨RX3, TX3, 6, rfl, by decide, inWS 86 (by decide +kernel) rfl, inX3⟩
theorem flX4_67 : FldOK RX4 67 3 2 := ⟨RX3, TX3, 6, rfl, by decide, inWS 90 (by decide +kernel) rfl, inX3⟩
theorem flX4_70 : FldOK RX4 70 3 3 := ⟨RX3, TX3, 6, rfl, by decide, inWS 91 (by decide +kernel) rfl, inX3⟩
theorem flX4_77 : FldOK RX4 77 1 4 := ⟨RX1, TX1, 6, rfl, by decide, inWS 127 (by decide +kernel) rfl, inX1⟩
theorem flX4_80 : FldOK RX4 80 1 5 := ⟨RX1, TX1, 6, rfl, by decide, inWS 131 (by decide +kernel) rfl, inX1⟩
theorem flX4_87 : FldOK RX4 87 0 4 := ⟨RX0, TX0, 11, rfl, by decide, inWS 161 (by decide +kernel) rfl, inX0⟩
theorem flX4_94 : FldOK RX4 94 0 5 := ⟨RX0, TX0, 11, rfl, by decide, inWS 163 (by decide +kernel) rfl, inX0⟩
def fdX4 : List (Nat × Nat × Nat) := [(10, 4, 0), (112, 1, 0), (125, 0, 3), (131, 1, 1), (134, 1, 2), (143, 0, 2), (172, 0, 0), (175, 0, 1), (19, 4, 1), (23, 4, 2), (257, 2, 1), (266, 2, 0), (269, 4, 8), (275, 2, 2), (29, 4, 3), (33, 4, 4), (37, 4, 5), (43, 4, 6), (47, 4, 7), (52, 3, 1), (56, 3, 0), (67, 3, 2), (70, 3, 3), (77, 1, 4), (80, 1, 5), (87, 0, 4), (94, 0, 5)]
theorem fdX4_ok : ∀ idx t k, as2 fdX4 idx = some (t, k) → FldOK RX4 idx t k := fun _ _ _ h => as2_all (P := fun i v => FldOK RX4 i v.1 v.2) (l := fdX4) ⟨flX4_10, flX4_112, flX4_125, flX4_131, flX4_134, flX4_143, flX4_172, flX4_175, flX4_19, flX4_23, flX4_257, flX4_266, flX4_269, flX4_275, flX4_29, flX4_33, flX4_37, flX4_43, flX4_47, flX4_52, flX4_56, flX4_67, flX4_70, flX4_77, flX4_80, flX4_87, flX4_94, trivial⟩ h
theorem flX5_105 : FldOK RX5 105 5 9 := ⟨RX5, TX5, 28, rfl, by decide, inWS 733 (by decide +kernel) rfl, inX5⟩
theorem flX5_13 : FldOK RX5 13 5 1 := ⟨RX5, TX5, 28, rfl, by decide, inWS 725 (by decide +kernel) rfl, inX5⟩
theorem flX5_158 : FldOK RX5 158 5 18 := ⟨RX5, TX5, 28, rfl, by decide, inWS 742 (by decide +kernel) rfl, inX5⟩
theorem flX5_16 : FldOK RX5 16 5 2 := ⟨RX5, TX5, 28, rfl, by decide, inWS 726 (by decide +kernel) rfl, inX5⟩
theorem flX5_20 : FldOK RX5 20 5 3 := ⟨RX5, TX5, 28, rfl, by decide, inWS 727 (by decide +kernel) rfl, inX5⟩
theorem flX5_23 : FldOK RX5 23 5 4 := ⟨RX5, TX5, 28, rfl, by decide, inWS 728 (by decide +kernel) rfl, inX5⟩
theorem flX5_26 : FldOK RX5 26 5 12 := ⟨RX5, TX5, 28, rfl, by decide, inWS 736 (by decide +kernel) rfl, inX5⟩
theorem flX5_277 : FldOK RX5 277 5 26 := ⟨RX5, TX5, 28, rfl, by decide, inWS 750 (by decide +kernel) rfl, inX5⟩
theorem flX5_29 : FldOK RX5 29 5 13 := ⟨RX5, TX5, 28, rfl, by decide, inWS 737 (by decide +kernel) rfl, inX5⟩
theorem flX5_32 : FldOK RX5 32 5 14 := ⟨RX5, TX5, 28, rfl, by decide, inWS 738 (by decide +kernel) rfl, inX5⟩
theorem flX5_35 : FldOK RX5 35 5 15 := ⟨RX5, TX5, 28, rfl, by decide, inWS 739 (by decide +kernel) rfl, inX5⟩
theorem flX5_38 : FldOK RX5 38 5 16 := ⟨RX5, TX5, 28, rfl, by decide, inWS 740 (by decide +kernel) rfl, inX5⟩
theorem flX5_41 : FldOK RX5 41 5 17 := ⟨RX5, TX5, 28, rfl, by decide, inWS 741 (by decide +kernel) rfl, inX5⟩
theorem flX5_44 : FldOK RX5 44 5 19 := ⟨RX5, TX5, 28, rfl, by decide, inWS 743 (by decide +kernel) rfl, inX5⟩
theorem flX5_47 : FldOK RX5 47 5 20 := ⟨RX5, TX5, 28, rfl, by decide, inWS 744 (by decide +kernel) rfl, inX5⟩
theorem flX5_51 : FldOK RX5 51 5 21 := ⟨RX5, TX5, 28, rfl, by decide, inWS 745 (by decide +kernel) rfl, inX5⟩
theorem flX5_54 : FldOK RX5 54 5 22 := ⟨RX5, TX5, 28, rfl, by decide, inWS 746 (by decide +kernel) rfl, inX5⟩
theorem flX5_57 : FldOK RX5 57 5 23 := ⟨RX5, TX5, 28, rfl, by decide, inWS 747 (by decide +kernel) rfl, inX5⟩
theorem flX5_60 : FldOK RX5 60 5 24 := ⟨RX5, TX5, 28, rfl, by decide, inWS 748 (by decide +kernel) rfl, inX5⟩
theorem flX5_63 : FldOK RX5 63 5 25 := ⟨RX5, TX5, 28, rfl, by decide, inWS 749 (by decide +kernel) rfl, inX5⟩
theorem flX5_66 : FldOK RX5 66 5 27 := ⟨RX5, TX5, 28, rfl, by decide, inWS 751 (by decide +kernel) rfl, inX5⟩
theorem flX5_7 : FldOK RX5 7 5 0 := ⟨RX5, TX5, 28, rfl, by decide, inWS 724 (by decide +kernel) rfl, inX5⟩
theorem flX5_75 : FldOK RX5 75 5 5 := ⟨RX5, TX5, 28, rfl, by decide, inWS 729 (by decide +kernel) rfl, inX5⟩
theorem flX5_78 : FldOK RX5 78 5 10 := ⟨RX5, TX5, 28, rfl, by decide, inWS 734 (by decide +kernel) rfl, inX5⟩
theorem flX5_81 : FldOK RX5 81 5 7 := ⟨RX5, TX5, 28, rfl, by decide, inWS 731 (by decide +kernel) rfl, inX5⟩
theorem flX5_84 : FldOK RX5 84 5 11 := ⟨RX5, TX5, 28, rfl, by decide, inWS 735 (by decide +kernel) rfl, inX5⟩
theorem flX5_87 : FldOK RX5 87 5 8 := ⟨RX5, TX5, 28, rfl, by decide, inWS 732 (by decide +kernel) rfl, inX5⟩
theorem flX5_90 : FldOK RX5 90 5 6 := ⟨RX5, TX5, 28, rfl, by decide, inWS 730 (by decide +kernel) rfl, inX5⟩
def fdX5 : List (Nat × Nat × Nat) := [(105, 5, 9), (13, 5, 1), (158, 5, 18), (16, 5, 2), (20, 5, 3), (23, 5, 4), (26, 5, 12), (277, 5, 26), (29, 5, 13), (32, 5, 14), (35, 5, 15), (38, 5, 16), (41, 5, 17), (44, 5, 19), (47, 5, 20), (51, 5, 21), (54, 5, 22), (57, 5, 23), (60, 5, 24), (63, 5, 25), (66, 5, 27), (7, 5, 0), (75, 5, 5), (78, 5, 10), (81, 5, 7), (84, 5, 11), (87, 5, 8), (90, 5, 6)]
theorem fdX5_ok : ∀ idx t k, as2 fdX5 idx = some (t, k) → FldOK RX5 idx t k := fun _ _ _ h => as2_all (P := fun i v => FldOK RX5 i v.1 v.2) (l := fdX5) ⟨flX5_105, flX5_13, flX5_158, flX5_16, flX5_20, flX5_23, flX5_26, flX5_277, flX5_29, flX5_32, flX5_35, flX5_38, flX5_41, flX5_44, flX5_47, flX5_51, flX5_54, flX5_57, flX5_60, flX5_63, flX5_66, flX5_7, flX5_75, flX5_78, flX5_81, flX5_84, flX5_87, flX5_90, trivial⟩ h
theorem kX4_feed : LnkOK yX4_feed cX4_feed 2 (some .int) 1 := ⟨inWS 245 (by decide +kernel) rfl, inWS 58 (by decide +kernel) rfl, by decide +kernel, by decide +kernel⟩
theorem qX4_feed : Cond.instanceMethod yX4_feed ∈ WS ∧ Cond.selects RX4 yX4_feed yX4_feed ∈ WS := ⟨inWS 243 (by decide +kernel) rfl, inWS 244 (by decide +kernel) rfl⟩
theorem kX4_end : LnkOK yX4_end cX4_end 3 (some .int) 1 := ⟨inWS 249 (by decide +kernel) rfl, inWS 58 (by decide +kernel) rfl, by decide +kernel, by decide +kernel⟩
theorem qX4_end : Cond.instanceMethod yX4_end ∈ WS ∧ Cond.selects RX4 yX4_end yX4_end ∈ WS := ⟨inWS 247 (by decide +kernel) rfl, inWS 248 (by decide +kernel) rfl⟩
theorem kX4_text : LnkOK yX4_text cX4_text 3 (some .int) 0 := ⟨inWS 253 (by decide +kernel) rfl, inWS 58 (by decide +kernel) rfl, by decide +kernel, by decide +kernel⟩
theorem qX4_text : Cond.instanceMethod yX4_text ∈ WS ∧ Cond.selects RX4 yX4_text yX4_text ∈ WS := ⟨inWS 251 (by decide +kernel) rfl, inWS 252 (by decide +kernel) rfl⟩
theorem kX1_clear : LnkOK yX1_clear cX1_clear 1 none 0 := ⟨inWS 257 (by decide +kernel) rfl, inWS 60 (by decide +kernel) rfl, by decide +kernel, by decide +kernel⟩
theorem qX1_clear : Cond.instanceMethod yX1_clear ∈ WS ∧ Cond.selects RX1 yX1_clear yX1_clear ∈ WS := ⟨inWS 255 (by decide +kernel) rfl, inWS 256 (by decide +kernel) rfl⟩
theorem kX3_tell : LnkOK yX3_tell cX3_tell 3 (some .int) 1 := ⟨inWS 261 (by decide +kernel) rfl, inWS 59 (by decide +kernel) rfl, by decide +kernel, by decide +kernel⟩
theorem qX3_tell : Cond.instanceMethod yX3_tell ∈ WS ∧ Cond.selects RX3 yX3_tell yX3_tell ∈ WS := ⟨inWS 259 (by decide +kernel) rfl, inWS 260 (by decide +kernel) rfl⟩
theorem kX3_step : LnkOK yX3_step cX3_step 1 none 0 := ⟨inWS 265 (by decide +kernel) rfl, inWS 59 (by decide +kernel) rfl, by decide +kernel, by decide +kernel⟩
theorem qX3_step : Cond.instanceMethod yX3_step ∈ WS ∧ Cond.selects RX3 yX3_step yX3_step ∈ WS := ⟨inWS 264 (by decide +kernel) rfl, inWS 0 (by decide +kernel) rfl⟩
theorem kX3_tokenOf : LnkOK yX3_tokenOf cX3_tokenOf 1 (some .int) 1 := ⟨inWS 268 (by decide +kernel) rfl, inWS 59 (by decide +kernel) rfl, by decide +kernel, by decide +kernel⟩
theorem qX3_tokenOf : Cond.static yX3_tokenOf ∈ WS := inWS 267 (by decide +kernel) rfl
theorem kX3_refuse : LnkOK yX3_refuse cX3_refuse 2 none 1 := ⟨inWS 272 (by decide +kernel) rfl, inWS 59 (by decide +kernel) rfl, by decide +kernel, by decide +kernel⟩
theorem qX3_refuse : Cond.instanceMethod yX3_refuse ∈ WS ∧ Cond.selects RX3 yX3_refuse yX3_refuse ∈ WS := ⟨inWS 271 (by decide +kernel) rfl, inWS 1 (by decide +kernel) rfl⟩
theorem kX3_isName : LnkOK yX3_isName cX3_isName 3 (some .boolean) 1 := ⟨inWS 277 (by decide +kernel) rfl, inWS 59 (by decide +kernel) rfl, by decide +kernel, by decide +kernel⟩
theorem qX3_isName : Cond.instanceMethod yX3_isName ∈ WS ∧ Cond.selects RX3 yX3_isName yX3_isName ∈ WS := ⟨inWS 276 (by decide +kernel) rfl, inWS 2 (by decide +kernel) rfl⟩
theorem kX3_tellFunction : LnkOK yX3_tellFunction cX3_tellFunction 3 none 1 := ⟨inWS 329 (by decide +kernel) rfl, inWS 59 (by decide +kernel) rfl, by decide +kernel, by decide +kernel⟩
theorem qX3_tellFunction : Cond.instanceMethod yX3_tellFunction ∈ WS ∧ Cond.selects RX3 yX3_tellFunction yX3_tellFunction ∈ WS := ⟨inWS 328 (by decide +kernel) rfl, inWS 3 (by decide +kernel) rfl⟩
theorem kX3_takeNumber : LnkOK yX3_takeNumber cX3_takeNumber 4 (some .int) 2 := ⟨inWS 333 (by decide +kernel) rfl, inWS 59 (by decide +kernel) rfl, by decide +kernel, by decide +kernel⟩
theorem qX3_takeNumber : Cond.instanceMethod yX3_takeNumber ∈ WS ∧ Cond.selects RX3 yX3_takeNumber yX3_takeNumber ∈ WS := ⟨inWS 332 (by decide +kernel) rfl, inWS 4 (by decide +kernel) rfl⟩
theorem kX3_numberRead : LnkOK yX3_numberRead cX3_numberRead 3 (some .int) 0 := ⟨inWS 337 (by decide +kernel) rfl, inWS 59 (by decide +kernel) rfl, by decide +kernel, by decide +kernel⟩
theorem qX3_numberRead : Cond.instanceMethod yX3_numberRead ∈ WS ∧ Cond.selects RX3 yX3_numberRead yX3_numberRead ∈ WS := ⟨inWS 336 (by decide +kernel) rfl, inWS 5 (by decide +kernel) rfl⟩
theorem kX3_takeLineEnd : LnkOK yX3_takeLineEnd cX3_takeLineEnd 1 none 0 := ⟨inWS 341 (by decide +kernel) rfl, inWS 59 (by decide +kernel) rfl, by decide +kernel, by decide +kernel⟩
theorem qX3_takeLineEnd : Cond.instanceMethod yX3_takeLineEnd ∈ WS ∧ Cond.selects RX3 yX3_takeLineEnd yX3_takeLineEnd ∈ WS := ⟨inWS 340 (by decide +kernel) rfl, inWS 6 (by decide +kernel) rfl⟩
theorem kX3_isSign : LnkOK yX3_isSign cX3_isSign 2 (some .boolean) 1 := ⟨inWS 345 (by decide +kernel) rfl, inWS 59 (by decide +kernel) rfl, by decide +kernel, by decide +kernel⟩
theorem qX3_isSign : Cond.instanceMethod yX3_isSign ∈ WS ∧ Cond.selects RX3 yX3_isSign yX3_isSign ∈ WS := ⟨inWS 344 (by decide +kernel) rfl, inWS 7 (by decide +kernel) rfl⟩
theorem kX1_appendFunction : LnkOK yX1_appendFunction cX1_appendFunction 2 none 1 := ⟨inWS 349 (by decide +kernel) rfl, inWS 60 (by decide +kernel) rfl, by decide +kernel, by decide +kernel⟩
theorem qX1_appendFunction : Cond.instanceMethod yX1_appendFunction ∈ WS ∧ Cond.selects RX1 yX1_appendFunction yX1_appendFunction ∈ WS := ⟨inWS 347 (by decide +kernel) rfl, inWS 348 (by decide +kernel) rfl⟩
theorem kX3_tellCall : LnkOK yX3_tellCall cX3_tellCall 6 none 1 := ⟨inWS 354 (by decide +kernel) rfl, inWS 59 (by decide +kernel) rfl, by decide +kernel, by decide +kernel⟩
theorem qX3_tellCall : Cond.instanceMethod yX3_tellCall ∈ WS ∧ Cond.selects RX3 yX3_tellCall yX3_tellCall ∈ WS := ⟨inWS 353 (by decide +kernel) rfl, inWS 8 (by decide +kernel) rfl⟩
theorem kX1_appendCall : LnkOK yX1_appendCall cX1_appendCall 3 none 2 := ⟨inWS 358 (by decide +kernel) rfl, inWS 60 (by decide +kernel) rfl, by decide +kernel, by decide +kernel⟩
theorem qX1_appendCall : Cond.instanceMethod yX1_appendCall ∈ WS ∧ Cond.selects RX1 yX1_appendCall yX1_appendCall ∈ WS := ⟨inWS 356 (by decide +kernel) rfl, inWS 357 (by decide +kernel) rfl⟩
theorem kX1_putArgument : LnkOK yX1_putArgument cX1_putArgument 4 none 3 := ⟨inWS 362 (by decide +kernel) rfl, inWS 60 (by decide +kernel) rfl, by decide +kernel, by decide +kernel⟩
theorem qX1_putArgument : Cond.instanceMethod yX1_putArgument ∈ WS ∧ Cond.selects RX1 yX1_putArgument yX1_putArgument ∈ WS := ⟨inWS 360 (by decide +kernel) rfl, inWS 361 (by decide +kernel) rfl⟩
theorem kX3_takeArgument : LnkOK yX3_takeArgument cX3_takeArgument 3 (some .int) 1 := ⟨inWS 366 (by decide +kernel) rfl, inWS 59 (by decide +kernel) rfl, by decide +kernel, by decide +kernel⟩
theorem qX3_takeArgument : Cond.instanceMethod yX3_takeArgument ∈ WS ∧ Cond.selects RX3 yX3_takeArgument yX3_takeArgument ∈ WS := ⟨inWS 365 (by decide +kernel) rfl, inWS 9 (by decide +kernel) rfl⟩
theorem kX4_argumentOf : LnkOK yX4_argumentOf cX4_argumentOf 3 (some .int) 3 := ⟨inWS 369 (by decide +kernel) rfl, inWS 58 (by decide +kernel) rfl, by decide +kernel, by decide +kernel⟩
theorem qX4_argumentOf : Cond.static yX4_argumentOf ∈ WS := inWS 368 (by decide +kernel) rfl
theorem kX3_takeValue : LnkOK yX3_takeValue cX3_takeValue 3 (some .int) 1 := ⟨inWS 373 (by decide +kernel) rfl, inWS 59 (by decide +kernel) rfl, by decide +kernel, by decide +kernel⟩
theorem qX3_takeValue : Cond.instanceMethod yX3_takeValue ∈ WS ∧ Cond.selects RX3 yX3_takeValue yX3_takeValue ∈ WS := ⟨inWS 372 (by decide +kernel) rfl, inWS 10 (by decide +kernel) rfl⟩
theorem kX4_bit : LnkOK yX4_bit cX4_bit 1 (some .int) 1 := ⟨inWS 378 (by decide +kernel) rfl, inWS 58 (by decide +kernel) rfl, by decide +kernel, by decide +kernel⟩
theorem qX4_bit : Cond.static yX4_bit ∈ WS := inWS 377 (by decide +kernel) rfl
theorem kX1_copy : LnkOK yX1_copy cX1_copy 2 none 1 := ⟨inWS 383 (by decide +kernel) rfl, inWS 60 (by decide +kernel) rfl, by decide +kernel, by decide +kernel⟩
theorem qX1_copy : Cond.instanceMethod yX1_copy ∈ WS ∧ Cond.selects RX1 yX1_copy yX1_copy ∈ WS := ⟨inWS 381 (by decide +kernel) rfl, inWS 382 (by decide +kernel) rfl⟩
theorem kX4_fault : LnkOK yX4_fault cX4_fault 1 (some .int) 0 := ⟨inWS 390 (by decide +kernel) rfl, inWS 58 (by decide +kernel) rfl, by decide +kernel, by decide +kernel⟩
theorem qX4_fault : Cond.instanceMethod yX4_fault ∈ WS ∧ Cond.selects RX4 yX4_fault yX4_fault ∈ WS := ⟨inWS 388 (by decide +kernel) rfl, inWS 389 (by decide +kernel) rfl⟩
theorem kX4_rule : LnkOK yX4_rule cX4_rule 2 (some .int) 1 := ⟨inWS 394 (by decide +kernel) rfl, inWS 58 (by decide +kernel) rfl, by decide +kernel, by decide +kernel⟩
theorem qX4_rule : Cond.instanceMethod yX4_rule ∈ WS ∧ Cond.selects RX4 yX4_rule yX4_rule ∈ WS := ⟨inWS 392 (by decide +kernel) rfl, inWS 393 (by decide +kernel) rfl⟩
theorem kX4_fresh : LnkOK yX4_fresh cX4_fresh 1 (some (.object "FallingCalls$Graphs")) 0 := ⟨inWS 398 (by decide +kernel) rfl, inWS 58 (by decide +kernel) rfl, by decide +kernel, by decide +kernel⟩
theorem qX4_fresh : Cond.instanceMethod yX4_fresh ∈ WS ∧ Cond.selects RX4 yX4_fresh yX4_fresh ∈ WS := ⟨inWS 397 (by decide +kernel) rfl, inWS 11 (by decide +kernel) rfl⟩
theorem kX0_close : LnkOK yX0_close cX0_close 6 none 2 := ⟨inWS 402 (by decide +kernel) rfl, inWS 61 (by decide +kernel) rfl, by decide +kernel, by decide +kernel⟩
theorem qX0_close : Cond.instanceMethod yX0_close ∈ WS ∧ Cond.selects RX0 yX0_close yX0_close ∈ WS := ⟨inWS 400 (by decide +kernel) rfl, inWS 401 (by decide +kernel) rfl⟩
theorem kX0_forget : LnkOK yX0_forget cX0_forget 1 none 0 := ⟨inWS 406 (by decide +kernel) rfl, inWS 61 (by decide +kernel) rfl, by decide +kernel, by decide +kernel⟩
theorem qX0_forget : Cond.instanceMethod yX0_forget ∈ WS ∧ Cond.selects RX0 yX0_forget yX0_forget ∈ WS := ⟨inWS 405 (by decide +kernel) rfl, inWS 12 (by decide +kernel) rfl⟩
theorem kJ7_fill_53178 : LnkOK yJ7_fill_53178 cJ7_fill_53178 4 none 2 := ⟨inWS 409 (by decide +kernel) rfl, inWS 69 (by decide +kernel) rfl, by decide +kernel, by decide +kernel⟩
theorem qJ7_fill_53178 : Cond.static yJ7_fill_53178 ∈ WS := inWS 408 (by decide +kernel) rfl
theorem kX1_bitsOf : LnkOK yX1_bitsOf cX1_bitsOf 6 (some .int) 1 := ⟨inWS 413 (by decide +kernel) rfl, inWS 60 (by decide +kernel) rfl, by decide +kernel, by decide +kernel⟩
theorem qX1_bitsOf : Cond.instanceMethod yX1_bitsOf ∈ WS ∧ Cond.selects RX1 yX1_bitsOf yX1_bitsOf ∈ WS := ⟨inWS 411 (by decide +kernel) rfl, inWS 412 (by decide +kernel) rfl⟩
theorem kX1_argumentAt : LnkOK yX1_argumentAt cX1_argumentAt 3 (some .int) 2 := ⟨inWS 417 (by decide +kernel) rfl, inWS 60 (by decide +kernel) rfl, by decide +kernel, by decide +kernel⟩
theorem qX1_argumentAt : Cond.instanceMethod yX1_argumentAt ∈ WS ∧ Cond.selects RX1 yX1_argumentAt yX1_argumentAt ∈ WS := ⟨inWS 415 (by decide +kernel) rfl, inWS 416 (by decide +kernel) rfl⟩
theorem kX1_relation : LnkOK yX1_relation cX1_relation 4 (some .int) 2 := ⟨inWS 420 (by decide +kernel) rfl, inWS 60 (by decide +kernel) rfl, by decide +kernel, by decide +kernel⟩
theorem qX1_relation : Cond.static yX1_relation ∈ WS := inWS 419 (by decide +kernel) rfl
theorem kX4_kindOf : LnkOK yX4_kindOf cX4_kindOf 1 (some .int) 1 := ⟨inWS 423 (by decide +kernel) rfl, inWS 58 (by decide +kernel) rfl, by decide +kernel, by decide +kernel⟩
theorem qX4_kindOf : Cond.static yX4_kindOf ∈ WS := inWS 422 (by decide +kernel) rfl
theorem kX4_numberOf : LnkOK yX4_numberOf cX4_numberOf 1 (some .int) 1 := ⟨inWS 426 (by decide +kernel) rfl, inWS 58 (by decide +kernel) rfl, by decide +kernel, by decide +kernel⟩
theorem qX4_numberOf : Cond.static yX4_numberOf ∈ WS := inWS 425 (by decide +kernel) rfl
theorem kX4_valueOf : LnkOK yX4_valueOf cX4_valueOf 1 (some .int) 1 := ⟨inWS 429 (by decide +kernel) rfl, inWS 58 (by decide +kernel) rfl, by decide +kernel, by decide +kernel⟩
theorem qX4_valueOf : Cond.static yX4_valueOf ∈ WS := inWS 428 (by decide +kernel) rfl
theorem kX0_meet : LnkOK yX0_meet cX0_meet 8 (some .int) 5 := ⟨inWS 434 (by decide +kernel) rfl, inWS 61 (by decide +kernel) rfl, by decide +kernel, by decide +kernel⟩
theorem qX0_meet : Cond.instanceMethod yX0_meet ∈ WS ∧ Cond.selects RX0 yX0_meet yX0_meet ∈ WS := ⟨inWS 433 (by decide +kernel) rfl, inWS 13 (by decide +kernel) rfl⟩
theorem kX0_codeOf : LnkOK yX0_codeOf cX0_codeOf 1 (some .int) 1 := ⟨inWS 437 (by decide +kernel) rfl, inWS 61 (by decide +kernel) rfl, by decide +kernel, by decide +kernel⟩
theorem qX0_codeOf : Cond.static yX0_codeOf ∈ WS := inWS 436 (by decide +kernel) rfl
theorem kX0_placeOf : LnkOK yX0_placeOf cX0_placeOf 3 (some .int) 3 := ⟨inWS 442 (by decide +kernel) rfl, inWS 61 (by decide +kernel) rfl, by decide +kernel, by decide +kernel⟩
theorem qX0_placeOf : Cond.static yX0_placeOf ∈ WS := inWS 441 (by decide +kernel) rfl
theorem kX0_isLoop : LnkOK yX0_isLoop cX0_isLoop 2 (some .boolean) 1 := ⟨inWS 446 (by decide +kernel) rfl, inWS 61 (by decide +kernel) rfl, by decide +kernel, by decide +kernel⟩
theorem qX0_isLoop : Cond.instanceMethod yX0_isLoop ∈ WS ∧ Cond.selects RX0 yX0_isLoop yX0_isLoop ∈ WS := ⟨inWS 444 (by decide +kernel) rfl, inWS 445 (by decide +kernel) rfl⟩
theorem kX0_fallsIn : LnkOK yX0_fallsIn cX0_fallsIn 2 (some .int) 1 := ⟨inWS 450 (by decide +kernel) rfl, inWS 61 (by decide +kernel) rfl, by decide +kernel, by decide +kernel⟩
theorem qX0_fallsIn : Cond.instanceMethod yX0_fallsIn ∈ WS ∧ Cond.selects RX0 yX0_fallsIn yX0_fallsIn ∈ WS := ⟨inWS 448 (by decide +kernel) rfl, inWS 449 (by decide +kernel) rfl⟩
theorem kX0_isIdle : LnkOK yX0_isIdle cX0_isIdle 2 (some .boolean) 1 := ⟨inWS 454 (by decide +kernel) rfl, inWS 61 (by decide +kernel) rfl, by decide +kernel, by decide +kernel⟩
theorem qX0_isIdle : Cond.instanceMethod yX0_isIdle ∈ WS ∧ Cond.selects RX0 yX0_isIdle yX0_isIdle ∈ WS := ⟨inWS 452 (by decide +kernel) rfl, inWS 453 (by decide +kernel) rfl⟩
theorem kX0_fromOf : LnkOK yX0_fromOf cX0_fromOf 2 (some .int) 1 := ⟨inWS 458 (by decide +kernel) rfl, inWS 61 (by decide +kernel) rfl, by decide +kernel, by decide +kernel⟩
theorem qX0_fromOf : Cond.instanceMethod yX0_fromOf ∈ WS ∧ Cond.selects RX0 yX0_fromOf yX0_fromOf ∈ WS := ⟨inWS 456 (by decide +kernel) rfl, inWS 457 (by decide +kernel) rfl⟩
theorem kX0_toOf : LnkOK yX0_toOf cX0_toOf 2 (some .int) 1 := ⟨inWS 462 (by decide +kernel) rfl, inWS 61 (by decide +kernel) rfl, by decide +kernel, by decide +kernel⟩
theorem qX0_toOf : Cond.instanceMethod yX0_toOf ∈ WS ∧ Cond.selects RX0 yX0_toOf yX0_toOf ∈ WS := ⟨inWS 460 (by decide +kernel) rfl, inWS 461 (by decide +kernel) rfl⟩
theorem kX0_composed : LnkOK yX0_composed cX0_composed 7 (some .int) 2 := ⟨inWS 465 (by decide +kernel) rfl, inWS 61 (by decide +kernel) rfl, by decide +kernel, by decide +kernel⟩
theorem qX0_composed : Cond.static yX0_composed ∈ WS := inWS 464 (by decide +kernel) rfl
theorem kX0_idleOnes : LnkOK yX0_idleOnes cX0_idleOnes 3 (some .int) 0 := ⟨inWS 470 (by decide +kernel) rfl, inWS 61 (by decide +kernel) rfl, by decide +kernel, by decide +kernel⟩
theorem qX0_idleOnes : Cond.instanceMethod yX0_idleOnes ∈ WS ∧ Cond.selects RX0 yX0_idleOnes yX0_idleOnes ∈ WS := ⟨inWS 468 (by decide +kernel) rfl, inWS 469 (by decide +kernel) rfl⟩
theorem kX0_componentsBelow : LnkOK yX0_componentsBelow cX0_componentsBelow 4 (some .int) 1 := ⟨inWS 475 (by decide +kernel) rfl, inWS 61 (by decide +kernel) rfl, by decide +kernel, by decide +kernel⟩
theorem qX0_componentsBelow : Cond.instanceMethod yX0_componentsBelow ∈ WS ∧ Cond.selects RX0 yX0_componentsBelow yX0_componentsBelow ∈ WS := ⟨inWS 473 (by decide +kernel) rfl, inWS 474 (by decide +kernel) rfl⟩
theorem kX0_firstOfComponent : LnkOK yX0_firstOfComponent cX0_firstOfComponent 3 (some .int) 1 := ⟨inWS 479 (by decide +kernel) rfl, inWS 61 (by decide +kernel) rfl, by decide +kernel, by decide +kernel⟩
theorem qX0_firstOfComponent : Cond.instanceMethod yX0_firstOfComponent ∈ WS ∧ Cond.selects RX0 yX0_firstOfComponent yX0_firstOfComponent ∈ WS := ⟨inWS 478 (by decide +kernel) rfl, inWS 14 (by decide +kernel) rfl⟩
theorem kX0_isTogether : LnkOK yX0_isTogether cX0_isTogether 3 (some .boolean) 2 := ⟨inWS 483 (by decide +kernel) rfl, inWS 61 (by decide +kernel) rfl, by decide +kernel, by decide +kernel⟩
theorem qX0_isTogether : Cond.instanceMethod yX0_isTogether ∈ WS ∧ Cond.selects RX0 yX0_isTogether yX0_isTogether ∈ WS := ⟨inWS 482 (by decide +kernel) rfl, inWS 15 (by decide +kernel) rfl⟩
theorem kX0_neededOnes : LnkOK yX0_neededOnes cX0_neededOnes 3 (some .int) 0 := ⟨inWS 487 (by decide +kernel) rfl, inWS 61 (by decide +kernel) rfl, by decide +kernel, by decide +kernel⟩
theorem qX0_neededOnes : Cond.instanceMethod yX0_neededOnes ∈ WS ∧ Cond.selects RX0 yX0_neededOnes yX0_neededOnes ∈ WS := ⟨inWS 485 (by decide +kernel) rfl, inWS 486 (by decide +kernel) rfl⟩
theorem kX0_isNeedless : LnkOK yX0_isNeedless cX0_isNeedless 6 (some .boolean) 1 := ⟨inWS 491 (by decide +kernel) rfl, inWS 61 (by decide +kernel) rfl, by decide +kernel, by decide +kernel⟩
theorem qX0_isNeedless : Cond.instanceMethod yX0_isNeedless ∈ WS ∧ Cond.selects RX0 yX0_isNeedless yX0_isNeedless ∈ WS := ⟨inWS 489 (by decide +kernel) rfl, inWS 490 (by decide +kernel) rfl⟩
theorem kX4_fun : LnkOK yX4_fun cX4_fun 3 (some .int) 2 := ⟨inWS 495 (by decide +kernel) rfl, inWS 58 (by decide +kernel) rfl, by decide +kernel, by decide +kernel⟩
theorem qX4_fun : Cond.instanceMethod yX4_fun ∈ WS ∧ Cond.selects RX4 yX4_fun yX4_fun ∈ WS := ⟨inWS 493 (by decide +kernel) rfl, inWS 494 (by decide +kernel) rfl⟩
theorem kX1_hasFunction : LnkOK yX1_hasFunction cX1_hasFunction 2 (some .boolean) 1 := ⟨inWS 499 (by decide +kernel) rfl, inWS 60 (by decide +kernel) rfl, by decide +kernel, by decide +kernel⟩
theorem qX1_hasFunction : Cond.instanceMethod yX1_hasFunction ∈ WS ∧ Cond.selects RX1 yX1_hasFunction yX1_hasFunction ∈ WS := ⟨inWS 497 (by decide +kernel) rfl, inWS 498 (by decide +kernel) rfl⟩
theorem kX1_callsFrom : LnkOK yX1_callsFrom cX1_callsFrom 4 (some .int) 1 := ⟨inWS 503 (by decide +kernel) rfl, inWS 60 (by decide +kernel) rfl, by decide +kernel, by decide +kernel⟩
theorem qX1_callsFrom : Cond.instanceMethod yX1_callsFrom ∈ WS ∧ Cond.selects RX1 yX1_callsFrom yX1_callsFrom ∈ WS := ⟨inWS 501 (by decide +kernel) rfl, inWS 502 (by decide +kernel) rfl⟩
theorem kX0_componentOf : LnkOK yX0_componentOf cX0_componentOf 2 (some .int) 1 := ⟨inWS 507 (by decide +kernel) rfl, inWS 61 (by decide +kernel) rfl, by decide +kernel, by decide +kernel⟩
theorem qX0_componentOf : Cond.instanceMethod yX0_componentOf ∈ WS ∧ Cond.selects RX0 yX0_componentOf yX0_componentOf ∈ WS := ⟨inWS 505 (by decide +kernel) rfl, inWS 506 (by decide +kernel) rfl⟩
theorem kX0_firstLoopOf : LnkOK yX0_firstLoopOf cX0_firstLoopOf 4 (some .int) 1 := ⟨inWS 512 (by decide +kernel) rfl, inWS 61 (by decide +kernel) rfl, by decide +kernel, by decide +kernel⟩
theorem qX0_firstLoopOf : Cond.instanceMethod yX0_firstLoopOf ∈ WS ∧ Cond.selects RX0 yX0_firstLoopOf yX0_firstLoopOf ∈ WS := ⟨inWS 510 (by decide +kernel) rfl, inWS 511 (by decide +kernel) rfl⟩
theorem kX4_call : LnkOK yX4_call cX4_call 3 (some .int) 2 := ⟨inWS 516 (by decide +kernel) rfl, inWS 58 (by decide +kernel) rfl, by decide +kernel, by decide +kernel⟩
theorem qX4_call : Cond.instanceMethod yX4_call ∈ WS ∧ Cond.selects RX4 yX4_call yX4_call ∈ WS := ⟨inWS 514 (by decide +kernel) rfl, inWS 515 (by decide +kernel) rfl⟩
theorem kX1_hasCall : LnkOK yX1_hasCall cX1_hasCall 2 (some .boolean) 1 := ⟨inWS 520 (by decide +kernel) rfl, inWS 60 (by decide +kernel) rfl, by decide +kernel, by decide +kernel⟩
theorem qX1_hasCall : Cond.instanceMethod yX1_hasCall ∈ WS ∧ Cond.selects RX1 yX1_hasCall yX1_hasCall ∈ WS := ⟨inWS 518 (by decide +kernel) rfl, inWS 519 (by decide +kernel) rfl⟩
theorem kX4_argument : LnkOK yX4_argument cX4_argument 6 (some .int) 3 := ⟨inWS 526 (by decide +kernel) rfl, inWS 58 (by decide +kernel) rfl, by decide +kernel, by decide +kernel⟩
theorem qX4_argument : Cond.instanceMethod yX4_argument ∈ WS ∧ Cond.selects RX4 yX4_argument yX4_argument ∈ WS := ⟨inWS 524 (by decide +kernel) rfl, inWS 525 (by decide +kernel) rfl⟩
theorem kX1_hasArgument : LnkOK yX1_hasArgument cX1_hasArgument 3 (some .boolean) 2 := ⟨inWS 530 (by decide +kernel) rfl, inWS 60 (by decide +kernel) rfl, by decide +kernel, by decide +kernel⟩
theorem qX1_hasArgument : Cond.instanceMethod yX1_hasArgument ∈ WS ∧ Cond.selects RX1 yX1_hasArgument yX1_hasArgument ∈ WS := ⟨inWS 528 (by decide +kernel) rfl, inWS 529 (by decide +kernel) rfl⟩
theorem kX4_graph : LnkOK yX4_graph cX4_graph 4 (some .int) 2 := ⟨inWS 539 (by decide +kernel) rfl, inWS 58 (by decide +kernel) rfl, by decide +kernel, by decide +kernel⟩
theorem qX4_graph : Cond.instanceMethod yX4_graph ∈ WS ∧ Cond.selects RX4 yX4_graph yX4_graph ∈ WS := ⟨inWS 537 (by decide +kernel) rfl, inWS 538 (by decide +kernel) rfl⟩
theorem kX0_has : LnkOK yX0_has cX0_has 2 (some .boolean) 1 := ⟨inWS 543 (by decide +kernel) rfl, inWS 61 (by decide +kernel) rfl, by decide +kernel, by decide +kernel⟩
theorem qX0_has : Cond.instanceMethod yX0_has ∈ WS ∧ Cond.selects RX0 yX0_has yX0_has ∈ WS := ⟨inWS 541 (by decide +kernel) rfl, inWS 542 (by decide +kernel) rfl⟩
theorem kX4_word : LnkOK yX4_word cX4_word 4 (some .int) 2 := ⟨inWS 553 (by decide +kernel) rfl, inWS 58 (by decide +kernel) rfl, by decide +kernel, by decide +kernel⟩
theorem qX4_word : Cond.instanceMethod yX4_word ∈ WS ∧ Cond.selects RX4 yX4_word yX4_word ∈ WS := ⟨inWS 551 (by decide +kernel) rfl, inWS 552 (by decide +kernel) rfl⟩
theorem kX0_callOfWord : LnkOK yX0_callOfWord cX0_callOfWord 5 (some .int) 2 := ⟨inWS 557 (by decide +kernel) rfl, inWS 61 (by decide +kernel) rfl, by decide +kernel, by decide +kernel⟩
theorem qX0_callOfWord : Cond.instanceMethod yX0_callOfWord ∈ WS ∧ Cond.selects RX0 yX0_callOfWord yX0_callOfWord ∈ WS := ⟨inWS 555 (by decide +kernel) rfl, inWS 556 (by decide +kernel) rfl⟩
theorem kX4_find : LnkOK yX4_find cX4_find 4 (some .int) 3 := ⟨inWS 561 (by decide +kernel) rfl, inWS 58 (by decide +kernel) rfl, by decide +kernel, by decide +kernel⟩
theorem qX4_find : Cond.instanceMethod yX4_find ∈ WS ∧ Cond.selects RX4 yX4_find yX4_find ∈ WS := ⟨inWS 559 (by decide +kernel) rfl, inWS 560 (by decide +kernel) rfl⟩
theorem kX0_at : LnkOK yX0_at cX0_at 4 (some .int) 3 := ⟨inWS 565 (by decide +kernel) rfl, inWS 61 (by decide +kernel) rfl, by decide +kernel, by decide +kernel⟩
theorem qX0_at : Cond.instanceMethod yX0_at ∈ WS ∧ Cond.selects RX0 yX0_at yX0_at ∈ WS := ⟨inWS 563 (by decide +kernel) rfl, inWS 564 (by decide +kernel) rfl⟩
theorem kX4_orNone : LnkOK yX4_orNone cX4_orNone 1 (some .int) 1 := ⟨inWS 568 (by decide +kernel) rfl, inWS 58 (by decide +kernel) rfl, by decide +kernel, by decide +kernel⟩
theorem qX4_orNone : Cond.static yX4_orNone ∈ WS := inWS 567 (by decide +kernel) rfl
theorem kX4_compose : LnkOK yX4_compose cX4_compose 5 (some .int) 2 := ⟨inWS 572 (by decide +kernel) rfl, inWS 58 (by decide +kernel) rfl, by decide +kernel, by decide +kernel⟩
theorem qX4_compose : Cond.instanceMethod yX4_compose ∈ WS ∧ Cond.selects RX4 yX4_compose yX4_compose ∈ WS := ⟨inWS 570 (by decide +kernel) rfl, inWS 571 (by decide +kernel) rfl⟩
theorem kX4_witness : LnkOK yX4_witness cX4_witness 2 (some .int) 1 := ⟨inWS 577 (by decide +kernel) rfl, inWS 58 (by decide +kernel) rfl, by decide +kernel, by decide +kernel⟩
theorem qX4_witness : Cond.instanceMethod yX4_witness ∈ WS ∧ Cond.selects RX4 yX4_witness yX4_witness ∈ WS := ⟨inWS 575 (by decide +kernel) rfl, inWS 576 (by decide +kernel) rfl⟩
theorem kX4_open : LnkOK yX4_open cX4_open 2 (some .int) 1 := ⟨inWS 581 (by decide +kernel) rfl, inWS 58 (by decide +kernel) rfl, by decide +kernel, by decide +kernel⟩
theorem qX4_open : Cond.instanceMethod yX4_open ∈ WS ∧ Cond.selects RX4 yX4_open yX4_open ∈ WS := ⟨inWS 579 (by decide +kernel) rfl, inWS 580 (by decide +kernel) rfl⟩
theorem kX4_add : LnkOK yX4_add cX4_add 3 (some .int) 2 := ⟨inWS 586 (by decide +kernel) rfl, inWS 58 (by decide +kernel) rfl, by decide +kernel, by decide +kernel⟩
theorem qX4_add : Cond.instanceMethod yX4_add ∈ WS ∧ Cond.selects RX4 yX4_add yX4_add ∈ WS := ⟨inWS 584 (by decide +kernel) rfl, inWS 585 (by decide +kernel) rfl⟩
theorem kX4_cut : LnkOK yX4_cut cX4_cut 3 (some .int) 1 := ⟨inWS 591 (by decide +kernel) rfl, inWS 58 (by decide +kernel) rfl, by decide +kernel, by decide +kernel⟩
theorem qX4_cut : Cond.instanceMethod yX4_cut ∈ WS ∧ Cond.selects RX4 yX4_cut yX4_cut ∈ WS := ⟨inWS 589 (by decide +kernel) rfl, inWS 590 (by decide +kernel) rfl⟩
theorem kX4_set : LnkOK yX4_set cX4_set 5 (some .int) 3 := ⟨inWS 595 (by decide +kernel) rfl, inWS 58 (by decide +kernel) rfl, by decide +kernel, by decide +kernel⟩
theorem qX4_set : Cond.instanceMethod yX4_set ∈ WS ∧ Cond.selects RX4 yX4_set yX4_set ∈ WS := ⟨inWS 593 (by decide +kernel) rfl, inWS 594 (by decide +kernel) rfl⟩
theorem kX1_takes : LnkOK yX1_takes cX1_takes 5 (some .boolean) 3 := ⟨inWS 599 (by decide +kernel) rfl, inWS 60 (by decide +kernel) rfl, by decide +kernel, by decide +kernel⟩
theorem qX1_takes : Cond.instanceMethod yX1_takes ∈ WS ∧ Cond.selects RX1 yX1_takes yX1_takes ∈ WS := ⟨inWS 597 (by decide +kernel) rfl, inWS 598 (by decide +kernel) rfl⟩
theorem kX4_spare : LnkOK yX4_spare cX4_spare 3 (some .int) 0 := ⟨inWS 606 (by decide +kernel) rfl, inWS 58 (by decide +kernel) rfl, by decide +kernel, by decide +kernel⟩
theorem qX4_spare : Cond.instanceMethod yX4_spare ∈ WS ∧ Cond.selects RX4 yX4_spare yX4_spare ∈ WS := ⟨inWS 604 (by decide +kernel) rfl, inWS 605 (by decide +kernel) rfl⟩
theorem kX0_callsOfEveryLoop : LnkOK yX0_callsOfEveryLoop cX0_callsOfEveryLoop 3 (some .int) 0 := ⟨inWS 610 (by decide +kernel) rfl, inWS 61 (by decide +kernel) rfl, by decide +kernel, by decide +kernel⟩
theorem qX0_callsOfEveryLoop : Cond.instanceMethod yX0_callsOfEveryLoop ∈ WS ∧ Cond.selects RX0 yX0_callsOfEveryLoop yX0_callsOfEveryLoop ∈ WS := ⟨inWS 608 (by decide +kernel) rfl, inWS 609 (by decide +kernel) rfl⟩
theorem kX1_removeCall : LnkOK yX1_removeCall cX1_removeCall 3 none 1 := ⟨inWS 614 (by decide +kernel) rfl, inWS 60 (by decide +kernel) rfl, by decide +kernel, by decide +kernel⟩
theorem qX1_removeCall : Cond.instanceMethod yX1_removeCall ∈ WS ∧ Cond.selects RX1 yX1_removeCall yX1_removeCall ∈ WS := ⟨inWS 612 (by decide +kernel) rfl, inWS 613 (by decide +kernel) rfl⟩
theorem kX4_trialEnds : LnkOK yX4_trialEnds cX4_trialEnds 1 (some .boolean) 0 := ⟨inWS 618 (by decide +kernel) rfl, inWS 58 (by decide +kernel) rfl, by decide +kernel, by decide +kernel⟩
theorem qX4_trialEnds : Cond.instanceMethod yX4_trialEnds ∈ WS ∧ Cond.selects RX4 yX4_trialEnds yX4_trialEnds ∈ WS := ⟨inWS 617 (by decide +kernel) rfl, inWS 16 (by decide +kernel) rfl⟩
theorem kX4_mend : LnkOK yX4_mend cX4_mend 6 (some .int) 0 := ⟨inWS 622 (by decide +kernel) rfl, inWS 58 (by decide +kernel) rfl, by decide +kernel, by decide +kernel⟩
theorem qX4_mend : Cond.instanceMethod yX4_mend ∈ WS ∧ Cond.selects RX4 yX4_mend yX4_mend ∈ WS := ⟨inWS 620 (by decide +kernel) rfl, inWS 621 (by decide +kernel) rfl⟩
theorem kX4_loops : LnkOK yX4_loops cX4_loops 1 (some .int) 0 := ⟨inWS 627 (by decide +kernel) rfl, inWS 58 (by decide +kernel) rfl, by decide +kernel, by decide +kernel⟩
theorem qX4_loops : Cond.instanceMethod yX4_loops ∈ WS ∧ Cond.selects RX4 yX4_loops yX4_loops ∈ WS := ⟨inWS 625 (by decide +kernel) rfl, inWS 626 (by decide +kernel) rfl⟩
theorem kX0_neededLoops : LnkOK yX0_neededLoops cX0_neededLoops 3 (some .int) 0 := ⟨inWS 631 (by decide +kernel) rfl, inWS 61 (by decide +kernel) rfl, by decide +kernel, by decide +kernel⟩
theorem qX0_neededLoops : Cond.instanceMethod yX0_neededLoops ∈ WS ∧ Cond.selects RX0 yX0_neededLoops yX0_neededLoops ∈ WS := ⟨inWS 629 (by decide +kernel) rfl, inWS 630 (by decide +kernel) rfl⟩
theorem kX4_run : LnkOK yX4_run cX4_run 13 (some .int) 4 := ⟨inWS 635 (by decide +kernel) rfl, inWS 58 (by decide +kernel) rfl, by decide +kernel, by decide +kernel⟩
theorem qX4_run : Cond.instanceMethod yX4_run ∈ WS ∧ Cond.selects RX4 yX4_run yX4_run ∈ WS := ⟨inWS 633 (by decide +kernel) rfl, inWS 634 (by decide +kernel) rfl⟩
theorem kX1_callsMade : LnkOK yX1_callsMade cX1_callsMade 6 (some .int) 3 := ⟨inWS 639 (by decide +kernel) rfl, inWS 60 (by decide +kernel) rfl, by decide +kernel, by decide +kernel⟩
theorem qX1_callsMade : Cond.instanceMethod yX1_callsMade ∈ WS ∧ Cond.selects RX1 yX1_callsMade yX1_callsMade ∈ WS := ⟨inWS 637 (by decide +kernel) rfl, inWS 638 (by decide +kernel) rfl⟩
theorem kX1_isMade : LnkOK yX1_isMade cX1_isMade 8 (some .boolean) 3 := ⟨inWS 643 (by decide +kernel) rfl, inWS 60 (by decide +kernel) rfl, by decide +kernel, by decide +kernel⟩
theorem qX1_isMade : Cond.instanceMethod yX1_isMade ∈ WS ∧ Cond.selects RX1 yX1_isMade yX1_isMade ∈ WS := ⟨inWS 641 (by decide +kernel) rfl, inWS 642 (by decide +kernel) rfl⟩
theorem kX1_callMade : LnkOK yX1_callMade cX1_callMade 7 (some .int) 4 := ⟨inWS 648 (by decide +kernel) rfl, inWS 60 (by decide +kernel) rfl, by decide +kernel, by decide +kernel⟩
theorem qX1_callMade : Cond.instanceMethod yX1_callMade ∈ WS ∧ Cond.selects RX1 yX1_callMade yX1_callMade ∈ WS := ⟨inWS 646 (by decide +kernel) rfl, inWS 647 (by decide +kernel) rfl⟩
theorem kX1_worth : LnkOK yX1_worth cX1_worth 8 (some .int) 4 := ⟨inWS 652 (by decide +kernel) rfl, inWS 60 (by decide +kernel) rfl, by decide +kernel, by decide +kernel⟩
theorem qX1_worth : Cond.instanceMethod yX1_worth ∈ WS ∧ Cond.selects RX1 yX1_worth yX1_worth ∈ WS := ⟨inWS 650 (by decide +kernel) rfl, inWS 651 (by decide +kernel) rfl⟩
theorem kX4_keep : LnkOK yX4_keep cX4_keep 3 (some .int) 1 := ⟨inWS 659 (by decide +kernel) rfl, inWS 58 (by decide +kernel) rfl, by decide +kernel, by decide +kernel⟩
theorem qX4_keep : Cond.instanceMethod yX4_keep ∈ WS ∧ Cond.selects RX4 yX4_keep yX4_keep ∈ WS := ⟨inWS 657 (by decide +kernel) rfl, inWS 658 (by decide +kernel) rfl⟩
theorem kX4_isImage : LnkOK yX4_isImage cX4_isImage 1 (some .boolean) 1 := ⟨inWS 662 (by decide +kernel) rfl, inWS 58 (by decide +kernel) rfl, by decide +kernel, by decide +kernel⟩
theorem qX4_isImage : Cond.static yX4_isImage ∈ WS := inWS 661 (by decide +kernel) rfl
theorem kX4_back : LnkOK yX4_back cX4_back 2 (some .int) 1 := ⟨inWS 666 (by decide +kernel) rfl, inWS 58 (by decide +kernel) rfl, by decide +kernel, by decide +kernel⟩
theorem qX4_back : Cond.instanceMethod yX4_back ∈ WS ∧ Cond.selects RX4 yX4_back yX4_back ∈ WS := ⟨inWS 664 (by decide +kernel) rfl, inWS 665 (by decide +kernel) rfl⟩
theorem kX4_sheet : LnkOK yX4_sheet cX4_sheet 4 (some .int) 3 := ⟨inWS 670 (by decide +kernel) rfl, inWS 58 (by decide +kernel) rfl, by decide +kernel, by decide +kernel⟩
theorem qX4_sheet : Cond.instanceMethod yX4_sheet ∈ WS ∧ Cond.selects RX4 yX4_sheet yX4_sheet ∈ WS := ⟨inWS 668 (by decide +kernel) rfl, inWS 669 (by decide +kernel) rfl⟩
theorem kX4_isSheet : LnkOK yX4_isSheet cX4_isSheet 1 (some .boolean) 1 := ⟨inWS 673 (by decide +kernel) rfl, inWS 58 (by decide +kernel) rfl, by decide +kernel, by decide +kernel⟩
theorem qX4_isSheet : Cond.static yX4_isSheet ∈ WS := inWS 672 (by decide +kernel) rfl
theorem kX4_isLane : LnkOK yX4_isLane cX4_isLane 1 (some .boolean) 1 := ⟨inWS 676 (by decide +kernel) rfl, inWS 58 (by decide +kernel) rfl, by decide +kernel, by decide +kernel⟩
theorem qX4_isLane : Cond.static yX4_isLane ∈ WS := inWS 675 (by decide +kernel) rfl
theorem kX2_begin : LnkOK yX2_begin cX2_begin 3 none 2 := ⟨inWS 680 (by decide +kernel) rfl, inWS 62 (by decide +kernel) rfl, by decide +kernel, by decide +kernel⟩
theorem qX2_begin : Cond.instanceMethod yX2_begin ∈ WS ∧ Cond.selects RX2 yX2_begin yX2_begin ∈ WS := ⟨inWS 678 (by decide +kernel) rfl, inWS 679 (by decide +kernel) rfl⟩
theorem kX4_lay : LnkOK yX4_lay cX4_lay 6 (some .int) 3 := ⟨inWS 685 (by decide +kernel) rfl, inWS 58 (by decide +kernel) rfl, by decide +kernel, by decide +kernel⟩
theorem qX4_lay : Cond.instanceMethod yX4_lay ∈ WS ∧ Cond.selects RX4 yX4_lay yX4_lay ∈ WS := ⟨inWS 683 (by decide +kernel) rfl, inWS 684 (by decide +kernel) rfl⟩
theorem kX2_faultAt : LnkOK yX2_faultAt cX2_faultAt 4 (some .int) 3 := ⟨inWS 689 (by decide +kernel) rfl, inWS 62 (by decide +kernel) rfl, by decide +kernel, by decide +kernel⟩
theorem qX2_faultAt : Cond.instanceMethod yX2_faultAt ∈ WS ∧ Cond.selects RX2 yX2_faultAt yX2_faultAt ∈ WS := ⟨inWS 687 (by decide +kernel) rfl, inWS 688 (by decide +kernel) rfl⟩
theorem kX2_put : LnkOK yX2_put cX2_put 3 none 2 := ⟨inWS 693 (by decide +kernel) rfl, inWS 62 (by decide +kernel) rfl, by decide +kernel, by decide +kernel⟩
theorem qX2_put : Cond.instanceMethod yX2_put ∈ WS ∧ Cond.selects RX2 yX2_put yX2_put ∈ WS := ⟨inWS 691 (by decide +kernel) rfl, inWS 692 (by decide +kernel) rfl⟩
theorem kX4_read : LnkOK yX4_read cX4_read 12 (some .int) 4 := ⟨inWS 697 (by decide +kernel) rfl, inWS 58 (by decide +kernel) rfl, by decide +kernel, by decide +kernel⟩
theorem qX4_read : Cond.instanceMethod yX4_read ∈ WS ∧ Cond.selects RX4 yX4_read yX4_read ∈ WS := ⟨inWS 695 (by decide +kernel) rfl, inWS 696 (by decide +kernel) rfl⟩
theorem kX4_torn : LnkOK yX4_torn cX4_torn 1 (some .int) 0 := ⟨inWS 701 (by decide +kernel) rfl, inWS 58 (by decide +kernel) rfl, by decide +kernel, by decide +kernel⟩
theorem qX4_torn : Cond.instanceMethod yX4_torn ∈ WS ∧ Cond.selects RX4 yX4_torn yX4_torn ∈ WS := ⟨inWS 699 (by decide +kernel) rfl, inWS 700 (by decide +kernel) rfl⟩
theorem kX4_count : LnkOK yX4_count cX4_count 2 (some .int) 1 := ⟨inWS 705 (by decide +kernel) rfl, inWS 58 (by decide +kernel) rfl, by decide +kernel, by decide +kernel⟩
theorem qX4_count : Cond.instanceMethod yX4_count ∈ WS ∧ Cond.selects RX4 yX4_count yX4_count ∈ WS := ⟨inWS 703 (by decide +kernel) rfl, inWS 704 (by decide +kernel) rfl⟩
theorem kX1_plainNumbers : LnkOK yX1_plainNumbers cX1_plainNumbers 4 (some .int) 0 := ⟨inWS 709 (by decide +kernel) rfl, inWS 60 (by decide +kernel) rfl, by decide +kernel, by decide +kernel⟩
theorem qX1_plainNumbers : Cond.instanceMethod yX1_plainNumbers ∈ WS ∧ Cond.selects RX1 yX1_plainNumbers yX1_plainNumbers ∈ WS := ⟨inWS 707 (by decide +kernel) rfl, inWS 708 (by decide +kernel) rfl⟩
theorem kX1_arities : LnkOK yX1_arities cX1_arities 3 (some .int) 0 := ⟨inWS 713 (by decide +kernel) rfl, inWS 60 (by decide +kernel) rfl, by decide +kernel, by decide +kernel⟩
theorem qX1_arities : Cond.instanceMethod yX1_arities ∈ WS ∧ Cond.selects RX1 yX1_arities yX1_arities ∈ WS := ⟨inWS 711 (by decide +kernel) rfl, inWS 712 (by decide +kernel) rfl⟩
theorem kX0_sumOfCodes : LnkOK yX0_sumOfCodes cX0_sumOfCodes 3 (some .int) 0 := ⟨inWS 717 (by decide +kernel) rfl, inWS 61 (by decide +kernel) rfl, by decide +kernel, by decide +kernel⟩
theorem qX0_sumOfCodes : Cond.instanceMethod yX0_sumOfCodes ∈ WS ∧ Cond.selects RX0 yX0_sumOfCodes yX0_sumOfCodes ∈ WS := ⟨inWS 715 (by decide +kernel) rfl, inWS 716 (by decide +kernel) rfl⟩
theorem kX5_feed : LnkOK yX5_feed cX5_feed 2 (some .int) 1 := ⟨inWS 812 (by decide +kernel) rfl, inWS 63 (by decide +kernel) rfl, by decide +kernel, by decide +kernel⟩
theorem qX5_feed : Cond.instanceMethod yX5_feed ∈ WS ∧ Cond.selects RX5 yX5_feed yX5_feed ∈ WS := ⟨inWS 810 (by decide +kernel) rfl, inWS 811 (by decide +kernel) rfl⟩
theorem kX5_in : LnkOK yX5_in cX5_in 6 (some .boolean) 3 := ⟨inWS 816 (by decide +kernel) rfl, inWS 63 (by decide +kernel) rfl, by decide +kernel, by decide +kernel⟩
theorem qX5_in : Cond.static yX5_in ∈ WS := inWS 815 (by decide +kernel) rfl
theorem kX5_end : LnkOK yX5_end cX5_end 3 (some .int) 1 := ⟨inWS 820 (by decide +kernel) rfl, inWS 63 (by decide +kernel) rfl, by decide +kernel, by decide +kernel⟩
theorem qX5_end : Cond.instanceMethod yX5_end ∈ WS ∧ Cond.selects RX5 yX5_end yX5_end ∈ WS := ⟨inWS 818 (by decide +kernel) rfl, inWS 819 (by decide +kernel) rfl⟩
theorem kX5_text : LnkOK yX5_text cX5_text 3 (some .int) 0 := ⟨inWS 824 (by decide +kernel) rfl, inWS 63 (by decide +kernel) rfl, by decide +kernel, by decide +kernel⟩
theorem qX5_text : Cond.instanceMethod yX5_text ∈ WS ∧ Cond.selects RX5 yX5_text yX5_text ∈ WS := ⟨inWS 822 (by decide +kernel) rfl, inWS 823 (by decide +kernel) rfl⟩
theorem kX5_reads : LnkOK yX5_reads cX5_reads 2 none 0 := ⟨inWS 828 (by decide +kernel) rfl, inWS 63 (by decide +kernel) rfl, by decide +kernel, by decide +kernel⟩
theorem qX5_reads : Cond.instanceMethod yX5_reads ∈ WS ∧ Cond.selects RX5 yX5_reads yX5_reads ∈ WS := ⟨inWS 827 (by decide +kernel) rfl, inWS 17 (by decide +kernel) rfl⟩
theorem kX5_byteAt : LnkOK yX5_byteAt cX5_byteAt 2 (some .int) 1 := ⟨inWS 832 (by decide +kernel) rfl, inWS 63 (by decide +kernel) rfl, by decide +kernel, by decide +kernel⟩
theorem qX5_byteAt : Cond.instanceMethod yX5_byteAt ∈ WS ∧ Cond.selects RX5 yX5_byteAt yX5_byteAt ∈ WS := ⟨inWS 831 (by decide +kernel) rfl, inWS 18 (by decide +kernel) rfl⟩
theorem kX5_requires : LnkOK yX5_requires cX5_requires 3 none 2 := ⟨inWS 840 (by decide +kernel) rfl, inWS 63 (by decide +kernel) rfl, by decide +kernel, by decide +kernel⟩
theorem qX5_requires : Cond.instanceMethod yX5_requires ∈ WS ∧ Cond.selects RX5 yX5_requires yX5_requires ∈ WS := ⟨inWS 839 (by decide +kernel) rfl, inWS 19 (by decide +kernel) rfl⟩
theorem kX5_signOf : LnkOK yX5_signOf cX5_signOf 1 (some .int) 1 := ⟨inWS 843 (by decide +kernel) rfl, inWS 63 (by decide +kernel) rfl, by decide +kernel, by decide +kernel⟩
theorem qX5_signOf : Cond.static yX5_signOf ∈ WS := inWS 842 (by decide +kernel) rfl
theorem kX5_readLine : LnkOK yX5_readLine cX5_readLine 2 none 0 := ⟨inWS 847 (by decide +kernel) rfl, inWS 63 (by decide +kernel) rfl, by decide +kernel, by decide +kernel⟩
theorem qX5_readLine : Cond.instanceMethod yX5_readLine ∈ WS ∧ Cond.selects RX5 yX5_readLine yX5_readLine ∈ WS := ⟨inWS 846 (by decide +kernel) rfl, inWS 20 (by decide +kernel) rfl⟩
theorem kX5_wordNow : LnkOK yX5_wordNow cX5_wordNow 4 (some .int) 0 := ⟨inWS 851 (by decide +kernel) rfl, inWS 63 (by decide +kernel) rfl, by decide +kernel, by decide +kernel⟩
theorem qX5_wordNow : Cond.instanceMethod yX5_wordNow ∈ WS ∧ Cond.selects RX5 yX5_wordNow yX5_wordNow ∈ WS := ⟨inWS 850 (by decide +kernel) rfl, inWS 21 (by decide +kernel) rfl⟩
theorem kX5_readNumber : LnkOK yX5_readNumber cX5_readNumber 4 (some .int) 2 := ⟨inWS 855 (by decide +kernel) rfl, inWS 63 (by decide +kernel) rfl, by decide +kernel, by decide +kernel⟩
theorem qX5_readNumber : Cond.instanceMethod yX5_readNumber ∈ WS ∧ Cond.selects RX5 yX5_readNumber yX5_readNumber ∈ WS := ⟨inWS 854 (by decide +kernel) rfl, inWS 22 (by decide +kernel) rfl⟩
theorem kX5_readCall : LnkOK yX5_readCall cX5_readCall 4 none 0 := ⟨inWS 859 (by decide +kernel) rfl, inWS 63 (by decide +kernel) rfl, by decide +kernel, by decide +kernel⟩
theorem qX5_readCall : Cond.instanceMethod yX5_readCall ∈ WS ∧ Cond.selects RX5 yX5_readCall yX5_readCall ∈ WS := ⟨inWS 858 (by decide +kernel) rfl, inWS 23 (by decide +kernel) rfl⟩
theorem kX5_readArgument : LnkOK yX5_readArgument cX5_readArgument 6 none 2 := ⟨inWS 863 (by decide +kernel) rfl, inWS 63 (by decide +kernel) rfl, by decide +kernel, by decide +kernel⟩
theorem qX5_readArgument : Cond.instanceMethod yX5_readArgument ∈ WS ∧ Cond.selects RX5 yX5_readArgument yX5_readArgument ∈ WS := ⟨inWS 862 (by decide +kernel) rfl, inWS 24 (by decide +kernel) rfl⟩
theorem kX5_readValue : LnkOK yX5_readValue cX5_readValue 3 (some .int) 1 := ⟨inWS 867 (by decide +kernel) rfl, inWS 63 (by decide +kernel) rfl, by decide +kernel, by decide +kernel⟩
theorem qX5_readValue : Cond.instanceMethod yX5_readValue ∈ WS ∧ Cond.selects RX5 yX5_readValue yX5_readValue ∈ WS := ⟨inWS 866 (by decide +kernel) rfl, inWS 25 (by decide +kernel) rfl⟩
theorem kX5_fault : LnkOK yX5_fault cX5_fault 1 (some .int) 0 := ⟨inWS 871 (by decide +kernel) rfl, inWS 63 (by decide +kernel) rfl, by decide +kernel, by decide +kernel⟩
theorem qX5_fault : Cond.instanceMethod yX5_fault ∈ WS ∧ Cond.selects RX5 yX5_fault yX5_fault ∈ WS := ⟨inWS 869 (by decide +kernel) rfl, inWS 870 (by decide +kernel) rfl⟩
theorem kX5_rule : LnkOK yX5_rule cX5_rule 2 (some .int) 1 := ⟨inWS 875 (by decide +kernel) rfl, inWS 63 (by decide +kernel) rfl, by decide +kernel, by decide +kernel⟩
theorem qX5_rule : Cond.instanceMethod yX5_rule ∈ WS ∧ Cond.selects RX5 yX5_rule yX5_rule ∈ WS := ⟨inWS 873 (by decide +kernel) rfl, inWS 874 (by decide +kernel) rfl⟩
theorem kX5_findGraphs : LnkOK yX5_findGraphs cX5_findGraphs 3 none 0 := ⟨inWS 879 (by decide +kernel) rfl, inWS 63 (by decide +kernel) rfl, by decide +kernel, by decide +kernel⟩
theorem qX5_findGraphs : Cond.instanceMethod yX5_findGraphs ∈ WS ∧ Cond.selects RX5 yX5_findGraphs yX5_findGraphs ∈ WS := ⟨inWS 878 (by decide +kernel) rfl, inWS 26 (by decide +kernel) rfl⟩
theorem kX5_of : LnkOK yX5_of cX5_of 3 (some .int) 2 := ⟨inWS 883 (by decide +kernel) rfl, inWS 63 (by decide +kernel) rfl, by decide +kernel, by decide +kernel⟩
theorem qX5_of : Cond.instanceMethod yX5_of ∈ WS ∧ Cond.selects RX5 yX5_of yX5_of ∈ WS := ⟨inWS 882 (by decide +kernel) rfl, inWS 27 (by decide +kernel) rfl⟩
theorem kX5_codeOf : LnkOK yX5_codeOf cX5_codeOf 5 (some .int) 1 := ⟨inWS 887 (by decide +kernel) rfl, inWS 63 (by decide +kernel) rfl, by decide +kernel, by decide +kernel⟩
theorem qX5_codeOf : Cond.instanceMethod yX5_codeOf ∈ WS ∧ Cond.selects RX5 yX5_codeOf yX5_codeOf ∈ WS := ⟨inWS 886 (by decide +kernel) rfl, inWS 28 (by decide +kernel) rfl⟩
theorem kX5_weightOf : LnkOK yX5_weightOf cX5_weightOf 2 (some .int) 2 := ⟨inWS 890 (by decide +kernel) rfl, inWS 63 (by decide +kernel) rfl, by decide +kernel, by decide +kernel⟩
theorem qX5_weightOf : Cond.static yX5_weightOf ∈ WS := inWS 889 (by decide +kernel) rfl
theorem kX5_relationOf : LnkOK yX5_relationOf cX5_relationOf 6 (some .int) 3 := ⟨inWS 894 (by decide +kernel) rfl, inWS 63 (by decide +kernel) rfl, by decide +kernel, by decide +kernel⟩
theorem qX5_relationOf : Cond.instanceMethod yX5_relationOf ∈ WS ∧ Cond.selects RX5 yX5_relationOf yX5_relationOf ∈ WS := ⟨inWS 893 (by decide +kernel) rfl, inWS 29 (by decide +kernel) rfl⟩
theorem kX5_ofArgument : LnkOK yX5_ofArgument cX5_ofArgument 4 (some .int) 3 := ⟨inWS 898 (by decide +kernel) rfl, inWS 63 (by decide +kernel) rfl, by decide +kernel, by decide +kernel⟩
theorem qX5_ofArgument : Cond.instanceMethod yX5_ofArgument ∈ WS ∧ Cond.selects RX5 yX5_ofArgument yX5_ofArgument ∈ WS := ⟨inWS 897 (by decide +kernel) rfl, inWS 30 (by decide +kernel) rfl⟩
theorem kX5_comes : LnkOK yX5_comes cX5_comes 7 none 5 := ⟨inWS 902 (by decide +kernel) rfl, inWS 63 (by decide +kernel) rfl, by decide +kernel, by decide +kernel⟩
theorem qX5_comes : Cond.instanceMethod yX5_comes ∈ WS ∧ Cond.selects RX5 yX5_comes yX5_comes ∈ WS := ⟨inWS 901 (by decide +kernel) rfl, inWS 31 (by decide +kernel) rfl⟩
theorem kX5_slot : LnkOK yX5_slot cX5_slot 3 (some .int) 3 := ⟨inWS 905 (by decide +kernel) rfl, inWS 63 (by decide +kernel) rfl, by decide +kernel, by decide +kernel⟩
theorem qX5_slot : Cond.static yX5_slot ∈ WS := inWS 904 (by decide +kernel) rfl
theorem kX5_composed : LnkOK yX5_composed cX5_composed 10 (some .int) 2 := ⟨inWS 908 (by decide +kernel) rfl, inWS 63 (by decide +kernel) rfl, by decide +kernel, by decide +kernel⟩
theorem qX5_composed : Cond.static yX5_composed ∈ WS := inWS 907 (by decide +kernel) rfl
theorem kX5_relation : LnkOK yX5_relation cX5_relation 3 (some .int) 3 := ⟨inWS 911 (by decide +kernel) rfl, inWS 63 (by decide +kernel) rfl, by decide +kernel, by decide +kernel⟩
theorem qX5_relation : Cond.static yX5_relation ∈ WS := inWS 910 (by decide +kernel) rfl
theorem kX5_graphsThat : LnkOK yX5_graphsThat cX5_graphsThat 4 (some .int) 1 := ⟨inWS 915 (by decide +kernel) rfl, inWS 63 (by decide +kernel) rfl, by decide +kernel, by decide +kernel⟩
theorem qX5_graphsThat : Cond.instanceMethod yX5_graphsThat ∈ WS ∧ Cond.selects RX5 yX5_graphsThat yX5_graphsThat ∈ WS := ⟨inWS 914 (by decide +kernel) rfl, inWS 32 (by decide +kernel) rfl⟩
theorem kX5_isIdle : LnkOK yX5_isIdle cX5_isIdle 2 (some .boolean) 1 := ⟨inWS 919 (by decide +kernel) rfl, inWS 63 (by decide +kernel) rfl, by decide +kernel, by decide +kernel⟩
theorem qX5_isIdle : Cond.instanceMethod yX5_isIdle ∈ WS ∧ Cond.selects RX5 yX5_isIdle yX5_isIdle ∈ WS := ⟨inWS 918 (by decide +kernel) rfl, inWS 33 (by decide +kernel) rfl⟩
theorem kX5_isLoop : LnkOK yX5_isLoop cX5_isLoop 2 (some .boolean) 1 := ⟨inWS 923 (by decide +kernel) rfl, inWS 63 (by decide +kernel) rfl, by decide +kernel, by decide +kernel⟩
theorem qX5_isLoop : Cond.instanceMethod yX5_isLoop ∈ WS ∧ Cond.selects RX5 yX5_isLoop yX5_isLoop ∈ WS := ⟨inWS 922 (by decide +kernel) rfl, inWS 34 (by decide +kernel) rfl⟩
theorem kX5_fallsOf : LnkOK yX5_fallsOf cX5_fallsOf 3 (some .int) 1 := ⟨inWS 927 (by decide +kernel) rfl, inWS 63 (by decide +kernel) rfl, by decide +kernel, by decide +kernel⟩
theorem qX5_fallsOf : Cond.instanceMethod yX5_fallsOf ∈ WS ∧ Cond.selects RX5 yX5_fallsOf yX5_fallsOf ∈ WS := ⟨inWS 926 (by decide +kernel) rfl, inWS 35 (by decide +kernel) rfl⟩
theorem kX5_flag : LnkOK yX5_flag cX5_flag 1 (some .int) 1 := ⟨inWS 930 (by decide +kernel) rfl, inWS 63 (by decide +kernel) rfl, by decide +kernel, by decide +kernel⟩
theorem qX5_flag : Cond.static yX5_flag ∈ WS := inWS 929 (by decide +kernel) rfl
theorem kX5_isNeedless : LnkOK yX5_isNeedless cX5_isNeedless 4 (some .boolean) 1 := ⟨inWS 934 (by decide +kernel) rfl, inWS 63 (by decide +kernel) rfl, by decide +kernel, by decide +kernel⟩
theorem qX5_isNeedless : Cond.instanceMethod yX5_isNeedless ∈ WS ∧ Cond.selects RX5 yX5_isNeedless yX5_isNeedless ∈ WS := ⟨inWS 933 (by decide +kernel) rfl, inWS 36 (by decide +kernel) rfl⟩
theorem kX5_isNoneAbove : LnkOK yX5_isNoneAbove cX5_isNoneAbove 5 (some .boolean) 2 := ⟨inWS 937 (by decide +kernel) rfl, inWS 63 (by decide +kernel) rfl, by decide +kernel, by decide +kernel⟩
theorem qX5_isNoneAbove : Cond.static yX5_isNoneAbove ∈ WS := inWS 936 (by decide +kernel) rfl
theorem kX5_allEnd : LnkOK yX5_allEnd cX5_allEnd 2 (some .boolean) 0 := ⟨inWS 941 (by decide +kernel) rfl, inWS 63 (by decide +kernel) rfl, by decide +kernel, by decide +kernel⟩
theorem qX5_allEnd : Cond.instanceMethod yX5_allEnd ∈ WS ∧ Cond.selects RX5 yX5_allEnd yX5_allEnd ∈ WS := ⟨inWS 940 (by decide +kernel) rfl, inWS 37 (by decide +kernel) rfl⟩
theorem kX5_components : LnkOK yX5_components cX5_components 3 (some .int) 0 := ⟨inWS 945 (by decide +kernel) rfl, inWS 63 (by decide +kernel) rfl, by decide +kernel, by decide +kernel⟩
theorem qX5_components : Cond.instanceMethod yX5_components ∈ WS ∧ Cond.selects RX5 yX5_components yX5_components ∈ WS := ⟨inWS 944 (by decide +kernel) rfl, inWS 38 (by decide +kernel) rfl⟩
theorem kX5_componentOf : LnkOK yX5_componentOf cX5_componentOf 4 (some .int) 1 := ⟨inWS 949 (by decide +kernel) rfl, inWS 63 (by decide +kernel) rfl, by decide +kernel, by decide +kernel⟩
theorem qX5_componentOf : Cond.instanceMethod yX5_componentOf ∈ WS ∧ Cond.selects RX5 yX5_componentOf yX5_componentOf ∈ WS := ⟨inWS 948 (by decide +kernel) rfl, inWS 39 (by decide +kernel) rfl⟩
theorem kX5_reachOf : LnkOK yX5_reachOf cX5_reachOf 5 (some .int) 1 := ⟨inWS 953 (by decide +kernel) rfl, inWS 63 (by decide +kernel) rfl, by decide +kernel, by decide +kernel⟩
theorem qX5_reachOf : Cond.instanceMethod yX5_reachOf ∈ WS ∧ Cond.selects RX5 yX5_reachOf yX5_reachOf ∈ WS := ⟨inWS 952 (by decide +kernel) rfl, inWS 40 (by decide +kernel) rfl⟩
theorem kX5_fun : LnkOK yX5_fun cX5_fun 3 (some .int) 2 := ⟨inWS 957 (by decide +kernel) rfl, inWS 63 (by decide +kernel) rfl, by decide +kernel, by decide +kernel⟩
theorem qX5_fun : Cond.instanceMethod yX5_fun ∈ WS ∧ Cond.selects RX5 yX5_fun yX5_fun ∈ WS := ⟨inWS 955 (by decide +kernel) rfl, inWS 956 (by decide +kernel) rfl⟩
theorem kX5_isFun : LnkOK yX5_isFun cX5_isFun 2 (some .boolean) 1 := ⟨inWS 961 (by decide +kernel) rfl, inWS 63 (by decide +kernel) rfl, by decide +kernel, by decide +kernel⟩
theorem qX5_isFun : Cond.instanceMethod yX5_isFun ∈ WS ∧ Cond.selects RX5 yX5_isFun yX5_isFun ∈ WS := ⟨inWS 960 (by decide +kernel) rfl, inWS 41 (by decide +kernel) rfl⟩
theorem kX5_callsFrom : LnkOK yX5_callsFrom cX5_callsFrom 4 (some .int) 1 := ⟨inWS 965 (by decide +kernel) rfl, inWS 63 (by decide +kernel) rfl, by decide +kernel, by decide +kernel⟩
theorem qX5_callsFrom : Cond.instanceMethod yX5_callsFrom ∈ WS ∧ Cond.selects RX5 yX5_callsFrom yX5_callsFrom ∈ WS := ⟨inWS 964 (by decide +kernel) rfl, inWS 42 (by decide +kernel) rfl⟩
theorem kX5_componentNumber : LnkOK yX5_componentNumber cX5_componentNumber 5 (some .int) 1 := ⟨inWS 969 (by decide +kernel) rfl, inWS 63 (by decide +kernel) rfl, by decide +kernel, by decide +kernel⟩
theorem qX5_componentNumber : Cond.instanceMethod yX5_componentNumber ∈ WS ∧ Cond.selects RX5 yX5_componentNumber yX5_componentNumber ∈ WS := ⟨inWS 968 (by decide +kernel) rfl, inWS 43 (by decide +kernel) rfl⟩
theorem kX5_loopOf : LnkOK yX5_loopOf cX5_loopOf 4 (some .int) 1 := ⟨inWS 973 (by decide +kernel) rfl, inWS 63 (by decide +kernel) rfl, by decide +kernel, by decide +kernel⟩
theorem qX5_loopOf : Cond.instanceMethod yX5_loopOf ∈ WS ∧ Cond.selects RX5 yX5_loopOf yX5_loopOf ∈ WS := ⟨inWS 972 (by decide +kernel) rfl, inWS 44 (by decide +kernel) rfl⟩
theorem kX5_call : LnkOK yX5_call cX5_call 3 (some .int) 2 := ⟨inWS 977 (by decide +kernel) rfl, inWS 63 (by decide +kernel) rfl, by decide +kernel, by decide +kernel⟩
theorem qX5_call : Cond.instanceMethod yX5_call ∈ WS ∧ Cond.selects RX5 yX5_call yX5_call ∈ WS := ⟨inWS 975 (by decide +kernel) rfl, inWS 976 (by decide +kernel) rfl⟩
theorem kX5_isCall : LnkOK yX5_isCall cX5_isCall 2 (some .boolean) 1 := ⟨inWS 981 (by decide +kernel) rfl, inWS 63 (by decide +kernel) rfl, by decide +kernel, by decide +kernel⟩
theorem qX5_isCall : Cond.instanceMethod yX5_isCall ∈ WS ∧ Cond.selects RX5 yX5_isCall yX5_isCall ∈ WS := ⟨inWS 980 (by decide +kernel) rfl, inWS 45 (by decide +kernel) rfl⟩
theorem kX5_argument : LnkOK yX5_argument cX5_argument 5 (some .int) 3 := ⟨inWS 986 (by decide +kernel) rfl, inWS 63 (by decide +kernel) rfl, by decide +kernel, by decide +kernel⟩
theorem qX5_argument : Cond.instanceMethod yX5_argument ∈ WS ∧ Cond.selects RX5 yX5_argument yX5_argument ∈ WS := ⟨inWS 984 (by decide +kernel) rfl, inWS 985 (by decide +kernel) rfl⟩
theorem kX5_isArgument : LnkOK yX5_isArgument cX5_isArgument 3 (some .boolean) 2 := ⟨inWS 990 (by decide +kernel) rfl, inWS 63 (by decide +kernel) rfl, by decide +kernel, by decide +kernel⟩
theorem qX5_isArgument : Cond.instanceMethod yX5_isArgument ∈ WS ∧ Cond.selects RX5 yX5_isArgument yX5_isArgument ∈ WS := ⟨inWS 989 (by decide +kernel) rfl, inWS 46 (by decide +kernel) rfl⟩
theorem kX5_graph : LnkOK yX5_graph cX5_graph 3 (some .int) 2 := ⟨inWS 995 (by decide +kernel) rfl, inWS 63 (by decide +kernel) rfl, by decide +kernel, by decide +kernel⟩
theorem qX5_graph : Cond.instanceMethod yX5_graph ∈ WS ∧ Cond.selects RX5 yX5_graph yX5_graph ∈ WS := ⟨inWS 993 (by decide +kernel) rfl, inWS 994 (by decide +kernel) rfl⟩
theorem kX5_isGraph : LnkOK yX5_isGraph cX5_isGraph 2 (some .boolean) 1 := ⟨inWS 999 (by decide +kernel) rfl, inWS 63 (by decide +kernel) rfl, by decide +kernel, by decide +kernel⟩
theorem qX5_isGraph : Cond.instanceMethod yX5_isGraph ∈ WS ∧ Cond.selects RX5 yX5_isGraph yX5_isGraph ∈ WS := ⟨inWS 998 (by decide +kernel) rfl, inWS 47 (by decide +kernel) rfl⟩
theorem kX5_word : LnkOK yX5_word cX5_word 4 (some .int) 2 := ⟨inWS 1003 (by decide +kernel) rfl, inWS 63 (by decide +kernel) rfl, by decide +kernel, by decide +kernel⟩
theorem qX5_word : Cond.instanceMethod yX5_word ∈ WS ∧ Cond.selects RX5 yX5_word yX5_word ∈ WS := ⟨inWS 1001 (by decide +kernel) rfl, inWS 1002 (by decide +kernel) rfl⟩
theorem kX5_find : LnkOK yX5_find cX5_find 4 (some .int) 3 := ⟨inWS 1007 (by decide +kernel) rfl, inWS 63 (by decide +kernel) rfl, by decide +kernel, by decide +kernel⟩
theorem qX5_find : Cond.instanceMethod yX5_find ∈ WS ∧ Cond.selects RX5 yX5_find yX5_find ∈ WS := ⟨inWS 1005 (by decide +kernel) rfl, inWS 1006 (by decide +kernel) rfl⟩
theorem kX5_compose : LnkOK yX5_compose cX5_compose 3 (some .int) 2 := ⟨inWS 1012 (by decide +kernel) rfl, inWS 63 (by decide +kernel) rfl, by decide +kernel, by decide +kernel⟩
theorem qX5_compose : Cond.instanceMethod yX5_compose ∈ WS ∧ Cond.selects RX5 yX5_compose yX5_compose ∈ WS := ⟨inWS 1010 (by decide +kernel) rfl, inWS 1011 (by decide +kernel) rfl⟩
theorem kX5_witness : LnkOK yX5_witness cX5_witness 2 (some .int) 1 := ⟨inWS 1016 (by decide +kernel) rfl, inWS 63 (by decide +kernel) rfl, by decide +kernel, by decide +kernel⟩
theorem qX5_witness : Cond.instanceMethod yX5_witness ∈ WS ∧ Cond.selects RX5 yX5_witness yX5_witness ∈ WS := ⟨inWS 1014 (by decide +kernel) rfl, inWS 1015 (by decide +kernel) rfl⟩
theorem kX5_open : LnkOK yX5_open cX5_open 2 (some .int) 1 := ⟨inWS 1020 (by decide +kernel) rfl, inWS 63 (by decide +kernel) rfl, by decide +kernel, by decide +kernel⟩
theorem qX5_open : Cond.instanceMethod yX5_open ∈ WS ∧ Cond.selects RX5 yX5_open yX5_open ∈ WS := ⟨inWS 1018 (by decide +kernel) rfl, inWS 1019 (by decide +kernel) rfl⟩
theorem kX5_add : LnkOK yX5_add cX5_add 5 (some .int) 2 := ⟨inWS 1024 (by decide +kernel) rfl, inWS 63 (by decide +kernel) rfl, by decide +kernel, by decide +kernel⟩
theorem qX5_add : Cond.instanceMethod yX5_add ∈ WS ∧ Cond.selects RX5 yX5_add yX5_add ∈ WS := ⟨inWS 1022 (by decide +kernel) rfl, inWS 1023 (by decide +kernel) rfl⟩
theorem kX5_cut : LnkOK yX5_cut cX5_cut 3 (some .int) 1 := ⟨inWS 1028 (by decide +kernel) rfl, inWS 63 (by decide +kernel) rfl, by decide +kernel, by decide +kernel⟩
theorem qX5_cut : Cond.instanceMethod yX5_cut ∈ WS ∧ Cond.selects RX5 yX5_cut yX5_cut ∈ WS := ⟨inWS 1026 (by decide +kernel) rfl, inWS 1027 (by decide +kernel) rfl⟩
theorem kX5_set : LnkOK yX5_set cX5_set 5 (some .int) 3 := ⟨inWS 1032 (by decide +kernel) rfl, inWS 63 (by decide +kernel) rfl, by decide +kernel, by decide +kernel⟩
theorem qX5_set : Cond.instanceMethod yX5_set ∈ WS ∧ Cond.selects RX5 yX5_set yX5_set ∈ WS := ⟨inWS 1030 (by decide +kernel) rfl, inWS 1031 (by decide +kernel) rfl⟩
theorem kX5_mayBe : LnkOK yX5_mayBe cX5_mayBe 5 (some .boolean) 2 := ⟨inWS 1035 (by decide +kernel) rfl, inWS 63 (by decide +kernel) rfl, by decide +kernel, by decide +kernel⟩
theorem qX5_mayBe : Cond.static yX5_mayBe ∈ WS := inWS 1034 (by decide +kernel) rfl
theorem kX5_toldOf : LnkOK yX5_toldOf cX5_toldOf 3 (some .int) 2 := ⟨inWS 1040 (by decide +kernel) rfl, inWS 63 (by decide +kernel) rfl, by decide +kernel, by decide +kernel⟩
theorem qX5_toldOf : Cond.instanceMethod yX5_toldOf ∈ WS ∧ Cond.selects RX5 yX5_toldOf yX5_toldOf ∈ WS := ⟨inWS 1039 (by decide +kernel) rfl, inWS 48 (by decide +kernel) rfl⟩
theorem kX5_argumentBecomes : LnkOK yX5_argumentBecomes cX5_argumentBecomes 5 none 3 := ⟨inWS 1044 (by decide +kernel) rfl, inWS 63 (by decide +kernel) rfl, by decide +kernel, by decide +kernel⟩
theorem qX5_argumentBecomes : Cond.instanceMethod yX5_argumentBecomes ∈ WS ∧ Cond.selects RX5 yX5_argumentBecomes yX5_argumentBecomes ∈ WS := ⟨inWS 1043 (by decide +kernel) rfl, inWS 49 (by decide +kernel) rfl⟩
theorem kX5_spare : LnkOK yX5_spare cX5_spare 3 (some .int) 0 := ⟨inWS 1048 (by decide +kernel) rfl, inWS 63 (by decide +kernel) rfl, by decide +kernel, by decide +kernel⟩
theorem qX5_spare : Cond.instanceMethod yX5_spare ∈ WS ∧ Cond.selects RX5 yX5_spare yX5_spare ∈ WS := ⟨inWS 1046 (by decide +kernel) rfl, inWS 1047 (by decide +kernel) rfl⟩
theorem kX5_mend : LnkOK yX5_mend cX5_mend 4 (some .int) 0 := ⟨inWS 1052 (by decide +kernel) rfl, inWS 63 (by decide +kernel) rfl, by decide +kernel, by decide +kernel⟩
theorem qX5_mend : Cond.instanceMethod yX5_mend ∈ WS ∧ Cond.selects RX5 yX5_mend yX5_mend ∈ WS := ⟨inWS 1050 (by decide +kernel) rfl, inWS 1051 (by decide +kernel) rfl⟩
theorem kX5_endsIf : LnkOK yX5_endsIf cX5_endsIf 6 (some .boolean) 3 := ⟨inWS 1056 (by decide +kernel) rfl, inWS 63 (by decide +kernel) rfl, by decide +kernel, by decide +kernel⟩
theorem qX5_endsIf : Cond.instanceMethod yX5_endsIf ∈ WS ∧ Cond.selects RX5 yX5_endsIf yX5_endsIf ∈ WS := ⟨inWS 1055 (by decide +kernel) rfl, inWS 50 (by decide +kernel) rfl⟩
theorem kX5_loops : LnkOK yX5_loops cX5_loops 1 (some .int) 0 := ⟨inWS 1060 (by decide +kernel) rfl, inWS 63 (by decide +kernel) rfl, by decide +kernel, by decide +kernel⟩
theorem qX5_loops : Cond.instanceMethod yX5_loops ∈ WS ∧ Cond.selects RX5 yX5_loops yX5_loops ∈ WS := ⟨inWS 1058 (by decide +kernel) rfl, inWS 1059 (by decide +kernel) rfl⟩
theorem kX5_run : LnkOK yX5_run cX5_run 12 (some .int) 4 := ⟨inWS 1064 (by decide +kernel) rfl, inWS 63 (by decide +kernel) rfl, by decide +kernel, by decide +kernel⟩
theorem qX5_run : Cond.instanceMethod yX5_run ∈ WS ∧ Cond.selects RX5 yX5_run yX5_run ∈ WS := ⟨inWS 1062 (by decide +kernel) rfl, inWS 1063 (by decide +kernel) rfl⟩
theorem kX5_madeMany : LnkOK yX5_madeMany cX5_madeMany 4 (some .int) 1 := ⟨inWS 1069 (by decide +kernel) rfl, inWS 63 (by decide +kernel) rfl, by decide +kernel, by decide +kernel⟩
theorem qX5_madeMany : Cond.instanceMethod yX5_madeMany ∈ WS ∧ Cond.selects RX5 yX5_madeMany yX5_madeMany ∈ WS := ⟨inWS 1068 (by decide +kernel) rfl, inWS 51 (by decide +kernel) rfl⟩
theorem kX5_isMade : LnkOK yX5_isMade cX5_isMade 7 (some .boolean) 1 := ⟨inWS 1073 (by decide +kernel) rfl, inWS 63 (by decide +kernel) rfl, by decide +kernel, by decide +kernel⟩
theorem qX5_isMade : Cond.instanceMethod yX5_isMade ∈ WS ∧ Cond.selects RX5 yX5_isMade yX5_isMade ∈ WS := ⟨inWS 1072 (by decide +kernel) rfl, inWS 52 (by decide +kernel) rfl⟩
theorem kX5_madeAt : LnkOK yX5_madeAt cX5_madeAt 5 (some .int) 2 := ⟨inWS 1078 (by decide +kernel) rfl, inWS 63 (by decide +kernel) rfl, by decide +kernel, by decide +kernel⟩
theorem qX5_madeAt : Cond.instanceMethod yX5_madeAt ∈ WS ∧ Cond.selects RX5 yX5_madeAt yX5_madeAt ∈ WS := ⟨inWS 1077 (by decide +kernel) rfl, inWS 53 (by decide +kernel) rfl⟩
theorem kX5_argumentNow : LnkOK yX5_argumentNow cX5_argumentNow 5 (some .int) 2 := ⟨inWS 1082 (by decide +kernel) rfl, inWS 63 (by decide +kernel) rfl, by decide +kernel, by decide +kernel⟩
theorem qX5_argumentNow : Cond.instanceMethod yX5_argumentNow ∈ WS ∧ Cond.selects RX5 yX5_argumentNow yX5_argumentNow ∈ WS := ⟨inWS 1081 (by decide +kernel) rfl, inWS 54 (by decide +kernel) rfl⟩
theorem kX5_keep : LnkOK yX5_keep cX5_keep 4 (some .int) 1 := ⟨inWS 1086 (by decide +kernel) rfl, inWS 63 (by decide +kernel) rfl, by decide +kernel, by decide +kernel⟩
theorem qX5_keep : Cond.instanceMethod yX5_keep ∈ WS ∧ Cond.selects RX5 yX5_keep yX5_keep ∈ WS := ⟨inWS 1084 (by decide +kernel) rfl, inWS 1085 (by decide +kernel) rfl⟩
theorem kX5_back : LnkOK yX5_back cX5_back 3 (some .int) 1 := ⟨inWS 1090 (by decide +kernel) rfl, inWS 63 (by decide +kernel) rfl, by decide +kernel, by decide +kernel⟩
theorem qX5_back : Cond.instanceMethod yX5_back ∈ WS ∧ Cond.selects RX5 yX5_back yX5_back ∈ WS := ⟨inWS 1088 (by decide +kernel) rfl, inWS 1089 (by decide +kernel) rfl⟩
theorem kX5_sheet : LnkOK yX5_sheet cX5_sheet 5 (some .int) 3 := ⟨inWS 1094 (by decide +kernel) rfl, inWS 63 (by decide +kernel) rfl, by decide +kernel, by decide +kernel⟩
theorem qX5_sheet : Cond.instanceMethod yX5_sheet ∈ WS ∧ Cond.selects RX5 yX5_sheet yX5_sheet ∈ WS := ⟨inWS 1092 (by decide +kernel) rfl, inWS 1093 (by decide +kernel) rfl⟩
theorem kX5_isSheet : LnkOK yX5_isSheet cX5_isSheet 2 (some .boolean) 2 := ⟨inWS 1097 (by decide +kernel) rfl, inWS 63 (by decide +kernel) rfl, by decide +kernel, by decide +kernel⟩
theorem qX5_isSheet : Cond.static yX5_isSheet ∈ WS := inWS 1096 (by decide +kernel) rfl
theorem kX5_lay : LnkOK yX5_lay cX5_lay 4 (some .int) 3 := ⟨inWS 1101 (by decide +kernel) rfl, inWS 63 (by decide +kernel) rfl, by decide +kernel, by decide +kernel⟩
theorem qX5_lay : Cond.instanceMethod yX5_lay ∈ WS ∧ Cond.selects RX5 yX5_lay yX5_lay ∈ WS := ⟨inWS 1099 (by decide +kernel) rfl, inWS 1100 (by decide +kernel) rfl⟩
theorem kX5_read : LnkOK yX5_read cX5_read 11 (some .int) 4 := ⟨inWS 1105 (by decide +kernel) rfl, inWS 63 (by decide +kernel) rfl, by decide +kernel, by decide +kernel⟩
theorem qX5_read : Cond.instanceMethod yX5_read ∈ WS ∧ Cond.selects RX5 yX5_read yX5_read ∈ WS := ⟨inWS 1103 (by decide +kernel) rfl, inWS 1104 (by decide +kernel) rfl⟩
theorem kX5_torn : LnkOK yX5_torn cX5_torn 1 (some .int) 0 := ⟨inWS 1111 (by decide +kernel) rfl, inWS 63 (by decide +kernel) rfl, by decide +kernel, by decide +kernel⟩
theorem qX5_torn : Cond.instanceMethod yX5_torn ∈ WS ∧ Cond.selects RX5 yX5_torn yX5_torn ∈ WS := ⟨inWS 1109 (by decide +kernel) rfl, inWS 1110 (by decide +kernel) rfl⟩
theorem kX5_count : LnkOK yX5_count cX5_count 2 (some .int) 1 := ⟨inWS 1115 (by decide +kernel) rfl, inWS 63 (by decide +kernel) rfl, by decide +kernel, by decide +kernel⟩
theorem qX5_count : Cond.instanceMethod yX5_count ∈ WS ∧ Cond.selects RX5 yX5_count yX5_count ∈ WS := ⟨inWS 1113 (by decide +kernel) rfl, inWS 1114 (by decide +kernel) rfl⟩
theorem kX5_plainArguments : LnkOK yX5_plainArguments cX5_plainArguments 4 (some .int) 0 := ⟨inWS 1119 (by decide +kernel) rfl, inWS 63 (by decide +kernel) rfl, by decide +kernel, by decide +kernel⟩
theorem qX5_plainArguments : Cond.instanceMethod yX5_plainArguments ∈ WS ∧ Cond.selects RX5 yX5_plainArguments yX5_plainArguments ∈ WS := ⟨inWS 1118 (by decide +kernel) rfl, inWS 55 (by decide +kernel) rfl⟩
theorem kX5_codesOfAll : LnkOK yX5_codesOfAll cX5_codesOfAll 3 (some .int) 0 := ⟨inWS 1123 (by decide +kernel) rfl, inWS 63 (by decide +kernel) rfl, by decide +kernel, by decide +kernel⟩
theorem qX5_codesOfAll : Cond.instanceMethod yX5_codesOfAll ∈ WS ∧ Cond.selects RX5 yX5_codesOfAll yX5_codesOfAll ∈ WS := ⟨inWS 1122 (by decide +kernel) rfl, inWS 56 (by decide +kernel) rfl⟩
theorem mlX4_60 : Cond.methodLink RX4 60 yX1_clear ∈ WS := inWS 254 (by decide +kernel) rfl
theorem mlX4_63 : Cond.methodLink RX4 63 yX3_tell ∈ WS := inWS 258 (by decide +kernel) rfl
theorem mlX4_73 : Cond.methodLink RX4 73 yX1_copy ∈ WS := inWS 380 (by decide +kernel) rfl
theorem mlX4_83 : Cond.methodLink RX4 83 yX4_fresh ∈ WS := inWS 395 (by decide +kernel) rfl
theorem mlX4_90 : Cond.methodLink RX4 90 yX0_idleOnes ∈ WS := inWS 467 (by decide +kernel) rfl
theorem mlX4_97 : Cond.methodLink RX4 97 yX4_bit ∈ WS := inWS 471 (by decide +kernel) rfl
theorem mlX4_101 : Cond.methodLink RX4 101 yX0_componentsBelow ∈ WS := inWS 472 (by decide +kernel) rfl
theorem mlX4_105 : Cond.methodLink RX4 105 yX0_neededOnes ∈ WS := inWS 484 (by decide +kernel) rfl
theorem mlX4_108 : Cond.methodLink RX4 108 yX1_hasFunction ∈ WS := inWS 496 (by decide +kernel) rfl
theorem mlX4_116 : Cond.methodLink RX4 116 yX1_callsFrom ∈ WS := inWS 500 (by decide +kernel) rfl
theorem mlX4_119 : Cond.methodLink RX4 119 yX0_componentOf ∈ WS := inWS 504 (by decide +kernel) rfl
theorem mlX4_122 : Cond.methodLink RX4 122 yX0_firstLoopOf ∈ WS := inWS 509 (by decide +kernel) rfl
theorem mlX4_128 : Cond.methodLink RX4 128 yX1_hasCall ∈ WS := inWS 517 (by decide +kernel) rfl
theorem mlX4_137 : Cond.methodLink RX4 137 yX1_bitsOf ∈ WS := inWS 521 (by decide +kernel) rfl
theorem mlX4_140 : Cond.methodLink RX4 140 yX0_codeOf ∈ WS := inWS 522 (by decide +kernel) rfl
theorem mlX4_146 : Cond.methodLink RX4 146 yX1_hasArgument ∈ WS := inWS 527 (by decide +kernel) rfl
theorem mlX4_150 : Cond.methodLink RX4 150 yX1_argumentAt ∈ WS := inWS 532 (by decide +kernel) rfl
theorem mlX4_154 : Cond.methodLink RX4 154 yX4_kindOf ∈ WS := inWS 533 (by decide +kernel) rfl
theorem mlX4_157 : Cond.methodLink RX4 157 yX4_valueOf ∈ WS := inWS 534 (by decide +kernel) rfl
theorem mlX4_160 : Cond.methodLink RX4 160 yX4_numberOf ∈ WS := inWS 535 (by decide +kernel) rfl
theorem mlX4_163 : Cond.methodLink RX4 163 yX0_has ∈ WS := inWS 540 (by decide +kernel) rfl
theorem mlX4_166 : Cond.methodLink RX4 166 yX0_fromOf ∈ WS := inWS 544 (by decide +kernel) rfl
theorem mlX4_169 : Cond.methodLink RX4 169 yX0_toOf ∈ WS := inWS 545 (by decide +kernel) rfl
theorem mlX4_178 : Cond.methodLink RX4 178 yX0_isIdle ∈ WS := inWS 546 (by decide +kernel) rfl
theorem mlX4_181 : Cond.methodLink RX4 181 yX0_fallsIn ∈ WS := inWS 547 (by decide +kernel) rfl
theorem mlX4_184 : Cond.methodLink RX4 184 yX0_isLoop ∈ WS := inWS 548 (by decide +kernel) rfl
theorem mlX4_187 : Cond.methodLink RX4 187 yX0_isNeedless ∈ WS := inWS 549 (by decide +kernel) rfl
theorem mlX4_190 : Cond.methodLink RX4 190 yX0_callOfWord ∈ WS := inWS 554 (by decide +kernel) rfl
theorem mlX4_193 : Cond.methodLink RX4 193 yX0_at ∈ WS := inWS 562 (by decide +kernel) rfl
theorem mlX4_196 : Cond.methodLink RX4 196 yX4_orNone ∈ WS := inWS 566 (by decide +kernel) rfl
theorem mlX4_199 : Cond.methodLink RX4 199 yX0_composed ∈ WS := inWS 573 (by decide +kernel) rfl
theorem mlX4_202 : Cond.methodLink RX4 202 yX1_appendFunction ∈ WS := inWS 582 (by decide +kernel) rfl
theorem mlX4_206 : Cond.methodLink RX4 206 yX1_appendCall ∈ WS := inWS 587 (by decide +kernel) rfl
theorem mlX4_210 : Cond.methodLink RX4 210 yX1_takes ∈ WS := inWS 596 (by decide +kernel) rfl
theorem mlX4_214 : Cond.methodLink RX4 214 yX1_putArgument ∈ WS := inWS 602 (by decide +kernel) rfl
theorem mlX4_218 : Cond.methodLink RX4 218 yX0_callsOfEveryLoop ∈ WS := inWS 607 (by decide +kernel) rfl
theorem mlX4_221 : Cond.methodLink RX4 221 yX1_removeCall ∈ WS := inWS 611 (by decide +kernel) rfl
theorem mlX4_224 : Cond.methodLink RX4 224 yX4_trialEnds ∈ WS := inWS 615 (by decide +kernel) rfl
theorem mlX4_228 : Cond.methodLink RX4 228 yX4_argumentOf ∈ WS := inWS 623 (by decide +kernel) rfl
theorem mlX4_231 : Cond.methodLink RX4 231 yX0_neededLoops ∈ WS := inWS 628 (by decide +kernel) rfl
theorem mlX4_234 : Cond.methodLink RX4 234 yX1_callsMade ∈ WS := inWS 636 (by decide +kernel) rfl
theorem mlX4_238 : Cond.methodLink RX4 238 yX1_callMade ∈ WS := inWS 645 (by decide +kernel) rfl
theorem mlX4_242 : Cond.methodLink RX4 242 yX1_worth ∈ WS := inWS 649 (by decide +kernel) rfl
theorem mlX4_245 : Cond.methodLink RX4 245 yX4_isImage ∈ WS := inWS 660 (by decide +kernel) rfl
theorem mlX4_248 : Cond.methodLink RX4 248 yX4_isSheet ∈ WS := inWS 671 (by decide +kernel) rfl
theorem mlX4_251 : Cond.methodLink RX4 251 yX4_isLane ∈ WS := inWS 674 (by decide +kernel) rfl
theorem mlX4_254 : Cond.methodLink RX4 254 yX2_begin ∈ WS := inWS 677 (by decide +kernel) rfl
theorem mlX4_260 : Cond.methodLink RX4 260 yX2_faultAt ∈ WS := inWS 686 (by decide +kernel) rfl
theorem mlX4_263 : Cond.methodLink RX4 263 yX2_put ∈ WS := inWS 690 (by decide +kernel) rfl
theorem mlX4_272 : Cond.methodLink RX4 272 yX1_plainNumbers ∈ WS := inWS 706 (by decide +kernel) rfl
theorem mlX4_276 : Cond.methodLink RX4 276 yX1_arities ∈ WS := inWS 710 (by decide +kernel) rfl
theorem mlX4_279 : Cond.methodLink RX4 279 yX0_sumOfCodes ∈ WS := inWS 714 (by decide +kernel) rfl
theorem mlX4_282 : Cond.methodLink RX4 282 yX0_close ∈ WS := inWS 399 (by decide +kernel) rfl
theorem mlX0_42 : Cond.methodLink RX0 42 yX0_forget ∈ WS := inWS 403 (by decide +kernel) rfl
theorem mlX0_57 : Cond.methodLink RX0 57 yX1_bitsOf ∈ WS := inWS 410 (by decide +kernel) rfl
theorem mlX0_61 : Cond.methodLink RX0 61 yX0_meet ∈ WS := inWS 431 (by decide +kernel) rfl
theorem mlX0_71 : Cond.methodLink RX0 71 yX0_toOf ∈ WS := inWS 459 (by decide +kernel) rfl
theorem mlX0_74 : Cond.methodLink RX0 74 yX0_composed ∈ WS := inWS 463 (by decide +kernel) rfl
theorem mlX0_78 : Cond.methodLink RX0 78 yX0_fromOf ∈ WS := inWS 455 (by decide +kernel) rfl
theorem mlX0_81 : Cond.methodLink RX0 81 yJ7_fill_53178 ∈ WS := inWS 407 (by decide +kernel) rfl
theorem mlX0_87 : Cond.methodLink RX0 87 yX0_codeOf ∈ WS := inWS 435 (by decide +kernel) rfl
theorem mlX0_90 : Cond.methodLink RX0 90 yX0_placeOf ∈ WS := inWS 440 (by decide +kernel) rfl
theorem mlX0_94 : Cond.methodLink RX0 94 yX0_isLoop ∈ WS := inWS 443 (by decide +kernel) rfl
theorem mlX0_102 : Cond.methodLink RX0 102 yX0_fallsIn ∈ WS := inWS 447 (by decide +kernel) rfl
theorem mlX0_105 : Cond.methodLink RX0 105 yX0_isIdle ∈ WS := inWS 451 (by decide +kernel) rfl
theorem mlX0_108 : Cond.methodLink RX0 108 yX0_isNeedless ∈ WS := inWS 488 (by decide +kernel) rfl
theorem mlX0_111 : Cond.methodLink RX0 111 yX0_isTogether ∈ WS := inWS 480 (by decide +kernel) rfl
theorem mlX0_115 : Cond.methodLink RX0 115 yX0_firstOfComponent ∈ WS := inWS 476 (by decide +kernel) rfl
theorem mlX0_118 : Cond.methodLink RX0 118 yX0_componentsBelow ∈ WS := inWS 508 (by decide +kernel) rfl
theorem mlX1_37 : Cond.methodLink RX1 37 yX1_hasCall ∈ WS := inWS 531 (by decide +kernel) rfl
theorem mlX1_41 : Cond.methodLink RX1 41 yX1_putArgument ∈ WS := inWS 359 (by decide +kernel) rfl
theorem mlX1_45 : Cond.methodLink RX1 45 yX1_argumentAt ∈ WS := inWS 414 (by decide +kernel) rfl
theorem mlX1_49 : Cond.methodLink RX1 49 yX1_hasArgument ∈ WS := inWS 600 (by decide +kernel) rfl
theorem mlX1_71 : Cond.methodLink RX1 71 yX1_relation ∈ WS := inWS 418 (by decide +kernel) rfl
theorem mlX1_74 : Cond.methodLink RX1 74 yX1_isMade ∈ WS := inWS 640 (by decide +kernel) rfl
theorem mlX1_78 : Cond.methodLink RX1 78 yJ9_min_7cf53 ∈ WS := inWS 653 (by decide +kernel) rfl
theorem mlX2_22 : Cond.methodLink RX2 22 yJ7_fill_53178 ∈ WS := inWS 681 (by decide +kernel) rfl
theorem mlX3_22 : Cond.methodLink RX3 22 yX3_step ∈ WS := inWS 262 (by decide +kernel) rfl
theorem mlX3_30 : Cond.methodLink RX3 30 yX3_isName ∈ WS := inWS 274 (by decide +kernel) rfl
theorem mlX3_34 : Cond.methodLink RX3 34 yX3_tellFunction ∈ WS := inWS 326 (by decide +kernel) rfl
theorem mlX3_40 : Cond.methodLink RX3 40 yX3_tellCall ∈ WS := inWS 351 (by decide +kernel) rfl
theorem mlX3_43 : Cond.methodLink RX3 43 yX3_refuse ∈ WS := inWS 269 (by decide +kernel) rfl
theorem mlX3_52 : Cond.methodLink RX3 52 yX3_takeNumber ∈ WS := inWS 330 (by decide +kernel) rfl
theorem mlX3_56 : Cond.methodLink RX3 56 yX3_takeLineEnd ∈ WS := inWS 338 (by decide +kernel) rfl
theorem mlX3_59 : Cond.methodLink RX3 59 yX1_appendFunction ∈ WS := inWS 346 (by decide +kernel) rfl
theorem mlX3_65 : Cond.methodLink RX3 65 yX1_appendCall ∈ WS := inWS 355 (by decide +kernel) rfl
theorem mlX3_73 : Cond.methodLink RX3 73 yX3_takeArgument ∈ WS := inWS 363 (by decide +kernel) rfl
theorem mlX3_77 : Cond.methodLink RX3 77 yX1_putArgument ∈ WS := inWS 379 (by decide +kernel) rfl
theorem mlX3_85 : Cond.methodLink RX3 85 yX3_takeValue ∈ WS := inWS 370 (by decide +kernel) rfl
theorem mlX3_88 : Cond.methodLink RX3 88 yX3_isSign ∈ WS := inWS 342 (by decide +kernel) rfl
theorem mlX3_100 : Cond.methodLink RX3 100 yX3_numberRead ∈ WS := inWS 334 (by decide +kernel) rfl
theorem mlX3_107 : Cond.methodLink RX3 107 yJ0_length_8abf5 ∈ WS := inWS 278 (by decide +kernel) rfl
theorem mlX3_112 : Cond.methodLink RX3 112 yJ0_charAt_5068e ∈ WS := inWS 288 (by decide +kernel) rfl
theorem mlX3_118 : Cond.methodLink RX3 118 yX3_tokenOf ∈ WS := inWS 266 (by decide +kernel) rfl
theorem mlL_13 : Cond.methodLink RL 13 yX4_feed ∈ WS := inWS 242 (by decide +kernel) rfl
theorem mlL_17 : Cond.methodLink RL 17 yX5_feed ∈ WS := inWS 809 (by decide +kernel) rfl
theorem mlL_18 : Cond.methodLink RL 18 yX4_end ∈ WS := inWS 246 (by decide +kernel) rfl
theorem mlL_21 : Cond.methodLink RL 21 yX5_end ∈ WS := inWS 817 (by decide +kernel) rfl
theorem mlL_22 : Cond.methodLink RL 22 yX4_text ∈ WS := inWS 250 (by decide +kernel) rfl
theorem mlL_26 : Cond.methodLink RL 26 yX5_text ∈ WS := inWS 821 (by decide +kernel) rfl
theorem mlL_27 : Cond.methodLink RL 27 yX4_fault ∈ WS := inWS 387 (by decide +kernel) rfl
theorem mlL_30 : Cond.methodLink RL 30 yX5_fault ∈ WS := inWS 868 (by decide +kernel) rfl
theorem mlL_31 : Cond.methodLink RL 31 yX4_rule ∈ WS := inWS 391 (by decide +kernel) rfl
theorem mlL_34 : Cond.methodLink RL 34 yX5_rule ∈ WS := inWS 872 (by decide +kernel) rfl
theorem mlL_35 : Cond.methodLink RL 35 yX4_fun ∈ WS := inWS 492 (by decide +kernel) rfl
theorem mlL_39 : Cond.methodLink RL 39 yX5_fun ∈ WS := inWS 954 (by decide +kernel) rfl
theorem mlL_40 : Cond.methodLink RL 40 yX4_call ∈ WS := inWS 513 (by decide +kernel) rfl
theorem mlL_43 : Cond.methodLink RL 43 yX5_call ∈ WS := inWS 974 (by decide +kernel) rfl
theorem mlL_44 : Cond.methodLink RL 44 yX4_argument ∈ WS := inWS 523 (by decide +kernel) rfl
theorem mlL_48 : Cond.methodLink RL 48 yX5_argument ∈ WS := inWS 983 (by decide +kernel) rfl
theorem mlL_49 : Cond.methodLink RL 49 yX4_graph ∈ WS := inWS 536 (by decide +kernel) rfl
theorem mlL_52 : Cond.methodLink RL 52 yX5_graph ∈ WS := inWS 992 (by decide +kernel) rfl
theorem mlL_53 : Cond.methodLink RL 53 yX4_word ∈ WS := inWS 550 (by decide +kernel) rfl
theorem mlL_56 : Cond.methodLink RL 56 yX5_word ∈ WS := inWS 1000 (by decide +kernel) rfl
theorem mlL_57 : Cond.methodLink RL 57 yX4_find ∈ WS := inWS 558 (by decide +kernel) rfl
theorem mlL_60 : Cond.methodLink RL 60 yX5_find ∈ WS := inWS 1004 (by decide +kernel) rfl
theorem mlL_61 : Cond.methodLink RL 61 yX4_compose ∈ WS := inWS 569 (by decide +kernel) rfl
theorem mlL_64 : Cond.methodLink RL 64 yX5_compose ∈ WS := inWS 1009 (by decide +kernel) rfl
theorem mlL_65 : Cond.methodLink RL 65 yX4_witness ∈ WS := inWS 574 (by decide +kernel) rfl
theorem mlL_68 : Cond.methodLink RL 68 yX5_witness ∈ WS := inWS 1013 (by decide +kernel) rfl
theorem mlL_69 : Cond.methodLink RL 69 yX4_open ∈ WS := inWS 578 (by decide +kernel) rfl
theorem mlL_72 : Cond.methodLink RL 72 yX5_open ∈ WS := inWS 1017 (by decide +kernel) rfl
theorem mlL_73 : Cond.methodLink RL 73 yX4_add ∈ WS := inWS 583 (by decide +kernel) rfl
theorem mlL_76 : Cond.methodLink RL 76 yX5_add ∈ WS := inWS 1021 (by decide +kernel) rfl
theorem mlL_77 : Cond.methodLink RL 77 yX4_cut ∈ WS := inWS 588 (by decide +kernel) rfl
theorem mlL_80 : Cond.methodLink RL 80 yX5_cut ∈ WS := inWS 1025 (by decide +kernel) rfl
theorem mlL_81 : Cond.methodLink RL 81 yX4_set ∈ WS := inWS 592 (by decide +kernel) rfl
theorem mlL_84 : Cond.methodLink RL 84 yX5_set ∈ WS := inWS 1029 (by decide +kernel) rfl
theorem mlL_85 : Cond.methodLink RL 85 yX4_spare ∈ WS := inWS 603 (by decide +kernel) rfl
theorem mlL_88 : Cond.methodLink RL 88 yX5_spare ∈ WS := inWS 1045 (by decide +kernel) rfl
theorem mlL_89 : Cond.methodLink RL 89 yX4_mend ∈ WS := inWS 619 (by decide +kernel) rfl
theorem mlL_92 : Cond.methodLink RL 92 yX5_mend ∈ WS := inWS 1049 (by decide +kernel) rfl
theorem mlL_93 : Cond.methodLink RL 93 yX4_loops ∈ WS := inWS 624 (by decide +kernel) rfl
theorem mlL_96 : Cond.methodLink RL 96 yX5_loops ∈ WS := inWS 1057 (by decide +kernel) rfl
theorem mlL_97 : Cond.methodLink RL 97 yX4_run ∈ WS := inWS 632 (by decide +kernel) rfl
theorem mlL_101 : Cond.methodLink RL 101 yX5_run ∈ WS := inWS 1061 (by decide +kernel) rfl
theorem mlL_102 : Cond.methodLink RL 102 yX4_keep ∈ WS := inWS 656 (by decide +kernel) rfl
theorem mlL_105 : Cond.methodLink RL 105 yX5_keep ∈ WS := inWS 1083 (by decide +kernel) rfl
theorem mlL_106 : Cond.methodLink RL 106 yX4_back ∈ WS := inWS 663 (by decide +kernel) rfl
theorem mlL_109 : Cond.methodLink RL 109 yX5_back ∈ WS := inWS 1087 (by decide +kernel) rfl
theorem mlL_110 : Cond.methodLink RL 110 yX4_sheet ∈ WS := inWS 667 (by decide +kernel) rfl
theorem mlL_113 : Cond.methodLink RL 113 yX5_sheet ∈ WS := inWS 1091 (by decide +kernel) rfl
theorem mlL_114 : Cond.methodLink RL 114 yX4_lay ∈ WS := inWS 682 (by decide +kernel) rfl
theorem mlL_117 : Cond.methodLink RL 117 yX5_lay ∈ WS := inWS 1098 (by decide +kernel) rfl
theorem mlL_118 : Cond.methodLink RL 118 yX4_read ∈ WS := inWS 694 (by decide +kernel) rfl
theorem mlL_121 : Cond.methodLink RL 121 yX5_read ∈ WS := inWS 1102 (by decide +kernel) rfl
theorem mlL_122 : Cond.methodLink RL 122 yX4_torn ∈ WS := inWS 698 (by decide +kernel) rfl
theorem mlL_125 : Cond.methodLink RL 125 yX5_torn ∈ WS := inWS 1108 (by decide +kernel) rfl
theorem mlL_126 : Cond.methodLink RL 126 yX4_count ∈ WS := inWS 702 (by decide +kernel) rfl
theorem mlL_129 : Cond.methodLink RL 129 yX5_count ∈ WS := inWS 1112 (by decide +kernel) rfl
theorem mlX5_71 : Cond.methodLink RX5 71 yX5_in ∈ WS := inWS 814 (by decide +kernel) rfl
theorem mlX5_93 : Cond.methodLink RX5 93 yX5_byteAt ∈ WS := inWS 829 (by decide +kernel) rfl
theorem mlX5_108 : Cond.methodLink RX5 108 yX5_requires ∈ WS := inWS 837 (by decide +kernel) rfl
theorem mlX5_112 : Cond.methodLink RX5 112 yX5_signOf ∈ WS := inWS 841 (by decide +kernel) rfl
theorem mlX5_115 : Cond.methodLink RX5 115 yX5_reads ∈ WS := inWS 825 (by decide +kernel) rfl
theorem mlX5_118 : Cond.methodLink RX5 118 yX5_wordNow ∈ WS := inWS 848 (by decide +kernel) rfl
theorem mlX5_122 : Cond.methodLink RX5 122 yX5_readNumber ∈ WS := inWS 852 (by decide +kernel) rfl
theorem mlX5_126 : Cond.methodLink RX5 126 yX5_readValue ∈ WS := inWS 864 (by decide +kernel) rfl
theorem mlX5_129 : Cond.methodLink RX5 129 yX5_readArgument ∈ WS := inWS 860 (by decide +kernel) rfl
theorem mlX5_133 : Cond.methodLink RX5 133 yX5_readCall ∈ WS := inWS 856 (by decide +kernel) rfl
theorem mlX5_136 : Cond.methodLink RX5 136 yX5_readLine ∈ WS := inWS 844 (by decide +kernel) rfl
theorem mlX5_139 : Cond.methodLink RX5 139 yX5_of ∈ WS := inWS 880 (by decide +kernel) rfl
theorem mlX5_142 : Cond.methodLink RX5 142 yX5_ofArgument ∈ WS := inWS 895 (by decide +kernel) rfl
theorem mlX5_146 : Cond.methodLink RX5 146 yX5_weightOf ∈ WS := inWS 888 (by decide +kernel) rfl
theorem mlX5_149 : Cond.methodLink RX5 149 yX5_relationOf ∈ WS := inWS 891 (by decide +kernel) rfl
theorem mlX5_152 : Cond.methodLink RX5 152 yX5_relation ∈ WS := inWS 909 (by decide +kernel) rfl
theorem mlX5_155 : Cond.methodLink RX5 155 yX5_slot ∈ WS := inWS 903 (by decide +kernel) rfl
theorem mlX5_161 : Cond.methodLink RX5 161 yX5_codeOf ∈ WS := inWS 884 (by decide +kernel) rfl
theorem mlX5_164 : Cond.methodLink RX5 164 yX5_comes ∈ WS := inWS 899 (by decide +kernel) rfl
theorem mlX5_168 : Cond.methodLink RX5 168 yX5_composed ∈ WS := inWS 906 (by decide +kernel) rfl
theorem mlX5_171 : Cond.methodLink RX5 171 yX5_flag ∈ WS := inWS 928 (by decide +kernel) rfl
theorem mlX5_175 : Cond.methodLink RX5 175 yX5_isIdle ∈ WS := inWS 916 (by decide +kernel) rfl
theorem mlX5_179 : Cond.methodLink RX5 179 yX5_fallsOf ∈ WS := inWS 924 (by decide +kernel) rfl
theorem mlX5_182 : Cond.methodLink RX5 182 yX5_isNoneAbove ∈ WS := inWS 935 (by decide +kernel) rfl
theorem mlX5_186 : Cond.methodLink RX5 186 yX5_reachOf ∈ WS := inWS 950 (by decide +kernel) rfl
theorem mlX5_189 : Cond.methodLink RX5 189 yX5_isLoop ∈ WS := inWS 920 (by decide +kernel) rfl
theorem mlX5_192 : Cond.methodLink RX5 192 yX5_findGraphs ∈ WS := inWS 876 (by decide +kernel) rfl
theorem mlX5_195 : Cond.methodLink RX5 195 yX5_componentOf ∈ WS := inWS 946 (by decide +kernel) rfl
theorem mlX5_198 : Cond.methodLink RX5 198 yX5_isNeedless ∈ WS := inWS 931 (by decide +kernel) rfl
theorem mlX5_201 : Cond.methodLink RX5 201 yX5_graphsThat ∈ WS := inWS 912 (by decide +kernel) rfl
theorem mlX5_204 : Cond.methodLink RX5 204 yX5_allEnd ∈ WS := inWS 938 (by decide +kernel) rfl
theorem mlX5_208 : Cond.methodLink RX5 208 yX5_components ∈ WS := inWS 942 (by decide +kernel) rfl
theorem mlX5_211 : Cond.methodLink RX5 211 yX5_isFun ∈ WS := inWS 958 (by decide +kernel) rfl
theorem mlX5_214 : Cond.methodLink RX5 214 yX5_callsFrom ∈ WS := inWS 962 (by decide +kernel) rfl
theorem mlX5_217 : Cond.methodLink RX5 217 yX5_componentNumber ∈ WS := inWS 966 (by decide +kernel) rfl
theorem mlX5_220 : Cond.methodLink RX5 220 yX5_loopOf ∈ WS := inWS 970 (by decide +kernel) rfl
theorem mlX5_223 : Cond.methodLink RX5 223 yX5_isCall ∈ WS := inWS 978 (by decide +kernel) rfl
theorem mlX5_228 : Cond.methodLink RX5 228 yX5_isArgument ∈ WS := inWS 987 (by decide +kernel) rfl
theorem mlX5_233 : Cond.methodLink RX5 233 yX5_isGraph ∈ WS := inWS 996 (by decide +kernel) rfl
theorem mlX5_240 : Cond.methodLink RX5 240 yX5_mayBe ∈ WS := inWS 1033 (by decide +kernel) rfl
theorem mlX5_243 : Cond.methodLink RX5 243 yX5_toldOf ∈ WS := inWS 1037 (by decide +kernel) rfl
theorem mlX5_246 : Cond.methodLink RX5 246 yX5_argumentBecomes ∈ WS := inWS 1041 (by decide +kernel) rfl
theorem mlX5_250 : Cond.methodLink RX5 250 yX5_endsIf ∈ WS := inWS 1053 (by decide +kernel) rfl
theorem mlX5_254 : Cond.methodLink RX5 254 yX5_isMade ∈ WS := inWS 1070 (by decide +kernel) rfl
theorem mlX5_259 : Cond.methodLink RX5 259 yX5_madeMany ∈ WS := inWS 1066 (by decide +kernel) rfl
theorem mlX5_263 : Cond.methodLink RX5 263 yX5_madeAt ∈ WS := inWS 1075 (by decide +kernel) rfl
theorem mlX5_266 : Cond.methodLink RX5 266 yX5_argumentNow ∈ WS := inWS 1079 (by decide +kernel) rfl
theorem mlX5_269 : Cond.methodLink RX5 269 yX5_isSheet ∈ WS := inWS 1095 (by decide +kernel) rfl
theorem mlX5_274 : Cond.methodLink RX5 274 yX5_set ∈ WS := inWS 1107 (by decide +kernel) rfl
theorem mlX5_280 : Cond.methodLink RX5 280 yX5_plainArguments ∈ WS := inWS 1116 (by decide +kernel) rfl
theorem mlX5_283 : Cond.methodLink RX5 283 yX5_codesOfAll ∈ WS := inWS 1120 (by decide +kernel) rfl
end
section
/-! words for numbers, loops, and the mathematical state -/
theorem lit (n : Nat) : (OfNat.ofNat n : Int32) = nI n := rfl
def b2i (c : Bool) : Int32 := if c then 1 else 0
theorem b2i_t {c : Bool} (h : c = true) : b2i c = 1 := by rw [h]; rfl
theorem b2i_f {c : Bool} (h : c = false) : b2i c = 0 := by rw [h]; rfl
theorem b2i_01 (c : Bool) : b2i c = 0 ∨ b2i c = 1 := by cases c <;> simp [b2i]
theorem b2i_e0 {c : Bool} : b2i c = 0 ↔ c = false := by cases c <;> simp [b2i]
theorem b2i_n0 {c : Bool} : ¬ b2i c = 0 ↔ c = true := by cases c <;> simp [b2i]
theorem b2i_e1 {c : Bool} : b2i c = 1 ↔ c = true := by cases c <;> simp [b2i]
theorem b2i_b (c : Bool) : b2i (decide (¬ b2i c = 0)) = b2i c := by cases c <;> simp [b2i]
theorem pI {post : PT} {x y : Int32} {f : FF} {a : AA} (h : post (some (.inl x)) f a) (e : x = y) : post (some (.inl y)) f a := e ▸ h
theorem pZ {post : PT} {x y : Int32} {f : FF} {a : AA} (h : post (some (.inl x)) f a) (e : x = y) (hx : x = 0 ∨ x = 1) : (y = 0 ∨ y = 1) ∧ post (some (.inl y)) f a := ⟨e ▸ hx, e ▸ h⟩
theorem pB {post : PT} {c : Bool} {y : Int32} {f : FF} {a : AA} (h : post (some (.inl (b2i c))) f a) (e : b2i c = y) : (y = 0 ∨ y = 1) ∧ post (some (.inl y)) f a := pZ h e (b2i_01 c)
theorem pT {post : PT} {c : Bool} {f : FF} {a : AA} (h : post (some (.inl (b2i c))) f a) (e : c = true) : ((1 : Int32) = 0 ∨ (1 : Int32) = 1) ∧ post (some (.inl 1)) f a := pB h (b2i_t e)
theorem pF {post : PT} {c : Bool} {f : FF} {a : AA} (h : post (some (.inl (b2i c))) f a) (e : c = false) : ((0 : Int32) = 0 ∨ (0 : Int32) = 1) ∧ post (some (.inl 0)) f a := pB h (b2i_f e)
theorem pV {post : PT} {f f' : FF} {a a' : AA} (h : post none f a) (e1 : f = f') (e2 : a = a') : post none f' a' := by subst e1; subst e2; exact h
theorem pIV {post : PT} {x y : Int32} {f f' : FF} {a a' : AA} (h : post (some (.inl x)) f a) (e : x = y) (e1 : f = f') (e2 : a = a') : post (some (.inl y)) f' a' := by subst e; subst e1; subst e2; exact h
theorem xE {X : XT} {pc : Nat} {ls : Lcs} {st : List AV} {f f' : FF} {a a' : AA} (h : X pc ls st f a) (e1 : f = f') (e2 : a = a') : X pc ls st f' a' := by subst e1; subst e2; exact h
/-- an index of a row -/
theorem inA {t k n : Nat} {x : Int32} (N : Nat) (hx : x = nI n) (hN : al t k = N) (h : n < N) (h31 : N < 2 ^ 31) : vp_in x (al t k) := by
  rw [hx, hN]
  exact vp_in_nI h h31
/-- a loop whose state is told by its counter -/
theorem forUp {Pr : Nat → Prop} {n : Nat} (step : ∀ i, i < n → Pr (i + 1) → Pr i) (last : Pr n) : ∀ i, i ≤ n → Pr i := by
  have key : ∀ d i, i + d = n → Pr i := by
    intro d
    induction d with
    | zero => intro i h; rw [Nat.add_zero] at h; rw [h]; exact last
    | succ d ih => intro i h; exact step i (by omega) (ih (i + 1) (by omega))
  intro i h
  exact key (n - i) i (by omega)
theorem ge0 {x : Int32} (h : ¬ x < 0) : ∃ n, n < 2 ^ 31 ∧ x = nI n := nI_of h
theorem i_lt {x y : Int32} {a b : Nat} (hx : x = nI a) (hy : y = nI b) (ha : a < 2 ^ 31) (hb : b < 2 ^ 31) : x < y ↔ a < b := by rw [hx, hy, nI_ltI ha hb]
theorem i_le {x y : Int32} {a b : Nat} (hx : x = nI a) (hy : y = nI b) (ha : a < 2 ^ 31) (hb : b < 2 ^ 31) : x ≤ y ↔ a ≤ b := by rw [hx, hy, nI_leI ha hb]
theorem i_eq {x y : Int32} {a b : Nat} (hx : x = nI a) (hy : y = nI b) (ha : a < 2 ^ 31) (hb : b < 2 ^ 31) : x = y ↔ a = b := by rw [hx, hy, nI_eq ha hb]
theorem nlt_le {x y : Int32} : ¬ x < y ↔ y ≤ x := Int32.not_lt
theorem nle_lt {x y : Int32} : ¬ x ≤ y ↔ y < x := Int32.not_le
/-- only one object has changed -/
def Fr (f : FF) (a : AA) (f' : FF) (a' : AA) (t i : Nat) : Prop := ∀ t' i', ¬ (t' = t ∧ i' = i) → f' t' i' = f t' i' ∧ a' t' i' = a t' i'
theorem Fr.rf (f : FF) (a : AA) (t i : Nat) : Fr f a f a t i := fun _ _ _ => ⟨rfl, rfl⟩
theorem Fr.tr {f f' f'' : FF} {a a' a'' : AA} {t i : Nat} (h : Fr f a f' a' t i) (h' : Fr f' a' f'' a'' t i) : Fr f a f'' a'' t i := fun t' i' hn => ⟨(h' t' i' hn).1.trans (h t' i' hn).1, (h' t' i' hn).2.trans (h t' i' hn).2⟩
theorem Fr.uf {f f' : FF} {a a' : AA} {t i : Nat} (h : Fr f a f' a' t i) (k : Nat) (x : Int32) : Fr f a (upf f' t i k x) a' t i := fun t' i' hn => ⟨by
  rw [← (h t' i' hn).1]
  funext k'
  exact upf_ne (fun q => hn ⟨q.1, q.2.1⟩), (h t' i' hn).2⟩
theorem Fr.uA {f f' : FF} {a a' : AA} {t i : Nat} (h : Fr f a f' a' t i) (k : Nat) (x : Nat → Int32) : Fr f a f' (upA a' t i k x) t i := fun t' i' hn => ⟨(h t' i' hn).1, by
  rw [← (h t' i' hn).2]
  funext k'
  exact upA_ne (fun q => hn ⟨q.1, q.2.1⟩)⟩
theorem Fr.ua {f f' : FF} {a a' : AA} {t i : Nat} (h : Fr f a f' a' t i) (k j : Nat) (x : Int32) : Fr f a f' (upa a' t i k j x) t i := h.uA k _
theorem upf_s (f : FF) (t i k : Nat) (x : Int32) (j : Nat) : upf f t i k x t i j = if j = k then x else f t i j := by
  by_cases h : j = k
  · subst h; rw [upf_eq, if_pos rfl]
  · rw [upf_ne (fun q => h q.2.2), if_neg h]
theorem upa_s (a : AA) (t i k n : Nat) (x : Int32) (j : Nat) : upa a t i k n x t i j = if j = k then upd (a t i k) n x else a t i j := by
  unfold upa
  by_cases h : j = k
  · subst h; rw [upA_eq, if_pos rfl]
  · rw [upA_ne (fun q => h q.2.2), if_neg h]
theorem upA_s (a : AA) (t i k : Nat) (x : Nat → Int32) (j : Nat) : upA a t i k x t i j = if j = k then x else a t i j := by
  by_cases h : j = k
  · subst h; rw [upA_eq, if_pos rfl]
  · rw [upA_ne (fun q => h q.2.2), if_neg h]
theorem upd_s (f : Nat → Int32) (k : Nat) (x : Int32) (j : Nat) : upd f k x j = if j = k then x else f j := rfl
theorem upf_o (f : FF) {t i k t' i' : Nat} (x : Int32) (h : ¬ (t' = t ∧ i' = i)) : upf f t i k x t' i' = f t' i' := by
  funext k'
  exact upf_ne (fun q => h ⟨q.1, q.2.1⟩)
theorem upa_o (a : AA) {t i k n t' i' : Nat} (x : Int32) (h : ¬ (t' = t ∧ i' = i)) : upa a t i k n x t' i' = a t' i' := by
  funext k'
  exact upA_ne (fun q => h ⟨q.1, q.2.1⟩)
/-! a program: arities; calls (from, to, two arguments as they are told) -/
abbrev Pg : Type := List Nat × List (Nat × Nat × Nat × Nat)
def ar (P : Pg) (i : Nat) : Nat := P.1.getD i 0
def cl (P : Pg) (c : Nat) : Nat × Nat × Nat × Nat := P.2.getD c (0, 0, 0, 0)
def fr (P : Pg) (c : Nat) : Nat := (cl P c).1
def to (P : Pg) (c : Nat) : Nat := (cl P c).2.1
def agq (q : Nat × Nat × Nat × Nat) (k : Nat) : Nat := if k = 0 then q.2.2.1 else q.2.2.2
def ag (P : Pg) (c k : Nat) : Nat := agq (cl P c) k
/-- an argument told so is one of a function of n values -/
def okA (n x : Nat) : Bool := decide (x < 500) && (if x / 100 = 0 then decide (x / 10 % 10 = 0) else if x / 100 = 4 then decide (x = 400) && decide (n = 2) else decide (x / 10 % 10 < n) && (decide (x / 100 ≠ 2) || decide (0 < x % 10)))
def okC (P : Pg) (q : Nat × Nat × Nat × Nat) : Prop := q.1 < P.1.length ∧ q.2.1 < P.1.length ∧ okA (ar P q.1) q.2.2.1 = true ∧ (if ar P q.2.1 = 2 then okA (ar P q.1) q.2.2.2 = true else q.2.2.2 = 0)
def WF (P : Pg) : Prop := P.1.length ≤ 3 ∧ P.2.length ≤ 12 ∧ (∀ i, i < P.1.length → ar P i = 1 ∨ ar P i = 2) ∧ ∀ c, c < P.2.length → okC P (cl P c)
/-- a Program object holds it -/
def RC (u : Nat → Int32) (w : Nat → Nat → Int32) (P : Pg) : Prop :=
  u 4 = nI P.1.length ∧ u 5 = nI P.2.length ∧ (∀ i, i < P.1.length → w 0 i = nI (ar P i)) ∧
  ∀ c, c < P.2.length → w 1 c = nI (fr P c) ∧ w 2 c = nI (to P c) ∧ w 3 (2 * c) = nI (ag P c 0) ∧ w 3 (2 * c + 1) = nI (ag P c 1)
/-- all arities that a row holds, junk too, are small -/
def AB (w : Nat → Nat → Int32) : Prop := ∀ i, i < 3 → ∃ m, m < 3 ∧ w 0 i = nI m
theorem RC.arg {u : Nat → Int32} {w : Nat → Nat → Int32} {P : Pg} (h : RC u w P) {c k : Nat} (hc : c < P.2.length) (hk : k < 2) : w 3 (2 * c + k) = nI (ag P c k) := by
  have h1 := h.2.2.2 c hc
  rcases (show k = 0 ∨ k = 1 by omega) with rfl | rfl
  · exact h1.2.2.1
  · exact h1.2.2.2
theorem okA_lt {n x : Nat} (h : okA n x = true) : x < 500 := by
  unfold okA at h
  simp only [Bool.and_eq_true, decide_eq_true_eq] at h
  exact h.1
theorem WF.ag_lt {P : Pg} (h : WF P) {c k : Nat} (hc : c < P.2.length) : ag P c k < 500 := by
  have h1 := h.2.2.2 c hc
  unfold ag agq
  split
  · exact okA_lt h1.2.2.1
  · have h2 := h1.2.2.2
    split at h2
    · exact okA_lt h2
    · omega
theorem WF.fr_lt {P : Pg} (h : WF P) {c : Nat} (hc : c < P.2.length) : fr P c < P.1.length := (h.2.2.2 c hc).1
theorem WF.to_lt {P : Pg} (h : WF P) {c : Nat} (hc : c < P.2.length) : to P c < P.1.length := (h.2.2.2 c hc).2.1
end
section
/-! the system's small methods -/
def sX4_bit : SP := fun As f a Q => match As with
  | [.inl x] => Q (some (.inl (b2i (decide (¬ x = 0))))) f a
  | _ => False
def eX4_bit : En := (tX4_bit, [], fdX4, [], 0)
theorem eokX4_bit {g : Gm} (hg : GmOK g) : EnvOK g 0 RX4 cX4_bit (some .int) eX4_bit := ⟨okX4_bit, (fun _ _ _ _ h => by cases h), fdX4_ok, (fun _ _ h => by cases h), rfl⟩
theorem rX4_bit (av : List AV) (f : FF) (a : AA) (post : PT) (h : sX4_bit av f a post) (X : XT) (hX : Clo eX4_bit post X) : X 0 (padL 1 (ent av)) [] f a := by
  unfold sX4_bit at h
  split at h
  · refine hX [] 20 _ _ _ _ _ ?_
    refine ⟨fun c => ?_, fun c => ?_⟩
    · exact pI h (b2i_f (by simp [c]))
    · exact pI h (b2i_t (by simp [c]))
  · exact h.elim
theorem mX4_bit {g : Gm} (hg : GmOK g) : MetC g yX4_bit cX4_bit 1 (some .int) 0 sX4_bit := by
  refine MetC_of hg eX4_bit (eokX4_bit hg) (by decide +kernel) (fun av f a post h => ?_) rX4_bit
  unfold sX4_bit at h
  split at h
  · exact Nat.le_of_ble_eq_true rfl
  · exact h.elim
def sX4_orNone : SP := fun As f a Q => match As with
  | [.inl x] => Q (some (.inl (if x < 0 then -4 else x))) f a
  | _ => False
def eX4_orNone : En := (tX4_orNone, [], fdX4, [], 0)
theorem eokX4_orNone {g : Gm} (hg : GmOK g) : EnvOK g 0 RX4 cX4_orNone (some .int) eX4_orNone := ⟨okX4_orNone, (fun _ _ _ _ h => by cases h), fdX4_ok, (fun _ _ h => by cases h), rfl⟩
theorem rX4_orNone (av : List AV) (f : FF) (a : AA) (post : PT) (h : sX4_orNone av f a post) (X : XT) (hX : Clo eX4_orNone post X) : X 0 (padL 1 (ent av)) [] f a := by
  unfold sX4_orNone at h
  split at h
  · refine hX [] 20 _ _ _ _ _ ?_
    refine ⟨fun c => ?_, fun c => ?_⟩
    · exact pI h (if_neg (Int32.not_lt.mpr c))
    · exact pI h (if_pos (Int32.not_le.mp c))
  · exact h.elim
theorem mX4_orNone {g : Gm} (hg : GmOK g) : MetC g yX4_orNone cX4_orNone 1 (some .int) 0 sX4_orNone := by
  refine MetC_of hg eX4_orNone (eokX4_orNone hg) (by decide +kernel) (fun av f a post h => ?_) rX4_orNone
  unfold sX4_orNone at h
  split at h
  · exact Nat.le_of_ble_eq_true rfl
  · exact h.elim
def sX4_isImage : SP := fun As f a Q => match As with
  | [.inl x] => Q (some (.inl (b2i (decide (0 ≤ x ∧ x < 2))))) f a
  | _ => False
def eX4_isImage : En := (tX4_isImage, [], fdX4, [], 1)
theorem eokX4_isImage {g : Gm} (hg : GmOK g) : EnvOK g 0 RX4 cX4_isImage (some .boolean) eX4_isImage := ⟨okX4_isImage, (fun _ _ _ _ h => by cases h), fdX4_ok, (fun _ _ h => by cases h), rfl⟩
theorem rX4_isImage (av : List AV) (f : FF) (a : AA) (post : PT) (h : sX4_isImage av f a post) (X : XT) (hX : Clo eX4_isImage post X) : X 0 (padL 1 (ent av)) [] f a := by
  unfold sX4_isImage at h
  split at h
  · refine hX [] 20 _ _ _ _ _ ?_
    refine ⟨fun c => ?_, fun c => ⟨fun d => ?_, fun d => ?_⟩⟩
    · exact pF h (by simp [Int32.not_le.mpr c])
    · exact pF h (by simp [Int32.not_lt.mpr d])
    · exact pT h (by simp [Int32.not_lt.mp c, Int32.not_le.mp d])
  · exact h.elim
theorem mX4_isImage {g : Gm} (hg : GmOK g) : MetC g yX4_isImage cX4_isImage 1 (some .boolean) 0 sX4_isImage := by
  refine MetC_of hg eX4_isImage (eokX4_isImage hg) (by decide +kernel) (fun av f a post h => ?_) rX4_isImage
  unfold sX4_isImage at h
  split at h
  · exact Nat.le_of_ble_eq_true rfl
  · exact h.elim
def sX4_isSheet : SP := fun As f a Q => match As with
  | [.inl x] => Q (some (.inl (b2i (decide (0 ≤ x ∧ x < 4))))) f a
  | _ => False
def eX4_isSheet : En := (tX4_isSheet, [], fdX4, [], 1)
theorem eokX4_isSheet {g : Gm} (hg : GmOK g) : EnvOK g 0 RX4 cX4_isSheet (some .boolean) eX4_isSheet := ⟨okX4_isSheet, (fun _ _ _ _ h => by cases h), fdX4_ok, (fun _ _ h => by cases h), rfl⟩
theorem rX4_isSheet (av : List AV) (f : FF) (a : AA) (post : PT) (h : sX4_isSheet av f a post) (X : XT) (hX : Clo eX4_isSheet post X) : X 0 (padL 1 (ent av)) [] f a := by
  unfold sX4_isSheet at h
  split at h
  · refine hX [] 20 _ _ _ _ _ ?_
    refine ⟨fun c => ?_, fun c => ⟨fun d => ?_, fun d => ?_⟩⟩
    · exact pF h (by simp [Int32.not_le.mpr c])
    · exact pF h (by simp [Int32.not_lt.mpr d])
    · exact pT h (by simp [Int32.not_lt.mp c, Int32.not_le.mp d])
  · exact h.elim
theorem mX4_isSheet {g : Gm} (hg : GmOK g) : MetC g yX4_isSheet cX4_isSheet 1 (some .boolean) 0 sX4_isSheet := by
  refine MetC_of hg eX4_isSheet (eokX4_isSheet hg) (by decide +kernel) (fun av f a post h => ?_) rX4_isSheet
  unfold sX4_isSheet at h
  split at h
  · exact Nat.le_of_ble_eq_true rfl
  · exact h.elim
def sX4_isLane : SP := fun As f a Q => match As with
  | [.inl x] => Q (some (.inl (b2i (decide (0 ≤ x ∧ x ≤ 2))))) f a
  | _ => False
def eX4_isLane : En := (tX4_isLane, [], fdX4, [], 1)
theorem eokX4_isLane {g : Gm} (hg : GmOK g) : EnvOK g 0 RX4 cX4_isLane (some .boolean) eX4_isLane := ⟨okX4_isLane, (fun _ _ _ _ h => by cases h), fdX4_ok, (fun _ _ h => by cases h), rfl⟩
theorem rX4_isLane (av : List AV) (f : FF) (a : AA) (post : PT) (h : sX4_isLane av f a post) (X : XT) (hX : Clo eX4_isLane post X) : X 0 (padL 1 (ent av)) [] f a := by
  unfold sX4_isLane at h
  split at h
  · refine hX [] 20 _ _ _ _ _ ?_
    refine ⟨fun c => ?_, fun c => ⟨fun d => ?_, fun d => ?_⟩⟩
    · exact pF h (by simp [Int32.not_le.mpr c])
    · exact pF h (by simp [Int32.not_le.mpr d])
    · exact pT h (by simp [Int32.not_lt.mp c, Int32.not_lt.mp d])
  · exact h.elim
theorem mX4_isLane {g : Gm} (hg : GmOK g) : MetC g yX4_isLane cX4_isLane 1 (some .boolean) 0 sX4_isLane := by
  refine MetC_of hg eX4_isLane (eokX4_isLane hg) (by decide +kernel) (fun av f a post h => ?_) rX4_isLane
  unfold sX4_isLane at h
  split at h
  · exact Nat.le_of_ble_eq_true rfl
  · exact h.elim
def sX4_kindOf : SP := fun As f a Q => match As with
  | [.inl x] => ∃ n, n < 2 ^ 31 ∧ x = nI n ∧ Q (some (.inl (nI (n / 100)))) f a
  | _ => False
def eX4_kindOf : En := (tX4_kindOf, [], fdX4, [], 0)
theorem eokX4_kindOf {g : Gm} (hg : GmOK g) : EnvOK g 0 RX4 cX4_kindOf (some .int) eX4_kindOf := ⟨okX4_kindOf, (fun _ _ _ _ h => by cases h), fdX4_ok, (fun _ _ h => by cases h), rfl⟩
theorem rX4_kindOf (av : List AV) (f : FF) (a : AA) (post : PT) (h : sX4_kindOf av f a post) (X : XT) (hX : Clo eX4_kindOf post X) : X 0 (padL 1 (ent av)) [] f a := by
  unfold sX4_kindOf at h
  split at h
  · obtain ⟨n, hn, rfl, h⟩ := h
    refine hX [] 20 _ _ _ _ _ ?_
    exact ⟨by decide, pI h (pk_div (d := 100) hn (by decide) (by decide)).symm⟩
  · exact h.elim
theorem mX4_kindOf {g : Gm} (hg : GmOK g) : MetC g yX4_kindOf cX4_kindOf 1 (some .int) 0 sX4_kindOf := by
  refine MetC_of hg eX4_kindOf (eokX4_kindOf hg) (by decide +kernel) (fun av f a post h => ?_) rX4_kindOf
  unfold sX4_kindOf at h
  split at h
  · exact Nat.le_of_ble_eq_true rfl
  · exact h.elim
def sX4_valueOf : SP := fun As f a Q => match As with
  | [.inl x] => ∃ n, n < 2 ^ 31 ∧ x = nI n ∧ Q (some (.inl (nI (n / 10 % 10)))) f a
  | _ => False
def eX4_valueOf : En := (tX4_valueOf, [], fdX4, [], 0)
theorem eokX4_valueOf {g : Gm} (hg : GmOK g) : EnvOK g 0 RX4 cX4_valueOf (some .int) eX4_valueOf := ⟨okX4_valueOf, (fun _ _ _ _ h => by cases h), fdX4_ok, (fun _ _ h => by cases h), rfl⟩
theorem rX4_valueOf (av : List AV) (f : FF) (a : AA) (post : PT) (h : sX4_valueOf av f a post) (X : XT) (hX : Clo eX4_valueOf post X) : X 0 (padL 1 (ent av)) [] f a := by
  unfold sX4_valueOf at h
  split at h
  · obtain ⟨n, hn, rfl, h⟩ := h
    refine hX [] 20 _ _ _ _ _ ?_
    refine ⟨by decide, by decide, pI h ?_⟩
    have h1 : nI n / 10 = nI (n / 10) := pk_div (d := 10) hn (by decide) (by decide)
    dsimp only
    rw [h1]
    exact (pk_rem (d := 10) (by omega) (by decide) (by decide)).symm
  · exact h.elim
theorem mX4_valueOf {g : Gm} (hg : GmOK g) : MetC g yX4_valueOf cX4_valueOf 1 (some .int) 0 sX4_valueOf := by
  refine MetC_of hg eX4_valueOf (eokX4_valueOf hg) (by decide +kernel) (fun av f a post h => ?_) rX4_valueOf
  unfold sX4_valueOf at h
  split at h
  · exact Nat.le_of_ble_eq_true rfl
  · exact h.elim
def sX4_numberOf : SP := fun As f a Q => match As with
  | [.inl x] => ∃ n, n < 2 ^ 31 ∧ x = nI n ∧ Q (some (.inl (nI (n % 10)))) f a
  | _ => False
def eX4_numberOf : En := (tX4_numberOf, [], fdX4, [], 0)
theorem eokX4_numberOf {g : Gm} (hg : GmOK g) : EnvOK g 0 RX4 cX4_numberOf (some .int) eX4_numberOf := ⟨okX4_numberOf, (fun _ _ _ _ h => by cases h), fdX4_ok, (fun _ _ h => by cases h), rfl⟩
theorem rX4_numberOf (av : List AV) (f : FF) (a : AA) (post : PT) (h : sX4_numberOf av f a post) (X : XT) (hX : Clo eX4_numberOf post X) : X 0 (padL 1 (ent av)) [] f a := by
  unfold sX4_numberOf at h
  split at h
  · obtain ⟨n, hn, rfl, h⟩ := h
    refine hX [] 20 _ _ _ _ _ ?_
    exact ⟨by decide, pI h (pk_rem (d := 10) hn (by decide) (by decide)).symm⟩
  · exact h.elim
theorem mX4_numberOf {g : Gm} (hg : GmOK g) : MetC g yX4_numberOf cX4_numberOf 1 (some .int) 0 sX4_numberOf := by
  refine MetC_of hg eX4_numberOf (eokX4_numberOf hg) (by decide +kernel) (fun av f a post h => ?_) rX4_numberOf
  unfold sX4_numberOf at h
  split at h
  · exact Nat.le_of_ble_eq_true rfl
  · exact h.elim
def sX4_argumentOf : SP := fun As f a Q => match As with
  | [.inl x, .inl y, .inl z] => Q (some (.inl (100 * x + 10 * y + z))) f a
  | _ => False
def eX4_argumentOf : En := (tX4_argumentOf, [], fdX4, [], 0)
theorem eokX4_argumentOf {g : Gm} (hg : GmOK g) : EnvOK g 0 RX4 cX4_argumentOf (some .int) eX4_argumentOf := ⟨okX4_argumentOf, (fun _ _ _ _ h => by cases h), fdX4_ok, (fun _ _ h => by cases h), rfl⟩
theorem rX4_argumentOf (av : List AV) (f : FF) (a : AA) (post : PT) (h : sX4_argumentOf av f a post) (X : XT) (hX : Clo eX4_argumentOf post X) : X 0 (padL 3 (ent av)) [] f a := by
  unfold sX4_argumentOf at h
  split at h
  · refine hX [] 20 _ _ _ _ _ ?_
    exact pI h rfl
  · exact h.elim
theorem mX4_argumentOf {g : Gm} (hg : GmOK g) : MetC g yX4_argumentOf cX4_argumentOf 3 (some .int) 0 sX4_argumentOf := by
  refine MetC_of hg eX4_argumentOf (eokX4_argumentOf hg) (by decide +kernel) (fun av f a post h => ?_) rX4_argumentOf
  unfold sX4_argumentOf at h
  split at h
  · exact Nat.le_of_ble_eq_true rfl
  · exact h.elim
end
section
/-! Program: leaves -/
theorem nxX0_98 {g : Gm} (hg : GmOK g) : ∀ U, gG g U → va_Nw (.methodLinkNest RX0 98 yX4_bit "FallingCalls") U := fun U hU => (hg.2.2.2.2 U hU).1 _ (List.mem_filter.mpr ⟨List.mem_of_getElem? (i := 466) (by decide +kernel), rfl⟩)
theorem nxX1_53 {g : Gm} (hg : GmOK g) : ∀ U, gG g U → va_Nw (.methodLinkNest RX1 53 yX4_kindOf "FallingCalls") U := fun U hU => (hg.2.2.2.2 U hU).1 _ (List.mem_filter.mpr ⟨List.mem_of_getElem? (i := 421) (by decide +kernel), rfl⟩)
theorem nxX1_57 {g : Gm} (hg : GmOK g) : ∀ U, gG g U → va_Nw (.methodLinkNest RX1 57 yX4_valueOf "FallingCalls") U := fun U hU => (hg.2.2.2.2 U hU).1 _ (List.mem_filter.mpr ⟨List.mem_of_getElem? (i := 427) (by decide +kernel), rfl⟩)
theorem nxX1_60 {g : Gm} (hg : GmOK g) : ∀ U, gG g U → va_Nw (.methodLinkNest RX1 60 yX4_numberOf "FallingCalls") U := fun U hU => (hg.2.2.2.2 U hU).1 _ (List.mem_filter.mpr ⟨List.mem_of_getElem? (i := 424) (by decide +kernel), rfl⟩)
theorem nxX1_63 {g : Gm} (hg : GmOK g) : ∀ U, gG g U → va_Nw (.methodLinkNest RX1 63 yX4_argumentOf "FallingCalls") U := fun U hU => (hg.2.2.2.2 U hU).1 _ (List.mem_filter.mpr ⟨List.mem_of_getElem? (i := 601) (by decide +kernel), rfl⟩)
theorem nxX1_67 {g : Gm} (hg : GmOK g) : ∀ U, gG g U → va_Nw (.methodLinkNest RX1 67 yX4_bit "FallingCalls") U := fun U hU => (hg.2.2.2.2 U hU).1 _ (List.mem_filter.mpr ⟨List.mem_of_getElem? (i := 430) (by decide +kernel), rfl⟩)
theorem nxX3_81 {g : Gm} (hg : GmOK g) : ∀ U, gG g U → va_Nw (.methodLinkNest RX3 81 yX4_argumentOf "FallingCalls") U := fun U hU => (hg.2.2.2.2 U hU).1 _ (List.mem_filter.mpr ⟨List.mem_of_getElem? (i := 367) (by decide +kernel), rfl⟩)
theorem nxX3_96 {g : Gm} (hg : GmOK g) : ∀ U, gG g U → va_Nw (.methodLinkNest RX3 96 yX4_bit "FallingCalls") U := fun U hU => (hg.2.2.2.2 U hU).1 _ (List.mem_filter.mpr ⟨List.mem_of_getElem? (i := 376) (by decide +kernel), rfl⟩)
def sX1_clear : SP := fun As f a Q => match As with
  | [.inr (.inr (1, p, 0))] => Q none (upf (upf f 1 p 4 0) 1 p 5 0) a
  | _ => False
def eX1_clear : En := (tX1_clear, [], fdX1, [], 2)
theorem eokX1_clear {g : Gm} (hg : GmOK g) : EnvOK g 0 RX1 cX1_clear none eX1_clear := ⟨okX1_clear, (fun _ _ _ _ h => by cases h), fdX1_ok, (fun _ _ h => by cases h), rfl⟩
theorem rX1_clear (av : List AV) (f : FF) (a : AA) (post : PT) (h : sX1_clear av f a post) (X : XT) (hX : Clo eX1_clear post X) : X 0 (padL 1 (ent av)) [] f a := by
  unfold sX1_clear at h
  split at h
  · exact hX [] 20 _ _ _ _ _ h
  · exact h.elim
theorem shX1_clear : ∀ As f a Q, sX1_clear As f a Q → ∃ i r, As = .inr (.inr (1, i, 0)) :: r := by
  intro As f a Q h
  unfold sX1_clear at h
  split at h
  · exact ⟨_, _, rfl⟩
  · exact h.elim
theorem mX1_clear {g : Gm} (hg : GmOK g) : MetC g yX1_clear cX1_clear 1 none 0 sX1_clear := by
  refine MetC_of hg eX1_clear (eokX1_clear hg) (by decide +kernel) (fun av f a post h => ?_) rX1_clear
  unfold sX1_clear at h
  split at h
  · exact Nat.le_of_ble_eq_true rfl
  · exact h.elim
def sX1_hasFunction : SP := fun As f a Q => match As with
  | [.inr (.inr (1, p, 0)), .inl x] => Q (some (.inl (b2i (decide (0 ≤ x ∧ x < f 1 p 4))))) f a
  | _ => False
def eX1_hasFunction : En := (tX1_hasFunction, [], fdX1, [], 1)
theorem eokX1_hasFunction {g : Gm} (hg : GmOK g) : EnvOK g 0 RX1 cX1_hasFunction (some .boolean) eX1_hasFunction := ⟨okX1_hasFunction, (fun _ _ _ _ h => by cases h), fdX1_ok, (fun _ _ h => by cases h), rfl⟩
theorem rX1_hasFunction (av : List AV) (f : FF) (a : AA) (post : PT) (h : sX1_hasFunction av f a post) (X : XT) (hX : Clo eX1_hasFunction post X) : X 0 (padL 2 (ent av)) [] f a := by
  unfold sX1_hasFunction at h
  split at h
  · refine hX [] 20 _ _ _ _ _ ?_
    refine ⟨fun c => ?_, fun c => ⟨fun d => ?_, fun d => ?_⟩⟩
    · exact pF h (by simp [Int32.not_le.mpr c])
    · exact pF h (by simp [Int32.not_lt.mpr d])
    · exact pT h (by simp [Int32.not_lt.mp c, Int32.not_le.mp d])
  · exact h.elim
theorem shX1_hasFunction : ∀ As f a Q, sX1_hasFunction As f a Q → ∃ i r, As = .inr (.inr (1, i, 0)) :: r := by
  intro As f a Q h
  unfold sX1_hasFunction at h
  split at h
  · exact ⟨_, _, rfl⟩
  · exact h.elim
theorem mX1_hasFunction {g : Gm} (hg : GmOK g) : MetC g yX1_hasFunction cX1_hasFunction 2 (some .boolean) 0 sX1_hasFunction := by
  refine MetC_of hg eX1_hasFunction (eokX1_hasFunction hg) (by decide +kernel) (fun av f a post h => ?_) rX1_hasFunction
  unfold sX1_hasFunction at h
  split at h
  · exact Nat.le_of_ble_eq_true rfl
  · exact h.elim
def sX1_hasCall : SP := fun As f a Q => match As with
  | [.inr (.inr (1, p, 0)), .inl x] => Q (some (.inl (b2i (decide (0 ≤ x ∧ x < f 1 p 5))))) f a
  | _ => False
def eX1_hasCall : En := (tX1_hasCall, [], fdX1, [], 1)
theorem eokX1_hasCall {g : Gm} (hg : GmOK g) : EnvOK g 0 RX1 cX1_hasCall (some .boolean) eX1_hasCall := ⟨okX1_hasCall, (fun _ _ _ _ h => by cases h), fdX1_ok, (fun _ _ h => by cases h), rfl⟩
theorem rX1_hasCall (av : List AV) (f : FF) (a : AA) (post : PT) (h : sX1_hasCall av f a post) (X : XT) (hX : Clo eX1_hasCall post X) : X 0 (padL 2 (ent av)) [] f a := by
  unfold sX1_hasCall at h
  split at h
  · refine hX [] 20 _ _ _ _ _ ?_
    refine ⟨fun c => ?_, fun c => ⟨fun d => ?_, fun d => ?_⟩⟩
    · exact pF h (by simp [Int32.not_le.mpr c])
    · exact pF h (by simp [Int32.not_lt.mpr d])
    · exact pT h (by simp [Int32.not_lt.mp c, Int32.not_le.mp d])
  · exact h.elim
theorem shX1_hasCall : ∀ As f a Q, sX1_hasCall As f a Q → ∃ i r, As = .inr (.inr (1, i, 0)) :: r := by
  intro As f a Q h
  unfold sX1_hasCall at h
  split at h
  · exact ⟨_, _, rfl⟩
  · exact h.elim
theorem mX1_hasCall {g : Gm} (hg : GmOK g) : MetC g yX1_hasCall cX1_hasCall 2 (some .boolean) 0 sX1_hasCall := by
  refine MetC_of hg eX1_hasCall (eokX1_hasCall hg) (by decide +kernel) (fun av f a post h => ?_) rX1_hasCall
  unfold sX1_hasCall at h
  split at h
  · exact Nat.le_of_ble_eq_true rfl
  · exact h.elim
/-- whether there is an argument k of a call c -/
def hasA (P : Pg) (c k : Int32) : Bool := decide (0 ≤ c ∧ c < nI P.2.length) && decide (0 ≤ k ∧ k < nI (ar P (to P c.toNatClampNeg)))
def sX1_hasArgument : SP := fun As f a Q => match As with
  | [.inr (.inr (1, p, 0)), .inl c, .inl k] => ∃ P, RC (f 1 p) (a 1 p) P ∧ WF P ∧ Q (some (.inl (b2i (hasA P c k)))) f a
  | _ => False
def eX1_hasArgument : En := (tX1_hasArgument, [(37, false, 2, sX1_hasCall)], fdX1, [], 1)
theorem eokX1_hasArgument {g : Gm} (hg : GmOK g) : EnvOK g 1 RX1 cX1_hasArgument (some .boolean) eX1_hasArgument := ⟨okX1_hasArgument, fun _ _ _ _ h => as2_all (P := fun i v => CallOK g 1 RX1 i v.1 v.2.1 v.2.2) (l := eX1_hasArgument.2.1) ⟨callV_ok (t := 1) hg (mX1_hasCall hg) kX1_hasCall mlX1_37 qX1_hasCall.1 qX1_hasCall.2 ⟨by decide, by decide⟩ ⟨_, _, rfl⟩ shX1_hasCall, trivial⟩ h, fdX1_ok, (fun _ _ h => by cases h), rfl⟩
theorem rX1_hasArgument (av : List AV) (f : FF) (a : AA) (post : PT) (h : sX1_hasArgument av f a post) (X : XT) (hX : Clo eX1_hasArgument post X) : X 0 (padL 3 (ent av)) [] f a := by
  unfold sX1_hasArgument at h
  split at h
  · rename_i p c k
    obtain ⟨P, hR, hW, h⟩ := h
    refine hX [] 40 _ _ _ _ _ ?_
    refine ⟨fun q => ?_, fun q => ⟨fun d => ?_, fun d => ?_⟩⟩
    · have q := b2i_e0.mp q
      rw [hR.2.1] at q
      exact pF h (by simp only [hasA, q, Bool.false_and])
    · exact pF h (by simp [hasA, Int32.not_le.mpr d])
    · have q := b2i_n0.mp q
      rw [hR.2.1] at q
      have q2 := of_decide_eq_true q
      obtain ⟨n, hn, rfl⟩ := ge0 (Int32.not_lt.mpr q2.1)
      have hc : n < P.2.length := (nI_ltI hn (by have := hW.2.1; omega)).mp q2.2
      have ht := hW.to_lt hc
      have h3 := hW.1
      have h12 := hW.2.1
      refine ⟨inA 12 rfl rfl (by omega) (by decide), ?_⟩
      have e1 : a 1 p 2 (nI n).toNatClampNeg = nI (to P n) := by
        rw [nI_clamp hn]; exact (hR.2.2.2 n hc).2.1
      rw [e1]
      refine ⟨inA 3 rfl rfl (by omega) (by decide), ?_⟩
      have e2 : a 1 p 0 (nI (to P n)).toNatClampNeg = nI (ar P (to P n)) := by
        rw [nI_clamp (by omega)]; exact hR.2.2.1 _ ht
      rw [e2]
      refine ⟨fun z => ?_, fun z => ?_⟩
      · exact pF h (by simp [hasA, nI_clamp hn, Int32.not_lt.mpr z])
      · exact pT h (by
          simp only [hasA, nI_clamp hn, q, Bool.true_and, decide_eq_true_eq]
          exact ⟨Int32.not_lt.mp d, Int32.not_le.mp z⟩)
  · exact h.elim
theorem shX1_hasArgument : ∀ As f a Q, sX1_hasArgument As f a Q → ∃ i r, As = .inr (.inr (1, i, 0)) :: r := by
  intro As f a Q h
  unfold sX1_hasArgument at h
  split at h
  · exact ⟨_, _, rfl⟩
  · exact h.elim
theorem mX1_hasArgument {g : Gm} (hg : GmOK g) : MetC g yX1_hasArgument cX1_hasArgument 3 (some .boolean) 1 sX1_hasArgument := by
  refine MetC_of hg eX1_hasArgument (eokX1_hasArgument hg) (by decide +kernel) (fun av f a post h => ?_) rX1_hasArgument
  unfold sX1_hasArgument at h
  split at h
  · exact Nat.le_of_ble_eq_true rfl
  · exact h.elim
def sX1_argumentAt : SP := fun As f a Q => match As with
  | [.inr (.inr (1, p, 0)), .inl c, .inl k] => ∃ n m, c = nI n ∧ k = nI m ∧ 2 * n + m < 24 ∧ Q (some (.inl (a 1 p 3 (2 * n + m)))) f a
  | _ => False
theorem ix2 (n m : Nat) : 2 * nI n + nI m = nI (2 * n + m) := by
  rw [show (2 : Int32) = nI 2 from rfl, pk_mul, nI_add]
def eX1_argumentAt : En := (tX1_argumentAt, [], fdX1, [], 0)
theorem eokX1_argumentAt {g : Gm} (hg : GmOK g) : EnvOK g 0 RX1 cX1_argumentAt (some .int) eX1_argumentAt := ⟨okX1_argumentAt, (fun _ _ _ _ h => by cases h), fdX1_ok, (fun _ _ h => by cases h), rfl⟩
theorem rX1_argumentAt (av : List AV) (f : FF) (a : AA) (post : PT) (h : sX1_argumentAt av f a post) (X : XT) (hX : Clo eX1_argumentAt post X) : X 0 (padL 3 (ent av)) [] f a := by
  unfold sX1_argumentAt at h
  split at h
  · obtain ⟨n, m, rfl, rfl, hl, h⟩ := h
    refine hX [] 40 _ _ _ _ _ ?_
    refine ⟨inA 24 (ix2 n m) rfl hl (by decide), ?_⟩
    refine pI h ?_
    dsimp only
    rw [ix2, nI_clamp (by omega)]
  · exact h.elim
theorem shX1_argumentAt : ∀ As f a Q, sX1_argumentAt As f a Q → ∃ i r, As = .inr (.inr (1, i, 0)) :: r := by
  intro As f a Q h
  unfold sX1_argumentAt at h
  split at h
  · exact ⟨_, _, rfl⟩
  · exact h.elim
theorem mX1_argumentAt {g : Gm} (hg : GmOK g) : MetC g yX1_argumentAt cX1_argumentAt 3 (some .int) 0 sX1_argumentAt := by
  refine MetC_of hg eX1_argumentAt (eokX1_argumentAt hg) (by decide +kernel) (fun av f a post h => ?_) rX1_argumentAt
  unfold sX1_argumentAt at h
  split at h
  · exact Nat.le_of_ble_eq_true rfl
  · exact h.elim
def sX1_putArgument : SP := fun As f a Q => match As with
  | [.inr (.inr (1, p, 0)), .inl c, .inl k, .inl x] => ∃ n m, c = nI n ∧ k = nI m ∧ 2 * n + m < 24 ∧ Q none f (upa a 1 p 3 (2 * n + m) x)
  | _ => False
def eX1_putArgument : En := (tX1_putArgument, [], fdX1, [], 2)
theorem eokX1_putArgument {g : Gm} (hg : GmOK g) : EnvOK g 0 RX1 cX1_putArgument none eX1_putArgument := ⟨okX1_putArgument, (fun _ _ _ _ h => by cases h), fdX1_ok, (fun _ _ h => by cases h), rfl⟩
theorem rX1_putArgument (av : List AV) (f : FF) (a : AA) (post : PT) (h : sX1_putArgument av f a post) (X : XT) (hX : Clo eX1_putArgument post X) : X 0 (padL 4 (ent av)) [] f a := by
  unfold sX1_putArgument at h
  split at h
  · obtain ⟨n, m, rfl, rfl, hl, h⟩ := h
    refine hX [] 40 _ _ _ _ _ ?_
    refine ⟨inA 24 (ix2 n m) rfl hl (by decide), ?_⟩
    dsimp only
    rw [ix2, nI_clamp (by omega)]
    exact h
  · exact h.elim
theorem shX1_putArgument : ∀ As f a Q, sX1_putArgument As f a Q → ∃ i r, As = .inr (.inr (1, i, 0)) :: r := by
  intro As f a Q h
  unfold sX1_putArgument at h
  split at h
  · exact ⟨_, _, rfl⟩
  · exact h.elim
theorem mX1_putArgument {g : Gm} (hg : GmOK g) : MetC g yX1_putArgument cX1_putArgument 4 none 0 sX1_putArgument := by
  refine MetC_of hg eX1_putArgument (eokX1_putArgument hg) (by decide +kernel) (fun av f a post h => ?_) rX1_putArgument
  unfold sX1_putArgument at h
  split at h
  · exact Nat.le_of_ble_eq_true rfl
  · exact h.elim
def sX1_appendFunction : SP := fun As f a Q => match As with
  | [.inr (.inr (1, p, 0)), .inl x] => ∃ n, f 1 p 4 = nI n ∧ n < 3 ∧ Q none (upf f 1 p 4 (nI (n + 1))) (upa a 1 p 0 n x)
  | _ => False
def eX1_appendFunction : En := (tX1_appendFunction, [], fdX1, [], 2)
theorem eokX1_appendFunction {g : Gm} (hg : GmOK g) : EnvOK g 0 RX1 cX1_appendFunction none eX1_appendFunction := ⟨okX1_appendFunction, (fun _ _ _ _ h => by cases h), fdX1_ok, (fun _ _ h => by cases h), rfl⟩
theorem rX1_appendFunction (av : List AV) (f : FF) (a : AA) (post : PT) (h : sX1_appendFunction av f a post) (X : XT) (hX : Clo eX1_appendFunction post X) : X 0 (padL 2 (ent av)) [] f a := by
  unfold sX1_appendFunction at h
  split at h
  · obtain ⟨n, e, hl, h⟩ := h
    refine hX [] 40 _ _ _ _ _ ?_
    refine ⟨inA 3 e rfl hl (by decide), ?_⟩
    refine pV h ?_ ?_
    · rw [e, nI_succ]
    · rw [e, nI_clamp (by omega)]
  · exact h.elim
theorem shX1_appendFunction : ∀ As f a Q, sX1_appendFunction As f a Q → ∃ i r, As = .inr (.inr (1, i, 0)) :: r := by
  intro As f a Q h
  unfold sX1_appendFunction at h
  split at h
  · exact ⟨_, _, rfl⟩
  · exact h.elim
theorem mX1_appendFunction {g : Gm} (hg : GmOK g) : MetC g yX1_appendFunction cX1_appendFunction 2 none 0 sX1_appendFunction := by
  refine MetC_of hg eX1_appendFunction (eokX1_appendFunction hg) (by decide +kernel) (fun av f a post h => ?_) rX1_appendFunction
  unfold sX1_appendFunction at h
  split at h
  · exact Nat.le_of_ble_eq_true rfl
  · exact h.elim

def apC (a : AA) (p n : Nat) (x y : Int32) : AA := upa (upa (upa (upa a 1 p 1 n x) 1 p 2 n y) 1 p 3 (2 * n + 0) 0) 1 p 3 (2 * n + 1) 0
def sX1_appendCall : SP := fun As f a Q => match As with
  | [.inr (.inr (1, p, 0)), .inl x, .inl y] => ∃ n, f 1 p 5 = nI n ∧ n < 12 ∧ Q none (upf f 1 p 5 (nI (n + 1))) (apC a p n x y)
  | _ => False
def eX1_appendCall : En := (tX1_appendCall, [(41, false, 4, sX1_putArgument)], fdX1, [], 2)
theorem eokX1_appendCall {g : Gm} (hg : GmOK g) : EnvOK g 1 RX1 cX1_appendCall none eX1_appendCall := ⟨okX1_appendCall, fun _ _ _ _ h => as2_all (P := fun i v => CallOK g 1 RX1 i v.1 v.2.1 v.2.2) (l := eX1_appendCall.2.1) ⟨callV_ok (t := 1) hg (mX1_putArgument hg) kX1_putArgument mlX1_41 qX1_putArgument.1 qX1_putArgument.2 ⟨by decide, by decide⟩ ⟨_, _, rfl⟩ shX1_putArgument, trivial⟩ h, fdX1_ok, (fun _ _ h => by cases h), rfl⟩
theorem rX1_appendCall (av : List AV) (f : FF) (a : AA) (post : PT) (h : sX1_appendCall av f a post) (X : XT) (hX : Clo eX1_appendCall post X) : X 0 (padL 3 (ent av)) [] f a := by
  unfold sX1_appendCall at h
  split at h
  · obtain ⟨n, e, hl, h⟩ := h
    refine hX [] 60 _ _ _ _ _ ?_
    refine ⟨inA 12 e rfl hl (by decide), ?_⟩
    refine ⟨inA 12 e rfl hl (by decide), ?_⟩
    refine ⟨n, 0, e, rfl, by omega, ?_⟩
    refine ⟨n, 1, e, rfl, by omega, ?_⟩
    refine pV h ?_ ?_
    · rw [e, nI_succ]
    · rw [e, nI_clamp (by omega)]
      rfl
  · exact h.elim
theorem shX1_appendCall : ∀ As f a Q, sX1_appendCall As f a Q → ∃ i r, As = .inr (.inr (1, i, 0)) :: r := by
  intro As f a Q h
  unfold sX1_appendCall at h
  split at h
  · exact ⟨_, _, rfl⟩
  · exact h.elim
theorem mX1_appendCall {g : Gm} (hg : GmOK g) : MetC g yX1_appendCall cX1_appendCall 3 none 1 sX1_appendCall := by
  refine MetC_of hg eX1_appendCall (eokX1_appendCall hg) (by decide +kernel) (fun av f a post h => ?_) rX1_appendCall
  unfold sX1_appendCall at h
  split at h
  · exact Nat.le_of_ble_eq_true rfl
  · exact h.elim
theorem RC.app {f : FF} {a : AA} {p : Nat} {P : Pg} (h : RC (f 1 p) (a 1 p) P) {x y : Nat} : RC (upf f 1 p 5 (nI (P.2.length + 1)) 1 p) (apC a p P.2.length (nI x) (nI y) 1 p) (P.1, P.2 ++ [(x, y, 0, 0)]) := by
  refine ⟨?_, ?_, fun i hi => ?_, fun c hc => ?_⟩
  · rw [upf_s, if_neg (by decide)]; exact h.1
  · rw [upf_s, if_pos rfl]; simp
  · have h1 := h.2.2.1 i hi
    unfold apC
    rw [upa_s, if_neg (by decide), upa_s, if_neg (by decide), upa_s, if_neg (by decide), upa_s, if_neg (by decide)]
    exact h1
  · have hl : c < P.2.length ∨ c = P.2.length := by
      have : (P.2 ++ [(x, y, 0, 0)]).length = P.2.length + 1 := by simp
      have hc : c < (P.2 ++ [(x, y, 0, 0)]).length := hc
      omega
    unfold apC
    rcases hl with hl | rfl
    · have h1 := h.2.2.2 c hl
      have hcl : cl (P.1, P.2 ++ [(x, y, 0, 0)]) c = cl P c := by
        unfold cl
        simp [List.getD, List.getElem?_append_left hl]
      simp only [fr, to, ag, hcl]
      refine ⟨?_, ?_, ?_, ?_⟩
      · simp [upa_s, upd_s, show ¬ c = P.2.length by omega]
        exact h1.1
      · simp [upa_s, upd_s, show ¬ c = P.2.length by omega]
        exact h1.2.1
      · simp [upa_s, upd_s, show ¬ c = P.2.length by omega, show ¬ 2 * c = 2 * P.2.length + 1 by omega, show ¬ 2 * c = 2 * P.2.length by omega]
        exact h1.2.2.1
      · simp [upa_s, upd_s, show ¬ c = P.2.length by omega, show ¬ 2 * c + 1 = 2 * P.2.length by omega, show ¬ 2 * c = 2 * P.2.length by omega]
        exact h1.2.2.2
    · have hcl : cl (P.1, P.2 ++ [(x, y, 0, 0)]) P.2.length = (x, y, 0, 0) := by
        unfold cl
        simp [List.getD]
      simp only [fr, to, ag, hcl]
      refine ⟨?_, ?_, ?_, ?_⟩
      · simp [upa_s, upd_s]
      · simp [upa_s, upd_s]
      · simp [upa_s, upd_s, agq, show ¬ 2 * P.2.length = 2 * P.2.length + 1 by omega]
        rfl
      · simp [upa_s, upd_s, agq]
        rfl
end
section
/-! the JDK's own: arraycopy, min, fill -/
def sJS_copy : SP := fun As f a Q => match As with
  | [.inr (.inr (t, i, k + 1)), .inl s, .inr (.inr (t', i', k' + 1)), .inl d, .inl n] => s = 0 ∧ d = 0 ∧ fk t k = 2 ∧ fk t' k' = 2 ∧ ∃ m, n = nI m ∧ m ≤ al t k ∧ m ≤ al t' k' ∧ m < 2 ^ 31 ∧ Q none f (upA a t' i' k' (va_cpy (a t i k) (a t' i' k') 0 0 m))
  | _ => False
theorem callJS_copy {g : Gm} (hg : GmOK g) {lvl idx : Nat} {own : String} (hl : Cond.methodLink own idx arraycopyName ∈ WS) (h1 : Cond.native arraycopyName ∈ WS) (h2 : Cond.static arraycopyName ∈ WS) (h3 : Cond.initialized "java/lang/System" ∈ WS) : CallOK g (lvl + 1) own idx true 5 sJS_copy := by
  intro p e s m args below meth c cc' nL Qg H locs ls pc As rest f a Q hx hb hml hown hts hG hP hS hsz hc hlen hV hd hq kk
  unfold sJS_copy at hq
  split at hq
  · rename_i t i k sI t' i' k' dI nn
    obtain ⟨rfl, rfl, hf1, hf2, mm, rfl, hm1, hm2, hm3, hq⟩ := hq
    have hk1 := ks_has1 (hV (.inr (.inr (t, i, k + 1))) (by simp))
    have hk2 := ks_has1 (hV (.inr (.inr (t', i', k' + 1))) (by simp))
    obtain ⟨q0, hq0, hz0⟩ := cells_at (ad := gAd g) (cy := gCy g) f a hk1
    obtain ⟨q1, hq1, hz1⟩ := cells_at (ad := gAd g) (cy := gCy g) f a hk2
    rw [el_row.1 hf1] at hz0
    rw [el_row.1 hf2] at hz1
    have hcl : (nI mm).toNatClampNeg = mm := nI_clamp hm3
    refine va_copyi (D := gD g) (ty := .int) hx hb (hml.trans hsz.symm) hown (hts _ hl) (hts _ h1) (hts _ h2) (hts _ h3) (hg.2.2.1 s hG) hP (gD_ok hg f a) hS q0 q1 0 0 hz0 hz1 rfl rfl rfl (sp := 0) (dp := 0) (n := nI mm) (by decide) (by decide) (nI_pos hm3) (by rw [hcl]; show 0 + mm ≤ _; omega) (by rw [hcl]; show 0 + mm ≤ _; omega) (fun _ _ => rfl) (by show 1 ≤ lvl + 1; omega) ?_ hd (fun H1 locs1 hP1 _ hS1 => ?_)
    · rw [cats_sum]
      show cats rest + (nativeFrameWords "java/lang/System" "arraycopy" 5 + 11) ≤ 35 * (lvl + 1)
      have : nativeFrameWords "java/lang/System" "arraycopy" 5 ≤ 16 := by decide
      omega
    · rw [hcl] at hP1
      rw [cells_set (f' := f) (a' := upA a t' i' k' (va_cpy (a t i k) (a t' i' k') 0 0 mm)) hq1 (by rw [el_row.1 hf2, upA_eq]; rfl) (fun q' hq' => el_upA' q' hq')] at hP1
      exact kk none f _ H1 locs1 hq (fun v hv => by cases hv) hP1 hS1
  · exact hq.elim
def sJ9_min : SP := fun As f a Q => match As with
  | [.inl x, .inl y] => Q (some (.inl (if y < x then y else x))) f a
  | _ => False
theorem callJ9_min {g : Gm} (hg : GmOK g) {lvl idx : Nat} {own : String} (hl : Cond.methodLink own idx Lib.Math.min.name ∈ WS) (h1 : Cond.static Lib.Math.min.name ∈ WS) (h2 : Cond.initialized "java/lang/Math" ∈ WS) (h3 : Cond.code Lib.Math.min.name Lib.Math.min.code 2 (some .int) ∈ WS) : CallOK g (lvl + 1) own idx true 2 sJ9_min := by
  intro p e s m args below meth c cc' nL Qg H locs ls pc As rest f a Q hx hb hml hown hts hG hP hS hsz hc hlen hV hd hq kk
  unfold sJ9_min at hq
  split at hq
  · rename_i x y
    refine va_mmin hx hb (hml.trans hsz.symm) hown (hts _ hl) (hts _ h1) (hts _ h2) (hts _ h3) (by show 1 ≤ lvl + 1; omega) ?_ (Nat.zero_le _) (Nat.zero_le _) hd (kk _ f a H locs hq (fun v hv => by cases hv; trivial) hP hS)
    rw [cats_sum]
    show cats rest + 13 ≤ 35 * (lvl + 1)
    omega
  · exact hq.elim
theorem callJS_copy_X1_31 {g : Gm} (hg : GmOK g) {lvl : Nat} : CallOK g (lvl + 1) RX1 31 true 5 sJS_copy := callJS_copy hg (inWS 384 (by decide +kernel) rfl) (inWS 386 (by decide +kernel) rfl) (inWS 385 (by decide +kernel) rfl) (inWS 68 (by decide +kernel) rfl)
theorem callJ9_min_X1_78 {g : Gm} (hg : GmOK g) {lvl : Nat} : CallOK g (lvl + 1) RX1 78 true 2 sJ9_min := callJ9_min hg (inWS 653 (by decide +kernel) rfl) (inWS 654 (by decide +kernel) rfl) (inWS 70 (by decide +kernel) rfl) (inWS 655 (by decide +kernel) rfl)
def sJ7_fill_53178 : SP := fun As f a Q => match As with
  | [.inr (.inr (t, i, k + 1)), .inl x] => ((t = 0 ∧ k = 10) ∨ (t = 0 ∧ k = 3) ∨ (t = 2 ∧ k = 0)) ∧ ∀ g : Nat → Int32, (∀ j, j < al t k → g j = x) → (∀ j, al t k ≤ j → g j = a t i k j) → Q none f (upA a t i k g)
  | _ => False
def eJ7_fill_53178 : En := (tJ7_fill_53178, [], [], [], 2)
theorem eokJ7_fill_53178 {g : Gm} (hg : GmOK g) : EnvOK g 0 RJ7 cJ7_fill_53178 none eJ7_fill_53178 := ⟨okJ7_fill_53178, (fun _ _ _ _ h => by cases h), (fun _ _ _ h => by cases h), (fun _ _ h => by cases h), rfl⟩
def fillN (g : Nat → Int32) (x : Int32) (n : Nat) : Nat → Int32 := fun j => if j < n then x else g j
theorem fillN_s (g : Nat → Int32) (x : Int32) (n : Nat) : upd (fillN g x n) n x = fillN g x (n + 1) := by
  funext j
  simp only [upd, fillN]
  by_cases h : j = n
  · simp [h]
  · by_cases h2 : j < n
    · simp [h, h2, show j < n + 1 by omega]
    · simp [h, h2, show ¬ j < n + 1 by omega]
theorem rJ7_fill_53178 (av : List AV) (f : FF) (a : AA) (post : PT) (h : sJ7_fill_53178 av f a post) (X : XT) (hX : Clo eJ7_fill_53178 post X) : X 0 (padL 4 (ent av)) [] f a := by
  unfold sJ7_fill_53178 at h
  split at h
  · rename_i t i k x
    obtain ⟨hf, h⟩ := h
    have fin : al t k < 2 ^ 31 → X 5 [some (.inr (.inr (t, i, k + 1))), some (.inl x), some (.inl (nI 0)), some (.inl (nI (al t k)))] [] f (upA a t i k (fillN (a t i k) x 0)) := by
      intro hl
      refine forUp (Pr := fun j => X 5 [some (.inr (.inr (t, i, k + 1))), some (.inl x), some (.inl (nI j)), some (.inl (nI (al t k)))] [] f (upA a t i k (fillN (a t i k) x j))) (n := al t k) (fun j hj hnext => ?_) ?_ 0 (Nat.zero_le _)
      · refine hX [5] 40 _ _ _ _ _ ?_
        refine ⟨fun c => ?_, fun c => ?_⟩
        · exact absurd c (nI_ge hj hl)
        · have e : upa (upA a t i k (fillN (a t i k) x j)) t i k (nI j).toNatClampNeg x = upA a t i k (fillN (a t i k) x (j + 1)) := by
            unfold upa
            rw [upA_eq, nI_clamp (by omega), fillN_s]
            funext t' i' k'
            by_cases q : t' = t ∧ i' = i ∧ k' = k
            · obtain ⟨rfl, rfl, rfl⟩ := q
              rw [upA_eq, upA_eq]
            · rw [upA_ne q, upA_ne q, upA_ne q]
          rw [← e, nI_succ] at hnext
          rcases hf with ⟨rfl, rfl⟩ | ⟨rfl, rfl⟩ | ⟨rfl, rfl⟩ <;> exact ⟨vp_in_nI hj hl, hnext⟩
      · refine hX [5] 40 _ _ _ _ _ ?_
        refine ⟨fun c => ?_, fun c => ?_⟩
        · exact h _ (fun j hj => by simp [fillN, hj]) (fun j hj => by simp [fillN, show ¬ j < al t k by omega])
        · exact absurd (Int32.le_refl _) c
    have e0 : upA a t i k (fillN (a t i k) x 0) = a := by
      funext t' i' k'
      by_cases q : t' = t ∧ i' = i ∧ k' = k
      · obtain ⟨rfl, rfl, rfl⟩ := q
        rw [upA_eq]
        funext j
        simp [fillN]
      · rw [upA_ne q]
    rw [e0] at fin
    refine hX [5] 40 _ _ _ _ _ ?_
    exact fin (by rcases hf with ⟨rfl, rfl⟩ | ⟨rfl, rfl⟩ | ⟨rfl, rfl⟩ <;> decide)
  · exact h.elim
theorem mJ7_fill_53178 {g : Gm} (hg : GmOK g) : MetC g yJ7_fill_53178 cJ7_fill_53178 4 none 0 sJ7_fill_53178 := by
  refine MetC_of hg eJ7_fill_53178 (eokJ7_fill_53178 hg) (by decide +kernel) (fun av f a post h => ?_) rJ7_fill_53178
  unfold sJ7_fill_53178 at h
  split at h
  · exact Nat.le_of_ble_eq_true rfl
  · exact h.elim
end
section
/-! Program: what is counted and read -/
def cnt (p : Nat → Bool) : Nat → Nat
  | 0 => 0
  | n + 1 => cnt p n + (if p n then 1 else 0)
def sumN (g : Nat → Nat) : Nat → Nat
  | 0 => 0
  | n + 1 => sumN g n + g n
theorem cnt_s (p : Nat → Bool) (n : Nat) : nI (cnt p (n + 1)) = nI (cnt p n) + b2i (p n) := by
  cases h : p n
  · simp only [cnt, h, b2i]
    exact (show nI (cnt p n + 0) = nI (cnt p n) + nI 0 from (nI_add _ _).symm)
  · simp only [cnt, h, b2i]
    exact nI_succ _
theorem sum_s (g : Nat → Nat) (n : Nat) : nI (sumN g (n + 1)) = nI (sumN g n) + nI (g n) := (nI_add _ _).symm
theorem i31 {n : Nat} (h : n < 1000) : n < 2 ^ 31 := Nat.lt_of_lt_of_le h (by decide)
theorem WF.l3 {P : Pg} (h : WF P) : P.1.length ≤ 3 := h.1
theorem WF.l12 {P : Pg} (h : WF P) : P.2.length ≤ 12 := h.2.1
theorem WF.ar_fr {P : Pg} (h : WF P) {c : Nat} (hc : c < P.2.length) : ar P (fr P c) = 1 ∨ ar P (fr P c) = 2 := h.2.2.1 _ (h.fr_lt hc)
theorem WF.ar_to {P : Pg} (h : WF P) {c : Nat} (hc : c < P.2.length) : ar P (to P c) = 1 ∨ ar P (to P c) = 2 := h.2.2.1 _ (h.to_lt hc)
theorem upA_cpy {a : AA} {t i k : Nat} (g : Nat → Int32) {n j : Nat} (h : j < n) : va_cpy g (a t i k) 0 0 n j = g j := by
  unfold va_cpy
  rw [if_pos (by omega)]
  congr 1
  omega
def sX1_copy : SP := fun As f a Q => match As with
  | [.inr (.inr (1, p, 0)), .inr (.inr (1, p', 0))] => ¬ p' = p ∧ ∀ f' a', Fr f a f' a' 1 p → (∀ P, WF P → RC (f 1 p') (a 1 p') P → RC (f' 1 p) (a' 1 p) P) → (AB (a 1 p') → AB (a' 1 p)) → Q none f' a'
  | _ => False
def eX1_copy : En := (tX1_copy, [(31, true, 5, sJS_copy)], fdX1, [], 2)
theorem eokX1_copy {g : Gm} (hg : GmOK g) : EnvOK g 1 RX1 cX1_copy none eX1_copy := ⟨okX1_copy, fun _ _ _ _ h => as2_all (P := fun i v => CallOK g 1 RX1 i v.1 v.2.1 v.2.2) (l := eX1_copy.2.1) ⟨callJS_copy_X1_31 hg, trivial⟩ h, fdX1_ok, (fun _ _ h => by cases h), rfl⟩
theorem rX1_copy (av : List AV) (f : FF) (a : AA) (post : PT) (h : sX1_copy av f a post) (X : XT) (hX : Clo eX1_copy post X) : X 0 (padL 2 (ent av)) [] f a := by
  unfold sX1_copy at h
  split at h
  · rename_i p p'
    obtain ⟨hne, h⟩ := h
    refine hX [] 90 _ _ _ _ _ ?_
    refine ⟨rfl, rfl, rfl, rfl, 3, rfl, by decide, by decide, by decide, ?_⟩
    refine ⟨rfl, rfl, rfl, rfl, 12, rfl, by decide, by decide, by decide, ?_⟩
    refine ⟨rfl, rfl, rfl, rfl, 12, rfl, by decide, by decide, by decide, ?_⟩
    refine ⟨rfl, rfl, rfl, rfl, 24, rfl, by decide, by decide, by decide, ?_⟩
    refine h _ _ ?_ ?_ (fun hB i hi => ?_)
    · exact (((((((Fr.rf f a 1 p).uf 4 _).uf 5 _).uA 0 _).uA 1 _).uA 2 _).uA 3 _)
    · intro P hW hR
      have hn : ¬ (1 = 1 ∧ p' = p) := fun q => hne q.2
      have h3 := hW.l3
      have h12 := hW.l12
      refine ⟨?_, ?_, fun i hi => ?_, fun c hc => ?_⟩
      · rw [upf_s, if_neg (by decide), upf_s, if_pos rfl]; exact hR.1
      · rw [upf_s, if_pos rfl, upf_o _ _ hn]; exact hR.2.1
      · rw [upA_s, if_neg (by decide), upA_s, if_neg (by decide), upA_s, if_neg (by decide), upA_s, if_pos rfl, upA_cpy _ (by omega)]
        exact hR.2.2.1 i hi
      · have h1 := hR.2.2.2 c hc
        have e0 : ∀ (x : Nat → Int32) k, upA a 1 p 0 x 1 p' k = a 1 p' k := fun x k => upA_ne (fun q => hne q.2.1)
        refine ⟨?_, ?_, ?_, ?_⟩
        · rw [upA_s, if_neg (by decide), upA_s, if_neg (by decide), upA_s, if_pos rfl, upA_cpy _ (by omega), upA_ne (fun q => hne q.2.1)]
          exact h1.1
        · rw [upA_s, if_neg (by decide), upA_s, if_pos rfl, upA_cpy _ (by omega), upA_ne (fun q => hne q.2.1), upA_ne (fun q => hne q.2.1)]
          exact h1.2.1
        · rw [upA_s, if_pos rfl, upA_cpy _ (by omega), upA_ne (fun q => hne q.2.1), upA_ne (fun q => hne q.2.1), upA_ne (fun q => hne q.2.1)]
          exact h1.2.2.1
        · rw [upA_s, if_pos rfl, upA_cpy _ (by omega), upA_ne (fun q => hne q.2.1), upA_ne (fun q => hne q.2.1), upA_ne (fun q => hne q.2.1)]
          exact h1.2.2.2
    · obtain ⟨m, hm, e⟩ := hB i hi
      refine ⟨m, hm, ?_⟩
      rw [upA_s, if_neg (by decide), upA_s, if_neg (by decide), upA_s, if_neg (by decide), upA_s, if_pos rfl, upA_cpy _ hi]
      exact e
  · exact h.elim
theorem shX1_copy : ∀ As f a Q, sX1_copy As f a Q → ∃ i r, As = .inr (.inr (1, i, 0)) :: r := by
  intro As f a Q h
  unfold sX1_copy at h
  split at h
  · exact ⟨_, _, rfl⟩
  · exact h.elim
theorem mX1_copy {g : Gm} (hg : GmOK g) : MetC g yX1_copy cX1_copy 2 none 1 sX1_copy := by
  refine MetC_of hg eX1_copy (eokX1_copy hg) (by decide +kernel) (fun av f a post h => ?_) rX1_copy
  unfold sX1_copy at h
  split at h
  · exact Nat.le_of_ble_eq_true rfl
  · exact h.elim
def sX1_callsFrom : SP := fun As f a Q => match As with
  | [.inr (.inr (1, p, 0)), .inl x] => ∃ P n, RC (f 1 p) (a 1 p) P ∧ WF P ∧ x = nI n ∧ n < 3 ∧ Q (some (.inl (nI (cnt (fun c => decide (fr P c = n)) P.2.length)))) f a
  | _ => False
def eX1_callsFrom : En := (tX1_callsFrom, [(67, true, 1, sX4_bit)], fdX1, [], 0)
theorem eokX1_callsFrom {g : Gm} (hg : GmOK g) : EnvOK g 1 RX1 cX1_callsFrom (some .int) eX1_callsFrom := ⟨okX1_callsFrom, fun _ _ _ _ h => as2_all (P := fun i v => CallOK g 1 RX1 i v.1 v.2.1 v.2.2) (l := eX1_callsFrom.2.1) ⟨callN_ok (host := "FallingCalls") hg (mX4_bit hg) kX4_bit (nxX1_67 hg) qX4_bit ⟨by decide, by decide⟩, trivial⟩ h, fdX1_ok, (fun _ _ h => by cases h), rfl⟩
theorem rX1_callsFrom (av : List AV) (f : FF) (a : AA) (post : PT) (h : sX1_callsFrom av f a post) (X : XT) (hX : Clo eX1_callsFrom post X) : X 0 (padL 4 (ent av)) [] f a := by
  unfold sX1_callsFrom at h
  split at h
  · rename_i p x
    obtain ⟨P, n, hR, hW, rfl, hn, h⟩ := h
    have h12 := hW.l12
    have h3 := hW.l3
    refine hX [4] 90 _ _ _ _ _ ?_
    refine forUp (Pr := fun c => X 4 [some (.inr (.inr (1, p, 0))), some (.inl (nI n)), some (.inl (nI (cnt (fun c => decide (fr P c = n)) c))), some (.inl (nI c))] [] f a) (n := P.2.length) (fun c hc next => ?_) ?_ 0 (Nat.zero_le _)
    · refine hX [4] 90 _ _ _ _ _ ?_
      refine ⟨fun q => ?_, fun q => ?_⟩
      · rw [hR.2.1] at q
        exact absurd q (nI_ge hc (by omega))
      · refine ⟨inA 12 rfl rfl (by omega) (by decide), ?_⟩
        have e : a 1 p 1 (nI c).toNatClampNeg = nI (fr P c) := by rw [nI_clamp (by omega)]; exact (hR.2.2.2 c hc).1
        have hfr := hW.fr_lt hc
        rw [cnt_s, nI_succ] at next
        refine ⟨fun q => ?_, fun q => ?_⟩
        · rw [e] at q
          have q1 : decide (fr P c = n) = false := by simp; exact fun z => q (by rw [z])
          rw [q1] at next
          exact next
        · rw [e] at q
          have q1 : decide (fr P c = n) = true := by simp; exact (nI_eq (by omega) (by omega)).mp q
          rw [q1] at next
          exact next
    · refine hX [4] 90 _ _ _ _ _ ?_
      refine ⟨fun q => h, fun q => ?_⟩
      rw [hR.2.1] at q
      exact absurd (Int32.le_refl _) q
  · exact h.elim
theorem shX1_callsFrom : ∀ As f a Q, sX1_callsFrom As f a Q → ∃ i r, As = .inr (.inr (1, i, 0)) :: r := by
  intro As f a Q h
  unfold sX1_callsFrom at h
  split at h
  · exact ⟨_, _, rfl⟩
  · exact h.elim
theorem mX1_callsFrom {g : Gm} (hg : GmOK g) : MetC g yX1_callsFrom cX1_callsFrom 4 (some .int) 1 sX1_callsFrom := by
  refine MetC_of hg eX1_callsFrom (eokX1_callsFrom hg) (by decide +kernel) (fun av f a post h => ?_) rX1_callsFrom
  unfold sX1_callsFrom at h
  split at h
  · exact Nat.le_of_ble_eq_true rfl
  · exact h.elim
def sX1_arities : SP := fun As f a Q => match As with
  | [.inr (.inr (1, p, 0))] => ∃ P, RC (f 1 p) (a 1 p) P ∧ WF P ∧ Q (some (.inl (nI (sumN (ar P) P.1.length)))) f a
  | _ => False
def eX1_arities : En := (tX1_arities, [], fdX1, [], 0)
theorem eokX1_arities {g : Gm} (hg : GmOK g) : EnvOK g 0 RX1 cX1_arities (some .int) eX1_arities := ⟨okX1_arities, (fun _ _ _ _ h => by cases h), fdX1_ok, (fun _ _ h => by cases h), rfl⟩
theorem rX1_arities (av : List AV) (f : FF) (a : AA) (post : PT) (h : sX1_arities av f a post) (X : XT) (hX : Clo eX1_arities post X) : X 0 (padL 3 (ent av)) [] f a := by
  unfold sX1_arities at h
  split at h
  · rename_i p
    obtain ⟨P, hR, hW, h⟩ := h
    have h3 := hW.l3
    refine hX [4] 90 _ _ _ _ _ ?_
    refine forUp (Pr := fun c => X 4 [some (.inr (.inr (1, p, 0))), some (.inl (nI (sumN (ar P) c))), some (.inl (nI c))] [] f a) (n := P.1.length) (fun c hc next => ?_) ?_ 0 (Nat.zero_le _)
    · refine hX [4] 90 _ _ _ _ _ ?_
      refine ⟨fun q => ?_, fun q => ?_⟩
      · rw [hR.1] at q
        exact absurd q (nI_ge hc (by omega))
      · refine ⟨inA 3 rfl rfl (by omega) (by decide), ?_⟩
        have e : a 1 p 0 (nI c).toNatClampNeg = nI (ar P c) := by rw [nI_clamp (by omega)]; exact hR.2.2.1 c hc
        rw [sum_s, nI_succ, ← e] at next
        exact next
    · refine hX [4] 90 _ _ _ _ _ ?_
      refine ⟨fun q => h, fun q => ?_⟩
      rw [hR.1] at q
      exact absurd (Int32.le_refl _) q
  · exact h.elim
theorem shX1_arities : ∀ As f a Q, sX1_arities As f a Q → ∃ i r, As = .inr (.inr (1, i, 0)) :: r := by
  intro As f a Q h
  unfold sX1_arities at h
  split at h
  · exact ⟨_, _, rfl⟩
  · exact h.elim
theorem mX1_arities {g : Gm} (hg : GmOK g) : MetC g yX1_arities cX1_arities 3 (some .int) 0 sX1_arities := by
  refine MetC_of hg eX1_arities (eokX1_arities hg) (by decide +kernel) (fun av f a post h => ?_) rX1_arities
  unfold sX1_arities at h
  split at h
  · exact Nat.le_of_ble_eq_true rfl
  · exact h.elim
/-- the relation of value i to an argument told x -/
def relN (i x : Nat) : Nat := if x / 100 = 4 then 1 else if x / 100 = 0 ∨ ¬ x / 10 % 10 = i then 0 else if x / 100 = 1 then (if 0 < x % 10 then 2 else 1) else if x / 100 = 2 then (if 1 < x % 10 then 2 else 1) else if x % 10 = 0 then 1 else 0
theorem relN_lt (i x : Nat) : relN i x < 3 := by
  unfold relN
  repeat' split
  all_goals decide
def sX1_relation : SP := fun As f a Q => match As with
  | [.inl x, .inl y] => ∃ i n, x = nI i ∧ i < 2 ∧ y = nI n ∧ n < 500 ∧ Q (some (.inl (nI (relN i n)))) f a
  | _ => False
def eX1_relation : En := (tX1_relation, [(53, true, 1, sX4_kindOf), (60, true, 1, sX4_numberOf), (57, true, 1, sX4_valueOf)], fdX1, [], 0)
theorem eokX1_relation {g : Gm} (hg : GmOK g) : EnvOK g 1 RX1 cX1_relation (some .int) eX1_relation := ⟨okX1_relation, fun _ _ _ _ h => as2_all (P := fun i v => CallOK g 1 RX1 i v.1 v.2.1 v.2.2) (l := eX1_relation.2.1) ⟨callN_ok (host := "FallingCalls") hg (mX4_kindOf hg) kX4_kindOf (nxX1_53 hg) qX4_kindOf ⟨by decide, by decide⟩, callN_ok (host := "FallingCalls") hg (mX4_numberOf hg) kX4_numberOf (nxX1_60 hg) qX4_numberOf ⟨by decide, by decide⟩, callN_ok (host := "FallingCalls") hg (mX4_valueOf hg) kX4_valueOf (nxX1_57 hg) qX4_valueOf ⟨by decide, by decide⟩, trivial⟩ h, fdX1_ok, (fun _ _ h => by cases h), rfl⟩
theorem rX1_relation (av : List AV) (f : FF) (a : AA) (post : PT) (h : sX1_relation av f a post) (X : XT) (hX : Clo eX1_relation post X) : X 0 (padL 4 (ent av)) [] f a := by
  unfold sX1_relation at h
  split at h
  · obtain ⟨i, n, rfl, hi, rfl, hn, h⟩ := h
    have b1 : n / 100 < 1000 := by omega
    have b2 : n / 10 % 10 < 1000 := by omega
    have b3 : n % 10 < 1000 := by omega
    refine hX [] 90 _ _ _ _ _ ?_
    refine ⟨n, by omega, rfl, n, by omega, rfl, fun q => ?_, fun q => ?_⟩
    · have q : ¬ n / 100 = 4 := fun z => q (by rw [z]; rfl)
      refine ⟨fun c => ?_, fun c => ?_⟩
      · have c : n / 100 = 0 := (i_eq (b := 0) rfl rfl (i31 b1) (by decide)).mp c
        exact pI h (by simp [relN, c]; rfl)
      · have c : ¬ n / 100 = 0 := fun z => c (by rw [z]; rfl)
        refine ⟨n, by omega, rfl, fun d => ?_, fun d => ?_⟩
        · have d : n / 10 % 10 = i := (nI_eq (i31 b2) (by omega)).mp d
          refine ⟨fun e => ?_, fun e => ?_⟩
          · have e : ¬ n / 100 = 1 := fun z => e (by rw [z]; rfl)
            refine ⟨fun k => ?_, fun k => ?_⟩
            · have k : ¬ n / 100 = 2 := fun z => k (by rw [z]; rfl)
              refine ⟨fun l => ?_, fun l => ?_⟩
              · have l : ¬ n % 10 = 0 := fun z => l (by rw [z]; rfl)
                exact pI h (by simp [relN, q, c, d, e, k, l]; rfl)
              · have l : n % 10 = 0 := (i_eq (b := 0) rfl rfl (i31 b3) (by decide)).mp l
                exact pI h (by simp [relN, q, c, d, e, k, l]; rfl)
            · have k : n / 100 = 2 := (i_eq (b := 2) rfl rfl (i31 b1) (by decide)).mp k
              refine ⟨fun l => ?_, fun l => ?_⟩
              · have l : ¬ 1 < n % 10 := Nat.not_lt.mpr ((i_le (b := 1) rfl rfl (i31 b3) (by decide)).mp l)
                exact pI h (by simp [relN, d, k, l]; rfl)
              · have l : 1 < n % 10 := Nat.not_le.mp (fun z => l ((i_le (b := 1) rfl rfl (i31 b3) (by decide)).mpr z))
                exact pI h (by simp [relN, d, k, l]; rfl)
          · have e : n / 100 = 1 := (i_eq (b := 1) rfl rfl (i31 b1) (by decide)).mp e
            refine ⟨fun l => ?_, fun l => ?_⟩
            · have l : n % 10 = 0 := Nat.le_zero.mp ((i_le (b := 0) rfl rfl (i31 b3) (by decide)).mp l)
              exact pI h (by simp [relN, d, e, l]; rfl)
            · have l : 0 < n % 10 := Nat.not_le.mp (fun z => l ((i_le (b := 0) rfl rfl (i31 b3) (by decide)).mpr z))
              exact pI h (by simp [relN, d, e, l]; rfl)
        · have d : ¬ n / 10 % 10 = i := fun z => d (by rw [z])
          exact pI h (by simp [relN, q, d]; rfl)
    · have q : n / 100 = 4 := (i_eq (b := 4) rfl rfl (i31 b1) (by decide)).mp q
      exact pI h (by simp [relN, q]; rfl)
  · exact h.elim
theorem mX1_relation {g : Gm} (hg : GmOK g) : MetC g yX1_relation cX1_relation 4 (some .int) 1 sX1_relation := by
  refine MetC_of hg eX1_relation (eokX1_relation hg) (by decide +kernel) (fun av f a post h => ?_) rX1_relation
  unfold sX1_relation at h
  split at h
  · exact Nat.le_of_ble_eq_true rfl
  · exact h.elim
end
section
/-! Program: graphs of calls, runs, what an argument may become -/
def plainN (P : Pg) : Nat := sumN (fun c => cnt (fun k => decide (ag P c k / 100 = 0)) (ar P (to P c))) P.2.length
def sX1_plainNumbers : SP := fun As f a Q => match As with
  | [.inr (.inr (1, p, 0))] => ∃ P, RC (f 1 p) (a 1 p) P ∧ WF P ∧ Q (some (.inl (nI (plainN P)))) f a
  | _ => False
def eX1_plainNumbers : En := (tX1_plainNumbers, [(45, false, 3, sX1_argumentAt), (53, true, 1, sX4_kindOf), (67, true, 1, sX4_bit)], fdX1, [], 0)
theorem eokX1_plainNumbers {g : Gm} (hg : GmOK g) : EnvOK g 1 RX1 cX1_plainNumbers (some .int) eX1_plainNumbers := ⟨okX1_plainNumbers, fun _ _ _ _ h => as2_all (P := fun i v => CallOK g 1 RX1 i v.1 v.2.1 v.2.2) (l := eX1_plainNumbers.2.1) ⟨callV_ok (t := 1) hg (mX1_argumentAt hg) kX1_argumentAt mlX1_45 qX1_argumentAt.1 qX1_argumentAt.2 ⟨by decide, by decide⟩ ⟨_, _, rfl⟩ shX1_argumentAt, callN_ok (host := "FallingCalls") hg (mX4_kindOf hg) kX4_kindOf (nxX1_53 hg) qX4_kindOf ⟨by decide, by decide⟩, callN_ok (host := "FallingCalls") hg (mX4_bit hg) kX4_bit (nxX1_67 hg) qX4_bit ⟨by decide, by decide⟩, trivial⟩ h, fdX1_ok, (fun _ _ h => by cases h), rfl⟩
theorem RC.to_i {f : FF} {a : AA} {p : Nat} {P : Pg} (hR : RC (f 1 p) (a 1 p) P) (hW : WF P) {c : Nat} (hc : c < P.2.length) : a 1 p 2 (nI c).toNatClampNeg = nI (to P c) := by
  have := hW.l12
  rw [nI_clamp (by omega)]
  exact (hR.2.2.2 c hc).2.1
theorem RC.fr_i {f : FF} {a : AA} {p : Nat} {P : Pg} (hR : RC (f 1 p) (a 1 p) P) (hW : WF P) {c : Nat} (hc : c < P.2.length) : a 1 p 1 (nI c).toNatClampNeg = nI (fr P c) := by
  have := hW.l12
  rw [nI_clamp (by omega)]
  exact (hR.2.2.2 c hc).1
theorem RC.ar_i {f : FF} {a : AA} {p : Nat} {P : Pg} (hR : RC (f 1 p) (a 1 p) P) (hW : WF P) {i : Nat} (hi : i < P.1.length) : a 1 p 0 (nI i).toNatClampNeg = nI (ar P i) := by
  have := hW.l3
  rw [nI_clamp (by omega)]
  exact hR.2.2.1 i hi
theorem rX1_plainNumbers (av : List AV) (f : FF) (a : AA) (post : PT) (h : sX1_plainNumbers av f a post) (X : XT) (hX : Clo eX1_plainNumbers post X) : X 0 (padL 4 (ent av)) [] f a := by
  unfold sX1_plainNumbers at h
  split at h
  · rename_i p
    obtain ⟨P, hR, hW, h⟩ := h
    have h12 := hW.l12
    have h3 := hW.l3
    refine hX [4] 90 _ _ _ _ _ ?_
    refine forUp (Pr := fun c => ∀ z, X 4 [some (.inr (.inr (1, p, 0))), some (.inl (nI (sumN (fun c => cnt (fun k => decide (ag P c k / 100 = 0)) (ar P (to P c))) c))), some (.inl (nI c)), z] [] f a) (n := P.2.length) (fun c hc next z => ?_) (fun z => ?_) 0 (Nat.zero_le _) none
    · refine hX [4, 14] 90 _ _ _ _ _ ?_
      refine ⟨fun q => ?_, fun q => ?_⟩
      · rw [hR.2.1] at q
        exact absurd q (nI_ge hc (by omega))
      · have hto := hW.to_lt hc
        have hat := hW.ar_to hc
        refine forUp (Pr := fun k => X 14 [some (.inr (.inr (1, p, 0))), some (.inl (nI (sumN (fun c => cnt (fun k => decide (ag P c k / 100 = 0)) (ar P (to P c))) c) + nI (cnt (fun k => decide (ag P c k / 100 = 0)) k))), some (.inl (nI c)), some (.inl (nI k))] [] f a) (n := ar P (to P c)) (fun k hk next => ?_) ?_ 0 (Nat.zero_le _) |> fun hh => by
          rw [show nI (cnt (fun k => decide (ag P c k / 100 = 0)) 0) = 0 from rfl, Int32.add_zero] at hh
          exact hh
        · refine hX [4, 14] 90 _ _ _ _ _ ?_
          refine ⟨inA 12 rfl rfl (by omega) (by decide), inA 3 (hR.to_i hW hc) rfl (by omega) (by decide), fun q => ?_, fun q => ?_⟩
          · rw [hR.to_i hW hc, hR.ar_i hW hto] at q
            exact absurd q (nI_ge hk (by omega))
          · have hag := hW.ag_lt (k := k) hc
            rw [cnt_s, nI_succ, ← Int32.add_assoc] at next
            refine ⟨c, k, rfl, rfl, by omega, ag P c k, by omega, hR.arg hc (by omega), fun d => ?_, fun d => ?_⟩
            · have d : ¬ ag P c k / 100 = 0 := fun z => d (by rw [z]; rfl)
              rw [show decide (ag P c k / 100 = 0) = false by simp [d]] at next
              exact next
            · have d : ag P c k / 100 = 0 := (i_eq (b := 0) rfl rfl (by omega) (by decide)).mp d
              rw [show decide (ag P c k / 100 = 0) = true by simp [d]] at next
              exact next
        · refine hX [4, 14] 90 _ _ _ _ _ ?_
          refine ⟨inA 12 rfl rfl (by omega) (by decide), inA 3 (hR.to_i hW hc) rfl (by omega) (by decide), fun q => ?_, fun q => ?_⟩
          · have n1 := next (some (.inl (nI (ar P (to P c)))))
            rw [sum_s, nI_succ] at n1
            exact n1
          · rw [hR.to_i hW hc, hR.ar_i hW hto] at q
            exact absurd (Int32.le_refl _) q
    · refine hX [4] 90 _ _ _ _ _ ?_
      refine ⟨fun q => h, fun q => ?_⟩
      rw [hR.2.1] at q
      exact absurd (Int32.le_refl _) q
  · exact h.elim
theorem shX1_plainNumbers : ∀ As f a Q, sX1_plainNumbers As f a Q → ∃ i r, As = .inr (.inr (1, i, 0)) :: r := by
  intro As f a Q h
  unfold sX1_plainNumbers at h
  split at h
  · exact ⟨_, _, rfl⟩
  · exact h.elim
theorem mX1_plainNumbers {g : Gm} (hg : GmOK g) : MetC g yX1_plainNumbers cX1_plainNumbers 4 (some .int) 1 sX1_plainNumbers := by
  refine MetC_of hg eX1_plainNumbers (eokX1_plainNumbers hg) (by decide +kernel) (fun av f a post h => ?_) rX1_plainNumbers
  unfold sX1_plainNumbers at h
  split at h
  · exact Nat.le_of_ble_eq_true rfl
  · exact h.elim
/-! codes of graphs; bits of a code -/
def codeR (r00 r01 r10 r11 : Nat) : Nat := r00 + 3 * r01 + 9 * r10 + 27 * r11
def rl (c i k : Nat) : Nat := c / (if i = 0 then (if k = 0 then 1 else 3) else if k = 0 then 9 else 27) % 3
def bit1 (r : Nat) (s : Nat) : Nat := (if 0 < r then 2 ^ s else 0) + (if 1 < r then 2 ^ (s + 4) else 0)
def bitsN (c : Nat) : Nat := bit1 (rl c 0 0) 0 + bit1 (rl c 0 1) 1 + bit1 (rl c 1 0) 2 + bit1 (rl c 1 1) 3
/-- the relations of a call's graph -/
def rel (P : Pg) (c i k : Nat) : Nat := relN i (ag P c k)
def relM (P : Pg) (c i k : Nat) : Nat := if i < ar P (fr P c) ∧ k < ar P (to P c) then rel P c i k else 0
def codeN (P : Pg) (c : Nat) : Nat := codeR (relM P c 0 0) (relM P c 0 1) (relM P c 1 0) (relM P c 1 1)
theorem relM_lt (P : Pg) (c i k : Nat) : relM P c i k < 3 := by
  unfold relM
  split
  · exact relN_lt _ _
  · decide
theorem codeR_lt {a b c d : Nat} (ha : a < 3) (hb : b < 3) (hc : c < 3) (hd : d < 3) : codeR a b c d < 81 := by unfold codeR; omega
theorem codeN_lt (P : Pg) (c : Nat) : codeN P c < 81 := codeR_lt (relM_lt ..) (relM_lt ..) (relM_lt ..) (relM_lt ..)
def bitS (b : Int32) (i k r : Nat) : Int32 := (b ||| (b2i (decide (0 < r)) <<< ((2 * nI i + nI k) &&& 31))) ||| (b2i (decide (1 < r)) <<< ((4 + 2 * nI i + nI k) &&& 31))
def rowB (r : Nat → Nat) (i : Nat) (b : Int32) : Nat → Int32
  | 0 => b
  | k + 1 => bitS (rowB r i b k) i k (r k)
def matB (r : Nat → Nat → Nat) (n : Nat) : Nat → Int32
  | 0 => 0
  | i + 1 => rowB (r i) i (matB r n i) n
theorem mat22 : ∀ a, a < 3 → ∀ b, b < 3 → ∀ c, c < 3 → ∀ d, d < 3 → bitS (bitS (bitS (bitS 0 0 0 a) 0 1 b) 1 0 c) 1 1 d = nI (bitsN (codeR a b c d)) := by decide +kernel
theorem mat21 : ∀ a, a < 3 → ∀ c, c < 3 → bitS (bitS 0 0 0 a) 1 0 c = nI (bitsN (codeR a 0 c 0)) := by decide +kernel
theorem mat12 : ∀ a, a < 3 → ∀ b, b < 3 → bitS (bitS 0 0 0 a) 0 1 b = nI (bitsN (codeR a b 0 0)) := by decide +kernel
theorem mat11 : ∀ a, a < 3 → bitS 0 0 0 a = nI (bitsN (codeR a 0 0 0)) := by decide +kernel
theorem matB_code {P : Pg} (hW : WF P) {c : Nat} (hc : c < P.2.length) : matB (rel P c) (ar P (to P c)) (ar P (fr P c)) = nI (bitsN (codeN P c)) := by
  have l : ∀ i k, rel P c i k < 3 := fun i k => relN_lt _ _
  rcases hW.ar_fr hc with h1 | h1 <;> rcases hW.ar_to hc with h2 | h2
  all_goals simp only [codeN, relM, h1, h2, matB, rowB]
  · exact mat11 _ (l 0 0)
  · exact mat12 _ (l 0 0) _ (l 0 1)
  · exact mat21 _ (l 0 0) _ (l 1 0)
  · exact mat22 _ (l 0 0) _ (l 0 1) _ (l 1 0) _ (l 1 1)
def sX1_bitsOf : SP := fun As f a Q => match As with
  | [.inr (.inr (1, p, 0)), .inl x] => ∃ P c, RC (f 1 p) (a 1 p) P ∧ WF P ∧ x = nI c ∧ c < P.2.length ∧ Q (some (.inl (nI (bitsN (codeN P c))))) f a
  | _ => False
def eX1_bitsOf : En := (tX1_bitsOf, [(45, false, 3, sX1_argumentAt), (71, true, 2, sX1_relation), (67, true, 1, sX4_bit)], fdX1, [], 0)
theorem eokX1_bitsOf {g : Gm} (hg : GmOK g) : EnvOK g 2 RX1 cX1_bitsOf (some .int) eX1_bitsOf := ⟨okX1_bitsOf, fun _ _ _ _ h => as2_all (P := fun i v => CallOK g 2 RX1 i v.1 v.2.1 v.2.2) (l := eX1_bitsOf.2.1) ⟨callV_ok (t := 1) hg (mX1_argumentAt hg) kX1_argumentAt mlX1_45 qX1_argumentAt.1 qX1_argumentAt.2 ⟨by decide, by decide⟩ ⟨_, _, rfl⟩ shX1_argumentAt, callS_ok hg (mX1_relation hg) kX1_relation mlX1_71 qX1_relation ⟨by decide, by decide⟩, callN_ok (host := "FallingCalls") hg (mX4_bit hg) kX4_bit (nxX1_67 hg) qX4_bit ⟨by decide, by decide⟩, trivial⟩ h, fdX1_ok, (fun _ _ h => by cases h), rfl⟩
theorem rX1_bitsOf (av : List AV) (f : FF) (a : AA) (post : PT) (h : sX1_bitsOf av f a post) (X : XT) (hX : Clo eX1_bitsOf post X) : X 0 (padL 6 (ent av)) [] f a := by
  unfold sX1_bitsOf at h
  split at h
  · rename_i p x
    obtain ⟨P, c, hR, hW, rfl, hc, h⟩ := h
    have h12 := hW.l12
    have h3 := hW.l3
    have hto := hW.to_lt hc
    have hat := hW.ar_to hc
    have hfr := hW.fr_lt hc
    have haf := hW.ar_fr hc
    rw [← matB_code hW hc] at h
    refine hX [4] 90 _ _ _ _ _ ?_
    refine forUp (Pr := fun i => ∀ z w, X 4 [some (.inr (.inr (1, p, 0))), some (.inl (nI c)), some (.inl (matB (rel P c) (ar P (to P c)) i)), some (.inl (nI i)), z, w] [] f a) (n := ar P (fr P c)) (fun i hi next z w => ?_) (fun z w => ?_) 0 (Nat.zero_le _) none none
    · refine hX [4, 22] 90 _ _ _ _ _ ?_
      refine ⟨inA 12 rfl rfl (by omega) (by decide), inA 3 (hR.fr_i hW hc) rfl (by omega) (by decide), fun q => ?_, fun q => ?_⟩
      · rw [hR.fr_i hW hc, hR.ar_i hW hfr] at q
        exact absurd q (nI_ge hi (by omega))
      · refine forUp (Pr := fun k => ∀ w, X 22 [some (.inr (.inr (1, p, 0))), some (.inl (nI c)), some (.inl (rowB (rel P c i) i (matB (rel P c) (ar P (to P c)) i) k)), some (.inl (nI i)), some (.inl (nI k)), w] [] f a) (n := ar P (to P c)) (fun k hk next w => ?_) (fun w => ?_) 0 (Nat.zero_le _) w
        · refine hX [4, 22] 90 _ _ _ _ _ ?_
          refine ⟨inA 12 rfl rfl (by omega) (by decide), inA 3 (hR.to_i hW hc) rfl (by omega) (by decide), fun q => ?_, fun q => ?_⟩
          · rw [hR.to_i hW hc, hR.ar_i hW hto] at q
            exact absurd q (nI_ge hk (by omega))
          · have hag := hW.ag_lt (k := k) hc
            have hrl : rel P c i k < 3 := relN_lt _ _
            have hrl2 : relN i (ag P c k) = rel P c i k := rfl
            refine ⟨c, k, rfl, rfl, by omega, i, ag P c k, rfl, by omega, hR.arg hc (by omega), hag, ?_⟩
            have n1 := next (some (.inl (nI (rel P c i k))))
            rw [nI_succ] at n1
            have e1 : rowB (rel P c i) i (matB (rel P c) (ar P (to P c)) i) (k + 1) = bitS (rowB (rel P c i) i (matB (rel P c) (ar P (to P c)) i) k) i k (rel P c i k) := rfl
            rw [e1] at n1
            unfold bitS at n1
            refine ⟨fun d => ?_, fun d => ?_⟩
            · have d : ¬ 0 < rel P c i k := Nat.not_lt.mpr ((i_le (b := 0) rfl rfl (by omega) (by decide)).mp d)
              rw [show decide (0 < rel P c i k) = false by simp [d], show decide (1 < rel P c i k) = false by simp; omega] at n1
              refine ⟨fun d2 => n1, fun d2 => ?_⟩
              exact absurd ((i_le (b := 1) rfl rfl (by omega) (by decide)).mpr (by omega)) d2
            · have d : 0 < rel P c i k := Nat.not_le.mp (fun z => d ((i_le (b := 0) rfl rfl (by omega) (by decide)).mpr z))
              rw [show decide (0 < rel P c i k) = true by simp [d]] at n1
              refine ⟨fun d2 => ?_, fun d2 => ?_⟩
              · have d2 : ¬ 1 < rel P c i k := Nat.not_lt.mpr ((i_le (b := 1) rfl rfl (by omega) (by decide)).mp d2)
                rw [show decide (1 < rel P c i k) = false by simp [d2]] at n1
                exact n1
              · have d2 : 1 < rel P c i k := Nat.not_le.mp (fun z => d2 ((i_le (b := 1) rfl rfl (by omega) (by decide)).mpr z))
                rw [show decide (1 < rel P c i k) = true by simp [d2]] at n1
                exact n1
        · refine hX [4, 22] 90 _ _ _ _ _ ?_
          refine ⟨inA 12 rfl rfl (by omega) (by decide), inA 3 (hR.to_i hW hc) rfl (by omega) (by decide), fun q => ?_, fun q => ?_⟩
          · have n1 := next (some (.inl (nI (ar P (to P c))))) w
            rw [nI_succ] at n1
            exact n1
          · rw [hR.to_i hW hc, hR.ar_i hW hto] at q
            exact absurd (Int32.le_refl _) q
    · refine hX [4] 90 _ _ _ _ _ ?_
      refine ⟨inA 12 rfl rfl (by omega) (by decide), inA 3 (hR.fr_i hW hc) rfl (by omega) (by decide), fun q => h, fun q => ?_⟩
      rw [hR.fr_i hW hc, hR.ar_i hW hfr] at q
      exact absurd (Int32.le_refl _) q
  · exact h.elim
theorem shX1_bitsOf : ∀ As f a Q, sX1_bitsOf As f a Q → ∃ i r, As = .inr (.inr (1, i, 0)) :: r := by
  intro As f a Q h
  unfold sX1_bitsOf at h
  split at h
  · exact ⟨_, _, rfl⟩
  · exact h.elim
theorem mX1_bitsOf {g : Gm} (hg : GmOK g) : MetC g yX1_bitsOf cX1_bitsOf 6 (some .int) 2 sX1_bitsOf := by
  refine MetC_of hg eX1_bitsOf (eokX1_bitsOf hg) (by decide +kernel) (fun av f a post h => ?_) rX1_bitsOf
  unfold sX1_bitsOf at h
  split at h
  · exact Nat.le_of_ble_eq_true rfl
  · exact h.elim

/-! runs: whether a call is made with values a, b; what its argument is then -/
def valN (x va vb : Nat) : Nat := if x / 10 % 10 = 0 then va else vb
def okM (x va vb : Nat) : Bool := !(decide (x / 100 = 1) && decide (valN x va vb < x % 10)) && !(decide (x / 100 = 2) && (decide (1 < x % 10) && decide (valN x va vb = 0)))
def allK (p : Nat → Bool) : Nat → Bool
  | 0 => true
  | k + 1 => allK p k && p k
def madeB (P : Pg) (c va vb : Nat) : Bool := allK (fun k => okM (ag P c k) va vb) (ar P (to P c))
def worthN (x va vb : Nat) : Nat := if x / 100 = 1 then valN x va vb - x % 10 else if x / 100 = 2 then valN x va vb / (x % 10) else if x / 100 = 3 then min (valN x va vb + x % 10) 999 else if x / 100 = 4 then min va vb else x % 10
theorem allK_false {p : Nat → Bool} : ∀ {n k : Nat}, k < n → p k = false → allK p n = false
  | n + 1, k, h, hp => by
    rcases (show k < n ∨ k = n by omega) with q | rfl
    · simp [allK, allK_false q hp]
    · simp [allK, hp]
theorem allK_true {p : Nat → Bool} : ∀ {n : Nat}, (∀ k, k < n → p k = true) → allK p n = true
  | 0, _ => rfl
  | n + 1, h => by
    have h1 : allK p n = true := allK_true (fun k hk => h k (by omega))
    simp [allK, h1, h n (by omega)]
def sX1_isMade : SP := fun As f a Q => match As with
  | [.inr (.inr (1, p, 0)), .inl x, .inl y, .inl z] => ∃ P c va vb, RC (f 1 p) (a 1 p) P ∧ WF P ∧ x = nI c ∧ c < P.2.length ∧ y = nI va ∧ va < 1000 ∧ z = nI vb ∧ vb < 1000 ∧ Q (some (.inl (b2i (madeB P c va vb)))) f a
  | _ => False
def eX1_isMade : En := (tX1_isMade, [(45, false, 3, sX1_argumentAt), (57, true, 1, sX4_valueOf), (60, true, 1, sX4_numberOf), (53, true, 1, sX4_kindOf)], fdX1, [], 1)
theorem eokX1_isMade {g : Gm} (hg : GmOK g) : EnvOK g 1 RX1 cX1_isMade (some .boolean) eX1_isMade := ⟨okX1_isMade, fun _ _ _ _ h => as2_all (P := fun i v => CallOK g 1 RX1 i v.1 v.2.1 v.2.2) (l := eX1_isMade.2.1) ⟨callV_ok (t := 1) hg (mX1_argumentAt hg) kX1_argumentAt mlX1_45 qX1_argumentAt.1 qX1_argumentAt.2 ⟨by decide, by decide⟩ ⟨_, _, rfl⟩ shX1_argumentAt, callN_ok (host := "FallingCalls") hg (mX4_valueOf hg) kX4_valueOf (nxX1_57 hg) qX4_valueOf ⟨by decide, by decide⟩, callN_ok (host := "FallingCalls") hg (mX4_numberOf hg) kX4_numberOf (nxX1_60 hg) qX4_numberOf ⟨by decide, by decide⟩, callN_ok (host := "FallingCalls") hg (mX4_kindOf hg) kX4_kindOf (nxX1_53 hg) qX4_kindOf ⟨by decide, by decide⟩, trivial⟩ h, fdX1_ok, (fun _ _ h => by cases h), rfl⟩
theorem rX1_isMade (av : List AV) (f : FF) (a : AA) (post : PT) (h : sX1_isMade av f a post) (X : XT) (hX : Clo eX1_isMade post X) : X 0 (padL 8 (ent av)) [] f a := by
  unfold sX1_isMade at h
  split at h
  · rename_i p x y z
    obtain ⟨P, c, va, vb, hR, hW, rfl, hc, rfl, hva, rfl, hvb, h⟩ := h
    have h12 := hW.l12
    have h3 := hW.l3
    have hto := hW.to_lt hc
    have hat := hW.ar_to hc
    refine hX [3] 90 _ _ _ _ _ ?_
    refine forUp (Pr := fun k => (∀ j, j < k → okM (ag P c j) va vb = true) → ∀ x5 x6 x7, X 3 [some (.inr (.inr (1, p, 0))), some (.inl (nI c)), some (.inl (nI va)), some (.inl (nI vb)), some (.inl (nI k)), x5, x6, x7] [] f a) (n := ar P (to P c)) (fun k hk next hall x5 x6 x7 => ?_) (fun hall x5 x6 x7 => ?_) 0 (Nat.zero_le _) (fun j hj => absurd hj (Nat.not_lt_zero j)) none none none
    · refine hX [3, 41] 90 _ _ _ _ _ ?_
      refine ⟨inA 12 rfl rfl (by omega) (by decide), inA 3 (hR.to_i hW hc) rfl (by omega) (by decide), fun q => ?_, fun q => ?_⟩
      · rw [hR.to_i hW hc, hR.ar_i hW hto] at q
        exact absurd q (nI_ge hk (by omega))
      · have hag := hW.ag_lt (k := k) hc
        have e0 := hR.arg hc (show k < 2 by omega)
        have b1 : ag P c k / 100 < 1000 := by omega
        have b2 : ag P c k / 10 % 10 < 1000 := by omega
        have b3 : ag P c k % 10 < 1000 := by omega
        refine ⟨c, k, rfl, rfl, by omega, ag P c k, by omega, e0, ?_⟩
        have main : ∀ vI, vI = valN (ag P c k) va vb → X 41 [some (.inr (.inr (1, p, 0))), some (.inl (nI c)), some (.inl (nI va)), some (.inl (nI vb)), some (.inl (nI k)), some (.inl (a 1 p 3 (2 * c + k))), x6, x7] [.inl (nI vI)] f a := by
          intro v hv
          have hv9 : v < 1000 := by rw [hv]; unfold valN; split <;> omega
          refine hX [3] 90 _ _ _ _ _ ?_
          refine ⟨ag P c k, by omega, e0, ag P c k, by omega, e0, ?_⟩
          have go : okM (ag P c k) va vb = true → ∀ x5 x6 x7, X 3 [some (.inr (.inr (1, p, 0))), some (.inl (nI c)), some (.inl (nI va)), some (.inl (nI vb)), some (.inl (nI k + 1)), x5, x6, x7] [] f a := by
            intro hk2
            rw [nI_succ] at next
            exact next (fun j hj => by
              rcases (show j < k ∨ j = k by omega) with z | rfl
              · exact hall j z
              · exact hk2)
          have stop : okM (ag P c k) va vb = false → madeB P c va vb = false := fun hk2 => allK_false hk hk2
          refine ⟨fun d => ?_, fun d => ?_⟩
          · have d : ¬ ag P c k / 100 = 1 := fun z => d (by rw [z]; rfl)
            refine ⟨ag P c k, by omega, e0, fun d2 => ?_, fun d2 => ?_⟩
            · have d2 : ¬ ag P c k / 100 = 2 := fun z => d2 (by rw [z]; rfl)
              exact go (by simp [okM, d, d2]) _ _ _
            · have d2 : ag P c k / 100 = 2 := (i_eq (b := 2) rfl rfl (i31 b1) (by decide)).mp d2
              refine ⟨fun d3 => ?_, fun d3 => ?_⟩
              · have d3 : ¬ 1 < ag P c k % 10 := Nat.not_lt.mpr ((i_le (b := 1) rfl rfl (i31 b3) (by decide)).mp d3)
                exact go (by simp [okM, d, d3]) _ _ _
              · have d3 : 1 < ag P c k % 10 := Nat.not_le.mp (fun z => d3 ((i_le (b := 1) rfl rfl (i31 b3) (by decide)).mpr z))
                refine ⟨fun d4 => ?_, fun d4 => ?_⟩
                · have d4 : ¬ v = 0 := fun z => d4 (by rw [z]; rfl)
                  rw [hv] at d4
                  exact go (by simp [okM, d, d4]) _ _ _
                · have d4 : v = 0 := (i_eq (b := 0) rfl rfl (i31 hv9) (by decide)).mp d4
                  rw [hv] at d4
                  exact pF h (stop (by simp [okM, d2, d3, d4]))
          · have d : ag P c k / 100 = 1 := (i_eq (b := 1) rfl rfl (i31 b1) (by decide)).mp d
            refine ⟨fun d2 => ?_, fun d2 => ?_⟩
            · have d2 : ag P c k % 10 ≤ v := (nI_leI (i31 b3) (i31 hv9)).mp d2
              rw [hv] at d2
              refine ⟨ag P c k, by omega, e0, fun d3 => ?_, fun d3 => ?_⟩
              · exact go (by simp [okM, d]; omega) _ _ _
              · have d3 : ag P c k / 100 = 2 := (i_eq (b := 2) rfl rfl (i31 b1) (by decide)).mp d3
                omega
            · have d2 : v < ag P c k % 10 := Nat.not_le.mp (fun z => d2 ((nI_leI (i31 b3) (i31 hv9)).mpr z))
              rw [hv] at d2
              exact pF h (stop (by simp [okM, d]; omega))
        refine ⟨fun d => ?_, fun d => ?_⟩
        · have d : ¬ ag P c k / 10 % 10 = 0 := fun z => d (by rw [z]; rfl)
          exact main vb (by simp [valN, d])
        · have d : ag P c k / 10 % 10 = 0 := (i_eq (b := 0) rfl rfl (i31 b2) (by decide)).mp d
          exact main va (by simp [valN, d])
    · refine hX [3] 90 _ _ _ _ _ ?_
      refine ⟨inA 12 rfl rfl (by omega) (by decide), inA 3 (hR.to_i hW hc) rfl (by omega) (by decide), fun q => ?_, fun q => ?_⟩
      · exact pT h (allK_true hall)
      · rw [hR.to_i hW hc, hR.ar_i hW hto] at q
        exact absurd (Int32.le_refl _) q
  · exact h.elim
theorem shX1_isMade : ∀ As f a Q, sX1_isMade As f a Q → ∃ i r, As = .inr (.inr (1, i, 0)) :: r := by
  intro As f a Q h
  unfold sX1_isMade at h
  split at h
  · exact ⟨_, _, rfl⟩
  · exact h.elim
theorem mX1_isMade {g : Gm} (hg : GmOK g) : MetC g yX1_isMade cX1_isMade 8 (some .boolean) 1 sX1_isMade := by
  refine MetC_of hg eX1_isMade (eokX1_isMade hg) (by decide +kernel) (fun av f a post h => ?_) rX1_isMade
  unfold sX1_isMade at h
  split at h
  · exact Nat.le_of_ble_eq_true rfl
  · exact h.elim
end
section
/-! Program: the calls that are made, worth, takes, removeCall -/
def mdB (P : Pg) (n va vb : Nat) : Nat → Bool := fun c => decide (fr P c = n) && madeB P c va vb
def sX1_callsMade : SP := fun As f a Q => match As with
  | [.inr (.inr (1, p, 0)), .inl x, .inl y, .inl z] => ∃ P n va vb, RC (f 1 p) (a 1 p) P ∧ WF P ∧ x = nI n ∧ n < 3 ∧ y = nI va ∧ va < 1000 ∧ z = nI vb ∧ vb < 1000 ∧ Q (some (.inl (nI (cnt (mdB P n va vb) P.2.length)))) f a
  | _ => False
def eX1_callsMade : En := (tX1_callsMade, [(74, false, 4, sX1_isMade), (67, true, 1, sX4_bit)], fdX1, [], 0)
theorem eokX1_callsMade {g : Gm} (hg : GmOK g) : EnvOK g 2 RX1 cX1_callsMade (some .int) eX1_callsMade := ⟨okX1_callsMade, fun _ _ _ _ h => as2_all (P := fun i v => CallOK g 2 RX1 i v.1 v.2.1 v.2.2) (l := eX1_callsMade.2.1) ⟨callV_ok (t := 1) hg (mX1_isMade hg) kX1_isMade mlX1_74 qX1_isMade.1 qX1_isMade.2 ⟨by decide, by decide⟩ ⟨_, _, rfl⟩ shX1_isMade, callN_ok (host := "FallingCalls") hg (mX4_bit hg) kX4_bit (nxX1_67 hg) qX4_bit ⟨by decide, by decide⟩, trivial⟩ h, fdX1_ok, (fun _ _ h => by cases h), rfl⟩
theorem rX1_callsMade (av : List AV) (f : FF) (a : AA) (post : PT) (h : sX1_callsMade av f a post) (X : XT) (hX : Clo eX1_callsMade post X) : X 0 (padL 6 (ent av)) [] f a := by
  unfold sX1_callsMade at h
  split at h
  · rename_i p x y z
    obtain ⟨P, n, va, vb, hR, hW, rfl, hn, rfl, hva, rfl, hvb, h⟩ := h
    have h12 := hW.l12
    have h3 := hW.l3
    refine hX [6] 90 _ _ _ _ _ ?_
    refine forUp (Pr := fun c => X 6 [some (.inr (.inr (1, p, 0))), some (.inl (nI n)), some (.inl (nI va)), some (.inl (nI vb)), some (.inl (nI (cnt (mdB P n va vb) c))), some (.inl (nI c))] [] f a) (n := P.2.length) (fun c hc next => ?_) ?_ 0 (Nat.zero_le _)
    · refine hX [6] 90 _ _ _ _ _ ?_
      refine ⟨fun q => ?_, fun q => ?_⟩
      · rw [hR.2.1] at q
        exact absurd q (nI_ge hc (by omega))
      · have hfr := hW.fr_lt hc
        rw [cnt_s, nI_succ] at next
        refine ⟨inA 12 rfl rfl (by omega) (by decide), fun q => ?_, fun q => ?_⟩
        · rw [hR.fr_i hW hc] at q
          rw [show mdB P n va vb c = false by simp only [mdB, show decide (fr P c = n) = false by simp; exact fun z => q (by rw [z]), Bool.false_and]] at next
          exact next
        · rw [hR.fr_i hW hc] at q
          have q : fr P c = n := (nI_eq (by omega) (by omega)).mp q
          have e1 : mdB P n va vb c = madeB P c va vb := by simp [mdB, q]
          rw [e1] at next
          refine ⟨P, c, va, vb, hR, hW, rfl, hc, rfl, hva, rfl, hvb, fun d => ?_, fun d => ?_⟩
          · rw [b2i_e0.mp d] at next
            exact next
          · rw [b2i_n0.mp d] at next
            exact next
    · refine hX [6] 90 _ _ _ _ _ ?_
      refine ⟨fun q => h, fun q => ?_⟩
      rw [hR.2.1] at q
      exact absurd (Int32.le_refl _) q
  · exact h.elim
theorem shX1_callsMade : ∀ As f a Q, sX1_callsMade As f a Q → ∃ i r, As = .inr (.inr (1, i, 0)) :: r := by
  intro As f a Q h
  unfold sX1_callsMade at h
  split at h
  · exact ⟨_, _, rfl⟩
  · exact h.elim
theorem mX1_callsMade {g : Gm} (hg : GmOK g) : MetC g yX1_callsMade cX1_callsMade 6 (some .int) 2 sX1_callsMade := by
  refine MetC_of hg eX1_callsMade (eokX1_callsMade hg) (by decide +kernel) (fun av f a post h => ?_) rX1_callsMade
  unfold sX1_callsMade at h
  split at h
  · exact Nat.le_of_ble_eq_true rfl
  · exact h.elim
/-- the (k+1)-th place at which p holds, from place i on, among d places -/
def nthU (p : Nat → Bool) : Nat → Nat → Nat → Nat
  | 0, _, _ => 0
  | d + 1, i, k => if p i then (if k = 0 then i else nthU p d (i + 1) (k - 1)) else nthU p d (i + 1) k
def sX1_callMade : SP := fun As f a Q => match As with
  | [.inr (.inr (1, p, 0)), .inl x, .inl y, .inl z, .inl w] => ∃ P n va vb k, RC (f 1 p) (a 1 p) P ∧ WF P ∧ x = nI n ∧ n < 3 ∧ y = nI va ∧ va < 1000 ∧ z = nI vb ∧ vb < 1000 ∧ w = nI k ∧ k < 1000 ∧ Q (some (.inl (nI (nthU (mdB P n va vb) P.2.length 0 k)))) f a
  | _ => False
def eX1_callMade : En := (tX1_callMade, [(74, false, 4, sX1_isMade)], fdX1, [], 0)
theorem eokX1_callMade {g : Gm} (hg : GmOK g) : EnvOK g 2 RX1 cX1_callMade (some .int) eX1_callMade := ⟨okX1_callMade, fun _ _ _ _ h => as2_all (P := fun i v => CallOK g 2 RX1 i v.1 v.2.1 v.2.2) (l := eX1_callMade.2.1) ⟨callV_ok (t := 1) hg (mX1_isMade hg) kX1_isMade mlX1_74 qX1_isMade.1 qX1_isMade.2 ⟨by decide, by decide⟩ ⟨_, _, rfl⟩ shX1_isMade, trivial⟩ h, fdX1_ok, (fun _ _ h => by cases h), rfl⟩
theorem rX1_callMade (av : List AV) (f : FF) (a : AA) (post : PT) (h : sX1_callMade av f a post) (X : XT) (hX : Clo eX1_callMade post X) : X 0 (padL 7 (ent av)) [] f a := by
  unfold sX1_callMade at h
  split at h
  · rename_i p x y z w
    obtain ⟨P, n, va, vb, k, hR, hW, rfl, hn, rfl, hva, rfl, hvb, rfl, hk, h⟩ := h
    have h12 := hW.l12
    have h3 := hW.l3
    refine hX [7] 90 _ _ _ _ _ ?_
    have key : ∀ d c k1, c + d = P.2.length → k1 < 1000 → post (some (.inl (nI (nthU (mdB P n va vb) d c k1)))) f a → X 7 [some (.inr (.inr (1, p, 0))), some (.inl (nI n)), some (.inl (nI va)), some (.inl (nI vb)), some (.inl (nI k)), some (.inl (nI k1)), some (.inl (nI c))] [] f a := by
      intro d
      induction d with
      | zero =>
        intro c k1 hc hk1 h
        rw [Nat.add_zero] at hc
        refine hX [7] 90 _ _ _ _ _ ?_
        refine ⟨fun q => h, fun q => ?_⟩
        rw [hR.2.1, hc] at q
        exact absurd (Int32.le_refl _) q
      | succ d ih =>
        intro c k1 hcd hk1 h
        have hc : c < P.2.length := by omega
        have hfr := hW.fr_lt hc
        refine hX [7] 90 _ _ _ _ _ ?_
        refine ⟨fun q => ?_, fun q => ?_⟩
        · rw [hR.2.1] at q
          exact absurd q (nI_ge hc (by omega))
        · have skip : mdB P n va vb c = false → X 7 [some (.inr (.inr (1, p, 0))), some (.inl (nI n)), some (.inl (nI va)), some (.inl (nI vb)), some (.inl (nI k)), some (.inl (nI k1)), some (.inl (nI c + 1))] [] f a := by
            intro hm
            rw [← nI_succ]
            refine ih (c + 1) k1 (by omega) hk1 ?_
            simpa [nthU, hm] using h
          refine ⟨inA 12 rfl rfl (by omega) (by decide), fun q => ?_, fun q => ?_⟩
          · rw [hR.fr_i hW hc] at q
            exact skip (by simp only [mdB, show decide (fr P c = n) = false by simp; exact fun z => q (by rw [z]), Bool.false_and])
          · rw [hR.fr_i hW hc] at q
            have q : fr P c = n := (nI_eq (by omega) (by omega)).mp q
            have e1 : mdB P n va vb c = madeB P c va vb := by simp [mdB, q]
            refine ⟨P, c, va, vb, hR, hW, rfl, hc, rfl, hva, rfl, hvb, fun e => ?_, fun e => ?_⟩
            · exact skip (e1.trans (b2i_e0.mp e))
            · have hm := e1.trans (b2i_n0.mp e)
              refine ⟨fun g => ?_, fun g => ?_⟩
              · have g : ¬ k1 = 0 := fun z => g (by rw [z]; rfl)
                have n1 := ih (c + 1) (k1 - 1) (by omega) (by omega) (by simpa [nthU, hm, g] using h)
                rw [nI_succ, show nI (k1 - 1) = nI k1 + (-1) from (sb_m1 (by omega)).symm] at n1
                exact n1
              · have g : k1 = 0 := (i_eq (b := 0) rfl rfl (i31 hk1) (by decide)).mp g
                refine pI h ?_
                simp [nthU, hm, g]
    exact key P.2.length 0 k (by omega) hk h
  · exact h.elim
theorem shX1_callMade : ∀ As f a Q, sX1_callMade As f a Q → ∃ i r, As = .inr (.inr (1, i, 0)) :: r := by
  intro As f a Q h
  unfold sX1_callMade at h
  split at h
  · exact ⟨_, _, rfl⟩
  · exact h.elim
theorem mX1_callMade {g : Gm} (hg : GmOK g) : MetC g yX1_callMade cX1_callMade 7 (some .int) 2 sX1_callMade := by
  refine MetC_of hg eX1_callMade (eokX1_callMade hg) (by decide +kernel) (fun av f a post h => ?_) rX1_callMade
  unfold sX1_callMade at h
  split at h
  · exact Nat.le_of_ble_eq_true rfl
  · exact h.elim
def sX1_worth : SP := fun As f a Q => match As with
  | [.inr (.inr (1, p, 0)), .inl x, .inl y, .inl z, .inl w] => ∃ n c k va vb, a 1 p 3 (2 * c + k) = nI n ∧ n < 500 ∧ x = nI c ∧ y = nI k ∧ 2 * c + k < 24 ∧ z = nI va ∧ va < 1000 ∧ w = nI vb ∧ vb < 1000 ∧ (n / 100 = 1 → n % 10 ≤ valN n va vb) ∧ (n / 100 = 2 → 0 < n % 10) ∧ Q (some (.inl (nI (worthN n va vb)))) f a
  | _ => False
def eX1_worth : En := (tX1_worth, [(45, false, 3, sX1_argumentAt), (57, true, 1, sX4_valueOf), (60, true, 1, sX4_numberOf), (53, true, 1, sX4_kindOf), (78, true, 2, sJ9_min)], fdX1, [], 0)
theorem eokX1_worth {g : Gm} (hg : GmOK g) : EnvOK g 1 RX1 cX1_worth (some .int) eX1_worth := ⟨okX1_worth, fun _ _ _ _ h => as2_all (P := fun i v => CallOK g 1 RX1 i v.1 v.2.1 v.2.2) (l := eX1_worth.2.1) ⟨callV_ok (t := 1) hg (mX1_argumentAt hg) kX1_argumentAt mlX1_45 qX1_argumentAt.1 qX1_argumentAt.2 ⟨by decide, by decide⟩ ⟨_, _, rfl⟩ shX1_argumentAt, callN_ok (host := "FallingCalls") hg (mX4_valueOf hg) kX4_valueOf (nxX1_57 hg) qX4_valueOf ⟨by decide, by decide⟩, callN_ok (host := "FallingCalls") hg (mX4_numberOf hg) kX4_numberOf (nxX1_60 hg) qX4_numberOf ⟨by decide, by decide⟩, callN_ok (host := "FallingCalls") hg (mX4_kindOf hg) kX4_kindOf (nxX1_53 hg) qX4_kindOf ⟨by decide, by decide⟩, callJ9_min_X1_78 hg, trivial⟩ h, fdX1_ok, (fun _ _ h => by cases h), rfl⟩
theorem min_i {x y : Nat} (hx : x < 2 ^ 31) (hy : y < 2 ^ 31) : (if nI y < nI x then nI y else nI x) = nI (min x y) := by
  by_cases h : y < x
  · rw [if_pos ((nI_ltI hy hx).mpr h), Nat.min_eq_right (by omega)]
  · rw [if_neg (fun z => h ((nI_ltI hy hx).mp z)), Nat.min_eq_left (by omega)]
theorem toI_n {n : Nat} (h : n < 2 ^ 31) : (nI n).toInt = (n : Int) := nI_toInt h
theorem rX1_worth (av : List AV) (f : FF) (a : AA) (post : PT) (h : sX1_worth av f a post) (X : XT) (hX : Clo eX1_worth post X) : X 0 (padL 8 (ent av)) [] f a := by
  unfold sX1_worth at h
  split at h
  · rename_i p x y z w
    obtain ⟨n, c, k, va, vb, e0, hn, rfl, rfl, hck, rfl, hva, rfl, hvb, hk1, hk2, h⟩ := h
    have b1 : n / 100 < 1000 := by omega
    have b2 : n / 10 % 10 < 1000 := by omega
    have b3 : n % 10 < 1000 := by omega
    refine hX [22] 90 _ _ _ _ _ ?_
    refine ⟨c, k, rfl, rfl, hck, n, by omega, e0, ?_⟩
    have main : ∀ v, v = valN n va vb → X 22 [some (.inr (.inr (1, p, 0))), some (.inl (nI c)), some (.inl (nI k)), some (.inl (nI va)), some (.inl (nI vb)), some (.inl (a 1 p 3 (2 * c + k))), none, none] [.inl (nI v)] f a := by
      intro v hv
      have hv9 : v < 1000 := by rw [hv]; unfold valN; split <;> omega
      refine hX [] 90 _ _ _ _ _ ?_
      refine ⟨n, by omega, e0, n, by omega, e0, ⟨fun q => ?_, fun q => ?_, fun q => ?_, fun q => ?_, trivial⟩, fun q => ?_⟩
      · rw [toI_n (by omega)] at q
        have q : n / 100 = 1 := by omega
        have := hk1 q
        refine pI h ?_
        dsimp only
        rw [pk_sub (by omega)]
        simp [worthN, q, hv]
      · rw [toI_n (by omega)] at q
        have q : n / 100 = 2 := by omega
        have := hk2 q
        refine ⟨fun d => ?_, fun d => ?_⟩
        · have d : n % 10 ≤ 0 := (i_le (b := 0) rfl rfl (i31 b3) (by decide)).mp d
          omega
        · refine ⟨fun z => ?_, pI h ?_⟩
          · exact d (by rw [z]; exact Int32.le_refl _)
          · dsimp only
            rw [pk_div (by omega) (by omega) (by omega)]
            simp [worthN, q, hv]
      · rw [toI_n (by omega)] at q
        have q : n / 100 = 3 := by omega
        refine pI h ?_
        have e9 := min_i (x := v + n % 10) (y := 999) (by omega) (by decide)
        rw [← nI_add] at e9
        refine Eq.trans ?_ e9.symm
        simp [worthN, q, hv]
      · rw [toI_n (by omega)] at q
        have q : n / 100 = 4 := by omega
        refine pI h ?_
        rw [min_i (by omega) (by omega)]
        simp [worthN, q]
      · rw [toI_n (by omega)] at q
        have q : n / 100 = 0 := by omega
        refine pI h ?_
        simp [worthN, q]
    refine ⟨fun d => ?_, fun d => ?_⟩
    · have d : ¬ n / 10 % 10 = 0 := fun z => d (by rw [z]; rfl)
      exact main vb (by simp [valN, d])
    · have d : n / 10 % 10 = 0 := (i_eq (b := 0) rfl rfl (i31 b2) (by decide)).mp d
      exact main va (by simp [valN, d])
  · exact h.elim
theorem shX1_worth : ∀ As f a Q, sX1_worth As f a Q → ∃ i r, As = .inr (.inr (1, i, 0)) :: r := by
  intro As f a Q h
  unfold sX1_worth at h
  split at h
  · exact ⟨_, _, rfl⟩
  · exact h.elim
theorem mX1_worth {g : Gm} (hg : GmOK g) : MetC g yX1_worth cX1_worth 8 (some .int) 1 sX1_worth := by
  refine MetC_of hg eX1_worth (eokX1_worth hg) (by decide +kernel) (fun av f a post h => ?_) rX1_worth
  unfold sX1_worth at h
  split at h
  · exact Nat.le_of_ble_eq_true rfl
  · exact h.elim
/-- whether argument k of call c may become x -/
def takesB (P : Pg) (c k x : Int32) : Bool := hasA P c k && (decide (0 ≤ x) && okA (ar P (fr P c.toNatClampNeg)) x.toNatClampNeg)
def sX1_takes : SP := fun As f a Q => match As with
  | [.inr (.inr (1, p, 0)), .inl c, .inl k, .inl x] => ∃ P, RC (f 1 p) (a 1 p) P ∧ WF P ∧ Q (some (.inl (b2i (takesB P c k x)))) f a
  | _ => False
def eX1_takes : En := (tX1_takes, [(49, false, 3, sX1_hasArgument), (53, true, 1, sX4_kindOf), (57, true, 1, sX4_valueOf), (60, true, 1, sX4_numberOf), (63, true, 3, sX4_argumentOf)], fdX1, [], 1)
theorem eokX1_takes {g : Gm} (hg : GmOK g) : EnvOK g 2 RX1 cX1_takes (some .boolean) eX1_takes := ⟨okX1_takes, fun _ _ _ _ h => as2_all (P := fun i v => CallOK g 2 RX1 i v.1 v.2.1 v.2.2) (l := eX1_takes.2.1) ⟨callV_ok (t := 1) hg (mX1_hasArgument hg) kX1_hasArgument mlX1_49 qX1_hasArgument.1 qX1_hasArgument.2 ⟨by decide, by decide⟩ ⟨_, _, rfl⟩ shX1_hasArgument, callN_ok (host := "FallingCalls") hg (mX4_kindOf hg) kX4_kindOf (nxX1_53 hg) qX4_kindOf ⟨by decide, by decide⟩, callN_ok (host := "FallingCalls") hg (mX4_valueOf hg) kX4_valueOf (nxX1_57 hg) qX4_valueOf ⟨by decide, by decide⟩, callN_ok (host := "FallingCalls") hg (mX4_numberOf hg) kX4_numberOf (nxX1_60 hg) qX4_numberOf ⟨by decide, by decide⟩, callN_ok (host := "FallingCalls") hg (mX4_argumentOf hg) kX4_argumentOf (nxX1_63 hg) qX4_argumentOf ⟨by decide, by decide⟩, trivial⟩ h, fdX1_ok, (fun _ _ h => by cases h), rfl⟩
theorem hasA_spec {P : Pg} (hW : WF P) {c k : Int32} (h : hasA P c k = true) : ∃ n m, c = nI n ∧ n < P.2.length ∧ k = nI m ∧ m < ar P (to P n) := by
  unfold hasA at h
  simp only [Bool.and_eq_true, decide_eq_true_eq] at h
  obtain ⟨⟨h1, h2⟩, h3, h4⟩ := h
  have h12 := hW.l12
  obtain ⟨n, hn, rfl⟩ := ge0 (Int32.not_lt.mpr h1)
  have hc : n < P.2.length := (nI_ltI hn (by omega)).mp h2
  obtain ⟨m, hm, rfl⟩ := ge0 (Int32.not_lt.mpr h3)
  rw [nI_clamp hn] at h4
  have hat := hW.ar_to hc
  exact ⟨n, m, rfl, hc, rfl, (nI_ltI hm (by omega)).mp h4⟩
theorem rX1_takes (av : List AV) (f : FF) (a : AA) (post : PT) (h : sX1_takes av f a post) (X : XT) (hX : Clo eX1_takes post X) : X 0 (padL 5 (ent av)) [] f a := by
  unfold sX1_takes at h
  split at h
  · rename_i p c k x
    obtain ⟨P, hR, hW, h⟩ := h
    have h12 := hW.l12
    have h3 := hW.l3
    refine hX [] 90 _ _ _ _ _ ?_
    refine ⟨P, hR, hW, fun q => ?_, fun q => ⟨fun d => ?_, fun d => ?_⟩⟩
    · exact pF h (by simp [takesB, b2i_e0.mp q])
    · have hA := b2i_n0.mp q
      obtain ⟨n, m, rfl, hc, rfl, hm⟩ := hasA_spec hW hA
      obtain ⟨y, hy, rfl⟩ := ge0 (Int32.not_lt.mpr d)
      have hfr := hW.fr_lt hc
      have haf := hW.ar_fr hc
      have b1 : y / 100 < 2 ^ 31 := by omega
      have b2 : y / 10 % 10 < 2 ^ 31 := by omega
      have b3 : y % 10 < 2 ^ 31 := by omega
      have et : takesB P (nI n) (nI m) (nI y) = okA (ar P (fr P n)) y := by
        simp only [takesB, hA, Bool.true_and, nI_clamp hy, nI_clamp (show n < 2 ^ 31 by omega), show decide (0 ≤ nI y) = true from decide_eq_true d]
      rw [et] at h
      refine ⟨inA 12 rfl rfl (by omega) (by decide), inA 3 (hR.fr_i hW hc) rfl (by omega) (by decide), y, hy, rfl, ⟨fun q => ?_, fun q => ?_, fun q => ?_, fun q => ?_, fun q => ?_, trivial⟩, fun q => ?_⟩
      · rw [toI_n b1] at q
        have q : y / 100 = 0 := by omega
        refine ⟨y, hy, rfl, fun d => ?_, fun d => ?_⟩
        · have d : ¬ y / 10 % 10 = 0 := fun z => d (by rw [z]; rfl)
          exact pF h (by simp [okA, q, d])
        · have d : y / 10 % 10 = 0 := (i_eq (b := 0) rfl rfl b2 (by decide)).mp d
          exact pT h (by simp [okA, q, d]; omega)
      · rw [toI_n b1] at q
        have q : y / 100 = 1 := by omega
        refine ⟨y, hy, rfl, fun d => ?_, fun d => ?_⟩
        · rw [hR.fr_i hW hc, hR.ar_i hW hfr, nI_leI (by omega) b2] at d
          exact pF h (by simp [okA, q]; omega)
        · rw [hR.fr_i hW hc, hR.ar_i hW hfr, nI_leI (by omega) b2] at d
          exact pT h (by simp [okA, q]; omega)
      · rw [toI_n b1] at q
        have q : y / 100 = 2 := by omega
        refine ⟨y, hy, rfl, fun d => ?_, fun d => ?_⟩
        · rw [hR.fr_i hW hc, hR.ar_i hW hfr, nI_leI (by omega) b2] at d
          exact pF h (by simp [okA, q]; omega)
        · rw [hR.fr_i hW hc, hR.ar_i hW hfr, nI_leI (by omega) b2] at d
          refine ⟨y, hy, rfl, fun e => ?_, fun e => ?_⟩
          · have e := (i_le (b := 0) rfl rfl b3 (by decide)).mp e
            exact pF h (by simp [okA, q]; omega)
          · have e : ¬ y % 10 ≤ 0 := fun z => e ((i_le (b := 0) rfl rfl b3 (by decide)).mpr z)
            exact pT h (by simp [okA, q]; omega)
      · rw [toI_n b1] at q
        have q : y / 100 = 3 := by omega
        refine ⟨y, hy, rfl, fun d => ?_, fun d => ?_⟩
        · rw [hR.fr_i hW hc, hR.ar_i hW hfr, nI_leI (by omega) b2] at d
          exact pF h (by simp [okA, q]; omega)
        · rw [hR.fr_i hW hc, hR.ar_i hW hfr, nI_leI (by omega) b2] at d
          exact pT h (by simp [okA, q]; omega)
      · rw [toI_n b1] at q
        have q : y / 100 = 4 := by omega
        refine ⟨fun d => ?_, fun d => ?_⟩
        · rw [hR.fr_i hW hc, hR.ar_i hW hfr] at d
          have d : ¬ ar P (fr P n) = 2 := fun z => d (by rw [z]; rfl)
          exact pF h (by simp [okA, q, d])
        · rw [hR.fr_i hW hc, hR.ar_i hW hfr] at d
          have d : ar P (fr P n) = 2 := (i_eq (b := 2) rfl rfl (by omega) (by decide)).mp d
          refine ⟨fun e => ?_, fun e => ?_⟩
          · have e : ¬ y = 400 := fun z => e (by rw [z]; rfl)
            exact pF h (by simp [okA, q, d, e])
          · have e : y = 400 := (i_eq (b := 400) rfl rfl hy (by decide)).mp e
            exact pT h (by simp [okA, q, d, e])
      · rw [toI_n b1] at q
        exact pF h (by simp [okA]; omega)
    · exact pF h (by simp only [takesB, decide_eq_false d, Bool.false_and, Bool.and_false])
  · exact h.elim
theorem shX1_takes : ∀ As f a Q, sX1_takes As f a Q → ∃ i r, As = .inr (.inr (1, i, 0)) :: r := by
  intro As f a Q h
  unfold sX1_takes at h
  split at h
  · exact ⟨_, _, rfl⟩
  · exact h.elim
theorem mX1_takes {g : Gm} (hg : GmOK g) : MetC g yX1_takes cX1_takes 5 (some .boolean) 2 sX1_takes := by
  refine MetC_of hg eX1_takes (eokX1_takes hg) (by decide +kernel) (fun av f a post h => ?_) rX1_takes
  unfold sX1_takes at h
  split at h
  · exact Nat.le_of_ble_eq_true rfl
  · exact h.elim

/-- the calls behind one move up -/
def sX1_removeCall : SP := fun As f a Q => match As with
  | [.inr (.inr (1, p, 0)), .inl x] => ∃ P n, RC (f 1 p) (a 1 p) P ∧ WF P ∧ x = nI n ∧ n < P.2.length ∧ ∀ f' a', Fr f a f' a' 1 p → RC (f' 1 p) (a' 1 p) (P.1, P.2.eraseIdx n) → a' 1 p 0 = a 1 p 0 → Q none f' a'
  | _ => False
def eX1_removeCall : En := (tX1_removeCall, [(45, false, 3, sX1_argumentAt), (41, false, 4, sX1_putArgument)], fdX1, [], 2)
theorem eokX1_removeCall {g : Gm} (hg : GmOK g) : EnvOK g 1 RX1 cX1_removeCall none eX1_removeCall := ⟨okX1_removeCall, fun _ _ _ _ h => as2_all (P := fun i v => CallOK g 1 RX1 i v.1 v.2.1 v.2.2) (l := eX1_removeCall.2.1) ⟨callV_ok (t := 1) hg (mX1_argumentAt hg) kX1_argumentAt mlX1_45 qX1_argumentAt.1 qX1_argumentAt.2 ⟨by decide, by decide⟩ ⟨_, _, rfl⟩ shX1_argumentAt, callV_ok (t := 1) hg (mX1_putArgument hg) kX1_putArgument mlX1_41 qX1_putArgument.1 qX1_putArgument.2 ⟨by decide, by decide⟩ ⟨_, _, rfl⟩ shX1_putArgument, trivial⟩ h, fdX1_ok, (fun _ _ h => by cases h), rfl⟩
def mvC (a : AA) (p c : Nat) : AA := upa (upa (upa (upa a 1 p 1 c (a 1 p 1 (c + 1))) 1 p 2 c (a 1 p 2 (c + 1))) 1 p 3 (2 * c + 0) (a 1 p 3 (2 * (c + 1) + 0))) 1 p 3 (2 * c + 1) (a 1 p 3 (2 * (c + 1) + 1))
/-- what stands while the calls move: those ahead of c have moved, the rest stands -/
def rmI (P : Pg) (n c p : Nat) (a : AA) : Prop := (∀ i, i < P.1.length → a 1 p 0 i = nI (ar P i)) ∧
  (∀ j, j < c → j < P.2.length - 1 → a 1 p 1 j = nI (fr (P.1, P.2.eraseIdx n) j) ∧ a 1 p 2 j = nI (to (P.1, P.2.eraseIdx n) j) ∧ a 1 p 3 (2 * j) = nI (ag (P.1, P.2.eraseIdx n) j 0) ∧ a 1 p 3 (2 * j + 1) = nI (ag (P.1, P.2.eraseIdx n) j 1)) ∧
  (∀ j, c ≤ j → j < P.2.length → a 1 p 1 j = nI (fr P j) ∧ a 1 p 2 j = nI (to P j) ∧ a 1 p 3 (2 * j) = nI (ag P j 0) ∧ a 1 p 3 (2 * j + 1) = nI (ag P j 1))
theorem cl_er {P : Pg} {n j : Nat} : cl (P.1, P.2.eraseIdx n) j = cl P (if j < n then j else j + 1) := by
  unfold cl
  simp only [List.getD, List.getElem?_eraseIdx]
  split <;> rfl
theorem mvC_ok {P : Pg} {n c p : Nat} {a : AA} (hn : n ≤ c) (hc : c + 1 < P.2.length) (h : rmI P n c p a) : rmI P n (c + 1) p (mvC a p c) := by
  obtain ⟨h0, h1, h2⟩ := h
  have hcl : cl (P.1, P.2.eraseIdx n) c = cl P (c + 1) := by rw [cl_er, if_neg (by omega)]
  have hq := h2 (c + 1) (by omega) hc
  unfold mvC
  refine ⟨fun i hi => ?_, fun j hj hj2 => ?_, fun j hj hj2 => ?_⟩
  · simp [upa_s]
    exact h0 i hi
  · rcases (show j < c ∨ j = c by omega) with z | rfl
    · have q := h1 j z hj2
      refine ⟨?_, ?_, ?_, ?_⟩
      · simp [upa_s, upd_s, show ¬ j = c by omega]; exact q.1
      · simp [upa_s, upd_s, show ¬ j = c by omega]; exact q.2.1
      · simp [upa_s, upd_s, show ¬ 2 * j = 2 * c + 1 by omega, show ¬ 2 * j = 2 * c by omega]; exact q.2.2.1
      · simp [upa_s, upd_s, show ¬ 2 * j + 1 = 2 * c by omega, show ¬ 2 * j = 2 * c by omega]; exact q.2.2.2
    · simp only [fr, to, ag, hcl]
      refine ⟨?_, ?_, ?_, ?_⟩
      · simp [upa_s, upd_s]; exact hq.1
      · simp [upa_s, upd_s]; exact hq.2.1
      · simp [upa_s, upd_s, show ¬ 2 * j = 2 * j + 1 by omega]; exact hq.2.2.1
      · simp [upa_s, upd_s]; exact hq.2.2.2
  · have q := h2 j (by omega) hj2
    refine ⟨?_, ?_, ?_, ?_⟩
    · simp [upa_s, upd_s, show ¬ j = c by omega]; exact q.1
    · simp [upa_s, upd_s, show ¬ j = c by omega]; exact q.2.1
    · simp [upa_s, upd_s, show ¬ 2 * j = 2 * c + 1 by omega, show ¬ 2 * j = 2 * c by omega]; exact q.2.2.1
    · simp [upa_s, upd_s, show ¬ 2 * j + 1 = 2 * c by omega, show ¬ 2 * j = 2 * c by omega]; exact q.2.2.2
theorem mvC_fr (a : AA) (p c : Nat) (f : FF) : Fr f a f (mvC a p c) 1 p := ((((Fr.rf f a 1 p).ua 1 _ _).ua 2 _ _).ua 3 _ _).ua 3 _ _
theorem rX1_removeCall (av : List AV) (f : FF) (a : AA) (post : PT) (h : sX1_removeCall av f a post) (X : XT) (hX : Clo eX1_removeCall post X) : X 0 (padL 3 (ent av)) [] f a := by
  unfold sX1_removeCall at h
  split at h
  · rename_i p x
    obtain ⟨P, n, hR, hW, rfl, hn, h⟩ := h
    have h12 := hW.l12
    have h3 := hW.l3
    have e5 : f 1 p 5 - 1 = nI (P.2.length - 1) := by
      rw [hR.2.1]
      exact pk_sub (b := 1) (by omega)
    refine hX [12] 90 _ _ _ _ _ ?_
    have key : ∀ d c a1, a1 1 p 0 = a 1 p 0 → c + d = P.2.length - 1 → n ≤ c → rmI P n c p a1 → Fr f a (upf f 1 p 5 (nI (P.2.length - 1))) a1 1 p → X 12 [some (.inr (.inr (1, p, 0))), some (.inl (nI n)), some (.inl (nI c))] [] (upf f 1 p 5 (nI (P.2.length - 1))) a1 := by
      intro d
      induction d with
      | zero =>
        intro c a1 ha0 hcd hnc hI hF
        refine hX [12] 90 _ _ _ _ _ ?_
        refine ⟨fun q => ?_, fun q => ?_⟩
        · refine h _ _ hF ⟨?_, ?_, hI.1, fun j hj => ?_⟩ ha0
          · rw [upf_s, if_neg (by decide)]; exact hR.1
          · rw [upf_s, if_pos rfl, List.length_eraseIdx, if_pos hn]
          · have hj : j < P.2.length - 1 := by
              have : j < (P.2.eraseIdx n).length := hj
              rw [List.length_eraseIdx, if_pos hn] at this
              exact this
            exact hI.2.1 j (by omega) hj
        · rw [upf_eq] at q
          exact absurd (nI_le (by omega) (by omega)) q
      | succ d ih =>
        intro c a1 ha0 hcd hnc hI hF
        have hc : c < P.2.length - 1 := by omega
        refine hX [12] 90 _ _ _ _ _ ?_
        have ec : nI c + 1 = nI (c + 1) := (nI_succ c).symm
        refine ⟨fun q => ?_, fun q => ?_⟩
        · rw [upf_eq] at q
          exact absurd q (nI_ge hc (by omega))
        · refine ⟨inA 12 ec rfl (by omega) (by decide), inA 12 rfl rfl (by omega) (by decide), inA 12 ec rfl (by omega) (by decide), inA 12 rfl rfl (by omega) (by decide), ?_⟩
          refine ⟨c + 1, 0, ec, rfl, by omega, c, 0, rfl, rfl, by omega, ?_⟩
          refine ⟨c + 1, 1, ec, rfl, by omega, c, 1, rfl, rfl, by omega, ?_⟩
          have n1 := ih (c + 1) (mvC a1 p c) (by unfold mvC; rw [upa_s, if_neg (by decide), upa_s, if_neg (by decide), upa_s, if_neg (by decide), upa_s, if_neg (by decide)]; exact ha0) (by omega) (by omega) (mvC_ok hnc (by omega) hI) (hF.tr (mvC_fr a1 p c _))
          rw [nI_succ] at n1
          have e1 : (nI c + 1).toNatClampNeg = c + 1 := by rw [ec, nI_clamp (by omega)]
          have e2 : (nI c).toNatClampNeg = c := nI_clamp (by omega)
          refine xE n1 rfl ?_
          unfold mvC
          dsimp only
          rw [e1, e2]
          simp only [upa_s, upd_s, if_pos, if_neg (show ¬ (2 : Nat) = 1 by decide), if_neg (show ¬ (3 : Nat) = 1 by decide), if_neg (show ¬ (3 : Nat) = 2 by decide), if_neg (show ¬ 2 * (c + 1) + 1 = 2 * c + 0 by omega)]
    rw [← e5] at key
    exact key (P.2.length - 1 - n) n a rfl (by omega) (Nat.le_refl _) ⟨hR.2.2.1, fun j hj hj2 => by
        have q := hR.2.2.2 j (by omega)
        simp only [fr, to, ag, cl_er, if_pos hj]
        exact q, fun j hj hj2 => hR.2.2.2 j hj2⟩ ((Fr.rf f a 1 p).uf 5 _)
  · exact h.elim
theorem shX1_removeCall : ∀ As f a Q, sX1_removeCall As f a Q → ∃ i r, As = .inr (.inr (1, i, 0)) :: r := by
  intro As f a Q h
  unfold sX1_removeCall at h
  split at h
  · exact ⟨_, _, rfl⟩
  · exact h.elim
theorem mX1_removeCall {g : Gm} (hg : GmOK g) : MetC g yX1_removeCall cX1_removeCall 3 none 1 sX1_removeCall := by
  refine MetC_of hg eX1_removeCall (eokX1_removeCall hg) (by decide +kernel) (fun av f a post h => ?_) rX1_removeCall
  unfold sX1_removeCall at h
  split at h
  · exact Nat.le_of_ble_eq_true rfl
  · exact h.elim
end
section
/-! graphs: codes composed; the list of graphs; closing it -/
theorem fb_holes : ∀ (m n : Nat) (f : Nat → Nat), (∀ i, i < n → f i < m) → (∀ i j, i < j → j < n → f i ≠ f j) → n ≤ m := by
  intro m
  induction m with
  | zero =>
    intro n f h1 _
    rcases Nat.eq_zero_or_pos n with h | h
    · omega
    · exact absurd (h1 0 h) (Nat.not_lt_zero _)
  | succ m ih =>
    intro n f h1 h2
    by_cases hx : ∃ i, i < n ∧ f i = m
    · obtain ⟨a, ha, hfa⟩ := hx
      have hg := ih (n - 1) (fun i => if i < a then f i else f (i + 1)) (by
        intro i hi
        by_cases q : i < a
        · simp only [if_pos q]
          have b1 := h1 i (by omega)
          have b2 := h2 i a q ha
          omega
        · simp only [if_neg q]
          have b1 := h1 (i + 1) (by omega)
          have b2 := h2 a (i + 1) (by omega) (by omega)
          omega) (by
        intro i j hij hj
        by_cases q : i < a
        · by_cases r : j < a
          · simp only [if_pos q, if_pos r]
            exact h2 i j hij (by omega)
          · simp only [if_pos q, if_neg r]
            exact h2 i (j + 1) (by omega) (by omega)
        · have r : ¬ j < a := by omega
          simp only [if_neg q, if_neg r]
          exact h2 (i + 1) (j + 1) (by omega) (by omega))
      omega
    · have hg := ih n f (fun i hi => by
        have b1 := h1 i hi
        have b2 : f i ≠ m := fun e => hx ⟨i, hi, e⟩
        omega) h2
      omega
theorem fa_and (a b : Nat) : nI a &&& nI b = nI (a &&& b) := by
  apply Int32.toBitVec_inj.1
  show BitVec.ofNat 32 a &&& BitVec.ofNat 32 b = BitVec.ofNat 32 (a &&& b)
  apply BitVec.eq_of_getLsbD_eq
  intro i hi
  simp [hi]
theorem fa_or (a b : Nat) : nI a ||| nI b = nI (a ||| b) := by
  apply Int32.toBitVec_inj.1
  show BitVec.ofNat 32 a ||| BitVec.ofNat 32 b = BitVec.ofNat 32 (a ||| b)
  apply BitVec.eq_of_getLsbD_eq
  intro i hi
  simp [hi]

def r1 (x y : Nat) : Nat := if x = 0 ∨ y = 0 then 0 else if x = 2 ∨ y = 2 then 2 else 1
def cmp1 (x y i k : Nat) : Nat := max (r1 (rl x i 0) (rl y 0 k)) (r1 (rl x i 1) (rl y 1 k))
/-- two codes composed -/
def compN (x y : Nat) : Nat := codeR (cmp1 x y 0 0) (cmp1 x y 0 1) (cmp1 x y 1 0) (cmp1 x y 1 1)
theorem r1_lt (x y : Nat) : r1 x y < 3 := by
  unfold r1
  split
  · decide
  · split <;> decide
theorem compN_lt (x y : Nat) : compN x y < 81 := by
  have h : ∀ i k, cmp1 x y i k < 3 := fun i k => by
    have h1 := r1_lt (rl x i 0) (rl y 0 k)
    have h2 := r1_lt (rl x i 1) (rl y 1 k)
    unfold cmp1
    omega
  exact codeR_lt (h 0 0) (h 0 1) (h 1 0) (h 1 1)
/-- in which values it falls, as bits -/
def fallN (c : Nat) : Nat := (if rl c 0 0 = 2 then 1 else 0) + (if rl c 1 1 = 2 then 2 else 0)
abbrev Gr : Type := Nat × Nat × Nat × Option Nat × Nat × Nat × Nat
def pl (f t c : Nat) : Nat := (3 * f + t) * 81 + c
def gpl (e : Gr) : Nat := pl e.1 e.2.1 e.2.2.1
def ge (L : List Gr) (g : Nat) : Gr := L.getD g (0, 0, 0, none, 0, 0, 0)
def fnd (L : List Gr) (p : Nat) : Option Nat := L.findIdx? (fun e => gpl e == p)
def newE (L : List Gr) (f t c : Nat) (ah : Option Nat) (la : Nat) : Gr := (f, t, c, ah, la, (match ah with
  | none => 1
  | some h => (ge L h).2.2.2.2.2.1 + 1), 2 ^ la ||| (match ah with
  | none => 0
  | some h => (ge L h).2.2.2.2.2.2))
def meetL (L : List Gr) (f t c : Nat) (ah : Option Nat) (la : Nat) : List Gr := match fnd L (pl f t c) with
  | some _ => L
  | none => L ++ [newE L f t c ah la]
/-- an entry is in order -/
def okG (L : List Gr) (g : Nat) (e : Gr) : Prop := e.1 < 3 ∧ e.2.1 < 3 ∧ e.2.2.1 < 81 ∧ e.2.2.2.2.1 < 12 ∧ (∀ h, e.2.2.2.1 = some h → h < g ∧ e.2.2.2.2.2.1 = (ge L h).2.2.2.2.2.1 + 1) ∧ (e.2.2.2.1 = none → e.2.2.2.2.2.1 = 1) ∧ 1 ≤ e.2.2.2.2.2.1 ∧ e.2.2.2.2.2.1 ≤ g + 1 ∧ e.2.2.2.2.2.2 < 4096
def WL (L : List Gr) : Prop := (∀ g, g < L.length → okG L g (ge L g)) ∧ ∀ g h, g < L.length → h < L.length → gpl (ge L g) = gpl (ge L h) → g = h
theorem pl_lt {f t c : Nat} (hf : f < 3) (ht : t < 3) (hc : c < 81) : pl f t c < 729 := by unfold pl; omega
theorem pl_inj {f t c f' t' c' : Nat} (ht : t < 3) (hc : c < 81) (ht' : t' < 3) (hc' : c' < 81) (h : pl f t c = pl f' t' c') : f = f' ∧ t = t' ∧ c = c' := by
  unfold pl at h
  omega
theorem ge_at {L : List Gr} {g : Nat} (h : g < L.length) : L[g]? = some (ge L g) := by
  unfold ge
  rw [List.getD_eq_getElem?_getD, List.getElem?_eq_getElem h]
  rfl
theorem ge_app {L M : List Gr} {g : Nat} (h : g < L.length) : ge (L ++ M) g = ge L g := by
  unfold ge
  rw [List.getD_eq_getElem?_getD, List.getD_eq_getElem?_getD, List.getElem?_append_left h]
theorem ge_last {L : List Gr} {e : Gr} : ge (L ++ [e]) L.length = e := by
  unfold ge
  rw [List.getD_eq_getElem?_getD, List.getElem?_append_right (Nat.le_refl _), Nat.sub_self]
  rfl
theorem fnd_some {L : List Gr} {p g : Nat} (h : fnd L p = some g) : g < L.length ∧ gpl (ge L g) = p := by
  unfold fnd at h
  obtain ⟨h1, h2, -⟩ := List.findIdx?_eq_some_iff_getElem.mp h
  refine ⟨h1, ?_⟩
  have h3 := ge_at h1
  rw [List.getElem?_eq_getElem h1] at h3
  rw [← Option.some.inj h3]
  exact eq_of_beq h2
theorem fnd_none {L : List Gr} {p : Nat} (h : fnd L p = none) : ∀ g, g < L.length → gpl (ge L g) ≠ p := by
  intro g hg hp
  unfold fnd at h
  have h1 := List.findIdx?_eq_none_iff.mp h (ge L g) (List.mem_of_getElem? (ge_at hg))
  simp [hp] at h1
theorem fnd_of {L : List Gr} (hW : WL L) {g : Nat} (hg : g < L.length) : fnd L (gpl (ge L g)) = some g := by
  cases h : fnd L (gpl (ge L g)) with
  | none => exact absurd rfl (fnd_none h g hg)
  | some g' =>
    obtain ⟨h1, h2⟩ := fnd_some h
    rw [hW.2 g' g h1 hg h2]
theorem fnd_app {L : List Gr} {e : Gr} {p : Nat} : fnd (L ++ [e]) p = match fnd L p with
    | some g => some g
    | none => if gpl e = p then some L.length else none := by
  unfold fnd
  rw [List.findIdx?_append]
  cases h : L.findIdx? (fun e => gpl e == p) with
  | some g => rfl
  | none =>
    by_cases hp : gpl e = p
    · simp [hp]
    · simp [hp]
theorem WL_nil : WL [] := ⟨fun g h => absurd h (Nat.not_lt_zero g), fun g _ h => absurd h (Nat.not_lt_zero g)⟩
theorem WL_len {L : List Gr} (hW : WL L) : L.length ≤ 729 := by
  refine fb_holes 729 L.length (fun g => gpl (ge L g)) (fun g hg => ?_) (fun g h hgh hh e => ?_)
  · have := hW.1 g hg
    exact pl_lt this.1 this.2.1 this.2.2.1
  · have := hW.2 g h (by omega) hh e
    omega
theorem WL_new {L : List Gr} (hW : WL L) {f t c la : Nat} {ah : Option Nat} (hf : f < 3) (ht : t < 3) (hc : c < 81) (hla : la < 12) (hah : ∀ h, ah = some h → h < L.length) (hn : fnd L (pl f t c) = none) : WL (L ++ [newE L f t c ah la]) := by
  have p12 : 2 ^ la < 4096 := Nat.lt_of_lt_of_le (Nat.pow_lt_pow_right (by decide) hla) (by decide)
  refine ⟨fun g hg => ?_, fun g h hg hh hgh => ?_⟩
  · rw [List.length_append] at hg
    have hg : g < L.length ∨ g = L.length := by simp at hg; omega
    rcases hg with hg | rfl
    · rw [ge_app hg]
      have q := hW.1 g hg
      refine ⟨q.1, q.2.1, q.2.2.1, q.2.2.2.1, fun h hh => ?_, q.2.2.2.2.2⟩
      have q2 := q.2.2.2.2.1 h hh
      exact ⟨q2.1, by rw [ge_app (by omega)]; exact q2.2⟩
    · rw [ge_last]
      refine ⟨hf, ht, hc, hla, fun h hh => ?_, fun hh => ?_, ?_, ?_, ?_⟩
      · have hh : ah = some h := hh
        subst hh
        exact ⟨hah h rfl, by rw [ge_app (hah h rfl)]; rfl⟩
      · have hh : ah = none := hh
        subst hh
        rfl
      · cases ah with
        | none => exact Nat.le_refl 1
        | some h => show 1 ≤ _ + 1; omega
      · cases ah with
        | none => show 1 ≤ _; omega
        | some h =>
          have q := hW.1 h (hah h rfl)
          have := q.2.2.2.2.2.2.2.1
          have := hah h rfl
          show (ge L h).2.2.2.2.2.1 + 1 ≤ L.length + 1
          omega
      · show _ ||| _ < 2 ^ 12
        refine Nat.or_lt_two_pow p12 ?_
        cases ah with
        | none => show 0 < 2 ^ 12; decide
        | some h => exact (hW.1 h (hah h rfl)).2.2.2.2.2.2.2.2
  · have key : ∀ g, g < (L ++ [newE L f t c ah la]).length → g < L.length ∨ g = L.length := fun g hg => by simp at hg; omega
    rcases key g hg with hg | rfl <;> rcases key h hh with hh | rfl
    · rw [ge_app hg, ge_app hh] at hgh
      exact hW.2 g h hg hh hgh
    · rw [ge_app hg, ge_last] at hgh
      exact absurd hgh (fnd_none hn g hg)
    · rw [ge_app hh, ge_last] at hgh
      exact absurd hgh.symm (fnd_none hn h hh)
    · rfl
theorem WL_meet {L : List Gr} (hW : WL L) {f t c la : Nat} {ah : Option Nat} (hf : f < 3) (ht : t < 3) (hc : c < 81) (hla : la < 12) (hah : ∀ h, ah = some h → h < L.length) : WL (meetL L f t c ah la) := by
  unfold meetL
  split
  · exact hW
  · rename_i hn
    exact WL_new hW hf ht hc hla hah hn
theorem meet_pre (L : List Gr) (f t c : Nat) (ah : Option Nat) (la : Nat) : ∃ M, meetL L f t c ah la = L ++ M := by
  unfold meetL
  split
  · exact ⟨[], (List.append_nil L).symm⟩
  · exact ⟨_, rfl⟩
theorem fnd_pre {L M : List Gr} {p g : Nat} (h : fnd L p = some g) : fnd (L ++ M) p = some g := by
  unfold fnd at h ⊢
  rw [List.findIdx?_append, h]
  rfl
theorem meet_has (L : List Gr) (f t c : Nat) (ah : Option Nat) (la : Nat) : ∃ g, fnd (meetL L f t c ah la) (pl f t c) = some g := by
  unfold meetL
  split
  · rename_i g hg
    exact ⟨g, hg⟩
  · rename_i hn
    exact ⟨L.length, by rw [fnd_app, hn]; exact if_pos rfl⟩
/-! closing: calls as keys, of which some are left out -/
abbrev Kf : Type := Nat → Nat × Nat × Nat
def ph1 (K : Kf) (act : Nat → Bool) : Nat → List Gr
  | 0 => []
  | n + 1 => if act n then meetL (ph1 K act n) (K n).1 (K n).2.1 (K n).2.2 none n else ph1 K act n
def inn (K : Kf) (act : Nat → Bool) (L : List Gr) (g : Nat) : Nat → List Gr
  | 0 => L
  | n + 1 => if act n && decide ((K n).1 = (ge L g).2.1) then meetL (inn K act L g n) (ge L g).1 (K n).2.1 (compN (ge L g).2.2.1 (K n).2.2) (some g) n else inn K act L g n
def out (K : Kf) (act : Nat → Bool) (n : Nat) : Nat → List Gr → Nat → List Gr
  | 0, L, _ => L
  | d + 1, L, g => if g < L.length then out K act n d (inn K act L g n) (g + 1) else L
def cloG (K : Kf) (act : Nat → Bool) (n : Nat) : List Gr := out K act n 730 (ph1 K act n) 0
def okK (K : Kf) (n : Nat) : Prop := n ≤ 12 ∧ ∀ c, c < n → (K c).1 < 3 ∧ (K c).2.1 < 3 ∧ (K c).2.2 < 81
theorem ph1_ok {K : Kf} {act : Nat → Bool} {n : Nat} (h : okK K n) : ∀ m, m ≤ n → WL (ph1 K act m)
  | 0, _ => WL_nil
  | m + 1, hm => by
    have ih := ph1_ok (act := act) h m (by omega)
    have hk := h.2 m (by omega)
    have := h.1
    unfold ph1
    split
    · exact WL_meet ih hk.1 hk.2.1 hk.2.2 (by omega) (fun h hh => by cases hh)
    · exact ih
theorem inn_pre {K : Kf} {act : Nat → Bool} {L : List Gr} {g : Nat} : ∀ m, ∃ M, inn K act L g m = L ++ M
  | 0 => ⟨[], (List.append_nil L).symm⟩
  | m + 1 => by
    obtain ⟨M, hM⟩ := inn_pre (K := K) (act := act) (L := L) (g := g) m
    unfold inn
    split
    · obtain ⟨M', hM'⟩ := meet_pre (inn K act L g m) (ge L g).1 (K m).2.1 (compN (ge L g).2.2.1 (K m).2.2) (some g) m
      exact ⟨M ++ M', by rw [hM', hM, List.append_assoc]⟩
    · exact ⟨M, hM⟩
theorem inn_ok {K : Kf} {act : Nat → Bool} {L : List Gr} {g n : Nat} (h : okK K n) (hW : WL L) (hg : g < L.length) : ∀ m, m ≤ n → WL (inn K act L g m)
  | 0, _ => hW
  | m + 1, hm => by
    have ih := inn_ok (act := act) h hW hg m (by omega)
    have hk := h.2 m (by omega)
    have := h.1
    have he := hW.1 g hg
    obtain ⟨M, hM⟩ := inn_pre (K := K) (act := act) (L := L) (g := g) m
    unfold inn
    split
    · refine WL_meet ih he.1 hk.2.1 (compN_lt _ _) (by omega) (fun h hh => ?_)
      cases hh
      rw [hM, List.length_append]
      omega
    · exact ih
theorem out_ok {K : Kf} {act : Nat → Bool} {n : Nat} (h : okK K n) : ∀ (d : Nat) (L : List Gr) (g : Nat), WL L → WL (out K act n d L g) ∧ ∃ M, out K act n d L g = L ++ M
  | 0, L, g, hW => ⟨hW, [], (List.append_nil L).symm⟩
  | d + 1, L, g, hW => by
    unfold out
    split
    · rename_i hg
      obtain ⟨h1, M, h2⟩ := out_ok (act := act) h d (inn K act L g n) (g + 1) (inn_ok h hW hg n (Nat.le_refl _))
      obtain ⟨M', h3⟩ := inn_pre (K := K) (act := act) (L := L) (g := g) n
      exact ⟨h1, M' ++ M, by rw [h2, h3, List.append_assoc]⟩
    · exact ⟨hW, [], (List.append_nil L).symm⟩
theorem clo_ok {K : Kf} {act : Nat → Bool} {n : Nat} (h : okK K n) : WL (cloG K act n) := (out_ok h 730 _ 0 (ph1_ok h n (Nat.le_refl _))).1
end
section
/-! Graphs: leaves -/
def sX0_codeOf : SP := fun As f a Q => match As with
  | [.inl x] => ∃ c, c < 81 ∧ x = nI (bitsN c) ∧ Q (some (.inl (nI c))) f a
  | _ => False
theorem pow_in1 : ∀ c, c < 81 → ¬ ((nI (bitsN c) &&& 15) < 0 ∨ 16 ≤ (nI (bitsN c) &&& 15).toNatClampNeg) := by decide +kernel
theorem pow_in2 : ∀ c, c < 81 → ¬ (((nI (bitsN c) >>> ((4 : Int32) &&& 31)) &&& 15) < 0 ∨ 16 ≤ ((nI (bitsN c) >>> ((4 : Int32) &&& 31)) &&& 15).toNatClampNeg) := by decide +kernel
theorem pow_sum : ∀ c, c < 81 → powT.getD (nI (bitsN c) &&& 15).toNatClampNeg 0 + powT.getD ((nI (bitsN c) >>> ((4 : Int32) &&& 31)) &&& 15).toNatClampNeg 0 = nI c := by decide +kernel
theorem powL : Cond.fieldLink RX0 39 "FallingCalls$Graphs" "POWERS" "[I" ∈ WS := inWS 438 (by decide +kernel) rfl
theorem mX0_codeOf {g : Gm} (hg : GmOK g) : MetC g yX0_codeOf cX0_codeOf 1 (some .int) 0 sX0_codeOf := by
  intro av f a post hav hsp
  unfold sX0_codeOf at hsp
  split at hsp
  · obtain ⟨c, hc, rfl, h⟩ := hsp
    refine Met.ofW (cc := cX0_codeOf) (maxL := 1) (ret := some .int) (by decide +kernel) rfl ?_
    intro p e s m args below meth cd s₁ B hml hv
    obtain ⟨rfl, hP, hG⟩ := hv
    have hx := B.exec
    have hb := B.bytes
    have hr := B.returns
    have hts := atoms_spec (ws := Cond.code yX0_codeOf cX0_codeOf 1 (some .int) :: WS) B.pre
    have hown : s.vm.findClass RX0 = some m.cls := findClass_of_methodNamed B.named
    have hlocks := B.notSynchronized
    obtain ⟨pw, hZ, hT⟩ := (hg.2.2.2.2 s hG).2.1
    have hS : va_S (gA g) s.heap s.heap [] := va_S.rf
    have hl := lv_entry ([Value.int (nI (bitsN c))]) (n := 1) (Nat.le_of_ble_eq_true rfl)
    rw [lg_entry_eq]
    have d0 : decode cX0_codeOf 0 = .ok (.getstatic 39, 3) := by decide +kernel
    have d3 : decode cX0_codeOf 3 = .ok (.iload_n 0, 1) := by decide +kernel
    have d4 : decode cX0_codeOf 4 = .ok (.bipush 15, 2) := by decide +kernel
    have d6 : decode cX0_codeOf 6 = .ok (.iand, 1) := by decide +kernel
    have d7 : decode cX0_codeOf 7 = .ok (.iaload, 1) := by decide +kernel
    have d8 : decode cX0_codeOf 8 = .ok (.getstatic 39, 3) := by decide +kernel
    have d11 : decode cX0_codeOf 11 = .ok (.iload_n 0, 1) := by decide +kernel
    have d12 : decode cX0_codeOf 12 = .ok (.iconst 4, 1) := by decide +kernel
    have d13 : decode cX0_codeOf 13 = .ok (.ishr, 1) := by decide +kernel
    have d14 : decode cX0_codeOf 14 = .ok (.bipush 15, 2) := by decide +kernel
    have d16 : decode cX0_codeOf 16 = .ok (.iand, 1) := by decide +kernel
    have d17 : decode cX0_codeOf 17 = .ok (.iaload, 1) := by decide +kernel
    have d18 : decode cX0_codeOf 18 = .ok (.iadd, 1) := by decide +kernel
    have d19 : decode cX0_codeOf 19 = .ok (.ireturn, 1) := by decide +kernel
    refine va_gets hx hb hZ hS hown (hts _ (List.mem_cons_of_mem _ powL)) (fun _ q => q) d0 ?_
    refine lv_iload_n hx hb d3 rfl (lv_at hl 0 rfl) ?_
    refine lv_bipush (v := 15) hx hb d4 (by decide) ?_
    refine lv_iand hx hb d6 ?_
    refine va_ti hx hb hT hS (pow_in1 c hc) rfl d7 ?_
    refine va_gets hx hb hZ hS hown (hts _ (List.mem_cons_of_mem _ powL)) (fun _ q => q) d8 ?_
    refine lv_iload_n hx hb d11 rfl (lv_at hl 0 rfl) ?_
    refine lv_iconst (v := 4) hx hb d12 (by decide) ?_
    refine lv_ishr hx hb d13 ?_
    refine lv_bipush (v := 15) hx hb d14 (by decide) ?_
    refine lv_iand hx hb d16 ?_
    refine va_ti hx hb hT hS (pow_in2 c hc) rfl d17 ?_
    refine lv_iadd hx hb d18 ?_
    refine W.iret hx hb hr (fun t ht hW => ⟨⟨some (.inl (nI c)), f, a, ?_, h, fun v hv => by cases hv; trivial, by rw [ht]; exact hP⟩, hS.F ht⟩) hS.2.2 d19
    rw [pow_sum c hc]
    rfl
  · exact hsp.elim
def stepC (x y : Int32) (i m : Nat) (z : Int32) : Int32 := if (x >>> ((2 * nI i + nI m) &&& 31)) &&& 1 = 0 then z else z ||| ((if (x >>> ((2 * nI i + nI m) &&& 31)) &&& 16 = 0 then (y >>> ((2 * nI m) &&& 31)) &&& 51 else ((y >>> ((2 * nI m) &&& 31)) &&& 51) ||| ((((y >>> ((2 * nI m) &&& 31)) &&& 51) <<< ((4 : Int32) &&& 31)) &&& 51)) <<< ((2 * nI i) &&& 31))
def innC (x y : Int32) (i : Nat) (z : Int32) : Nat → Int32
  | 0 => z
  | m + 1 => stepC x y i m (innC x y i z m)
def outC (x y : Int32) : Nat → Int32
  | 0 => 0
  | i + 1 => innC x y i (outC x y i) 2
def bT : List Int32 := (List.range 81).map (fun c => nI (bitsN c))
theorem outC_all : (List.range 81).all (fun c => (List.range 81).all (fun d => decide (outC (nI (bitsN c)) (nI (bitsN d)) 2 = nI (bitsN (compN c d))))) = true := by decide +kernel
theorem outC_ok {c d : Nat} (hc : c < 81) (hd : d < 81) : outC (nI (bitsN c)) (nI (bitsN d)) 2 = nI (bitsN (compN c d)) := of_decide_eq_true (List.all_eq_true.mp (List.all_eq_true.mp outC_all c (List.mem_range.mpr hc)) d (List.mem_range.mpr hd))
def sX0_composed : SP := fun As f a Q => match As with
  | [.inl x, .inl y] => ∃ c d, c < 81 ∧ d < 81 ∧ x = nI (bitsN c) ∧ y = nI (bitsN d) ∧ Q (some (.inl (nI (bitsN (compN c d))))) f a
  | _ => False
def eX0_composed : En := (tX0_composed, [], fdX0, [], 0)
theorem eokX0_composed {g : Gm} (hg : GmOK g) : EnvOK g 0 RX0 cX0_composed (some .int) eX0_composed := ⟨okX0_composed, (fun _ _ _ _ h => by cases h), fdX0_ok, (fun _ _ h => by cases h), rfl⟩
theorem rX0_composed (av : List AV) (f : FF) (a : AA) (post : PT) (h : sX0_composed av f a post) (X : XT) (hX : Clo eX0_composed post X) : X 0 (padL 7 (ent av)) [] f a := by
  unfold sX0_composed at h
  split at h
  · rename_i x y
    obtain ⟨c, d, hc, hd, ex, ey, h⟩ := h
    rw [← outC_ok hc hd, ← ex, ← ey] at h
    refine hX [4] 90 _ _ _ _ _ ?_
    refine forUp (Pr := fun i => ∀ z4 z5 z6, X 4 [some (.inl x), some (.inl y), some (.inl (outC x y i)), some (.inl (nI i)), z4, z5, z6] [] f a) (n := 2) (fun i hi next z4 z5 z6 => ?_) (fun z4 z5 z6 => ?_) 0 (Nat.zero_le _) none none none
    · refine hX [4, 12] 90 _ _ _ _ _ ?_
      refine ⟨fun q => absurd q (nI_ge (b := 2) hi (by decide)), fun q => ?_⟩
      refine forUp (Pr := fun m => ∀ z5 z6, X 12 [some (.inl x), some (.inl y), some (.inl (innC x y i (outC x y i) m)), some (.inl (nI i)), some (.inl (nI m)), z5, z6] [] f a) (n := 2) (fun m hm next z5 z6 => ?_) (fun z5 z6 => ?_) 0 (Nat.zero_le _) z5 z6
      · refine hX [4, 12] 90 _ _ _ _ _ ?_
        refine ⟨fun q => absurd q (nI_ge (b := 2) hm (by decide)), fun q => ?_⟩
        have e1 : innC x y i (outC x y i) (m + 1) = stepC x y i m (innC x y i (outC x y i) m) := rfl
        refine ⟨fun q1 => ?_, fun q1 => ?_⟩
        · have n1 := next (some (.inl (x >>> ((2 * nI i + nI m) &&& 31)))) z6
          rw [nI_succ, e1, stepC, if_pos q1] at n1
          exact n1
        · refine ⟨fun q2 => ?_, fun q2 => ?_⟩
          · have n1 := next (some (.inl (x >>> ((2 * nI i + nI m) &&& 31)))) (some (.inl ((y >>> ((2 * nI m) &&& 31)) &&& 51)))
            rw [nI_succ, e1, stepC, if_neg q1, if_pos q2] at n1
            exact n1
          · have n1 := next (some (.inl (x >>> ((2 * nI i + nI m) &&& 31)))) (some (.inl (((y >>> ((2 * nI m) &&& 31)) &&& 51) ||| ((((y >>> ((2 * nI m) &&& 31)) &&& 51) <<< ((4 : Int32) &&& 31)) &&& 51))))
            rw [nI_succ, e1, stepC, if_neg q1, if_neg q2] at n1
            exact n1
      · refine hX [4, 12] 90 _ _ _ _ _ ?_
        refine ⟨fun q => ?_, fun q => absurd (Int32.le_refl _) q⟩
        have n1 := next (some (.inl (nI 2))) z5 z6
        rw [nI_succ] at n1
        exact n1
    · refine hX [4] 90 _ _ _ _ _ ?_
      exact ⟨fun q => h, fun q => absurd (Int32.le_refl _) q⟩
  · exact h.elim
theorem mX0_composed {g : Gm} (hg : GmOK g) : MetC g yX0_composed cX0_composed 7 (some .int) 0 sX0_composed := by
  refine MetC_of hg eX0_composed (eokX0_composed hg) (by decide +kernel) (fun av f a post h => ?_) rX0_composed
  unfold sX0_composed at h
  split at h
  · exact Nat.le_of_ble_eq_true rfl
  · exact h.elim
def sX0_placeOf : SP := fun As f a Q => match As with
  | [.inl x, .inl y, .inl z] => ∃ i j c, x = nI i ∧ y = nI j ∧ z = nI c ∧ Q (some (.inl (nI (pl i j c)))) f a
  | _ => False
def eX0_placeOf : En := (tX0_placeOf, [], fdX0, [], 0)
theorem eokX0_placeOf {g : Gm} (hg : GmOK g) : EnvOK g 0 RX0 cX0_placeOf (some .int) eX0_placeOf := ⟨okX0_placeOf, (fun _ _ _ _ h => by cases h), fdX0_ok, (fun _ _ h => by cases h), rfl⟩
theorem rX0_placeOf (av : List AV) (f : FF) (a : AA) (post : PT) (h : sX0_placeOf av f a post) (X : XT) (hX : Clo eX0_placeOf post X) : X 0 (padL 3 (ent av)) [] f a := by
  unfold sX0_placeOf at h
  split at h
  · obtain ⟨i, j, c, rfl, rfl, rfl, h⟩ := h
    refine hX [] 90 _ _ _ _ _ ?_
    refine pI h ?_
    dsimp only
    rw [show (3 : Int32) = nI 3 from rfl, show (81 : Int32) = nI 81 from rfl, pk_mul, nI_add, pk_mul, nI_add]
    rfl
  · exact h.elim
theorem mX0_placeOf {g : Gm} (hg : GmOK g) : MetC g yX0_placeOf cX0_placeOf 3 (some .int) 0 sX0_placeOf := by
  refine MetC_of hg eX0_placeOf (eokX0_placeOf hg) (by decide +kernel) (fun av f a post h => ?_) rX0_placeOf
  unfold sX0_placeOf at h
  split at h
  · exact Nat.le_of_ble_eq_true rfl
  · exact h.elim
def sX0_has : SP := fun As f a Q => match As with
  | [.inr (.inr (0, p, 0)), .inl x] => Q (some (.inl (b2i (decide (0 ≤ x ∧ x < f 0 p 4))))) f a
  | _ => False
def eX0_has : En := (tX0_has, [], fdX0, [], 1)
theorem eokX0_has {g : Gm} (hg : GmOK g) : EnvOK g 0 RX0 cX0_has (some .boolean) eX0_has := ⟨okX0_has, (fun _ _ _ _ h => by cases h), fdX0_ok, (fun _ _ h => by cases h), rfl⟩
theorem rX0_has (av : List AV) (f : FF) (a : AA) (post : PT) (h : sX0_has av f a post) (X : XT) (hX : Clo eX0_has post X) : X 0 (padL 2 (ent av)) [] f a := by
  unfold sX0_has at h
  split at h
  · refine hX [] 20 _ _ _ _ _ ?_
    refine ⟨fun c => ?_, fun c => ⟨fun d => ?_, fun d => ?_⟩⟩
    · exact pF h (by simp [Int32.not_le.mpr c])
    · exact pF h (by simp [Int32.not_lt.mpr d])
    · exact pT h (by simp [Int32.not_lt.mp c, Int32.not_le.mp d])
  · exact h.elim
theorem shX0_has : ∀ As f a Q, sX0_has As f a Q → ∃ i r, As = .inr (.inr (0, i, 0)) :: r := by
  intro As f a Q h
  unfold sX0_has at h
  split at h
  · exact ⟨_, _, rfl⟩
  · exact h.elim
theorem mX0_has {g : Gm} (hg : GmOK g) : MetC g yX0_has cX0_has 2 (some .boolean) 0 sX0_has := by
  refine MetC_of hg eX0_has (eokX0_has hg) (by decide +kernel) (fun av f a post h => ?_) rX0_has
  unfold sX0_has at h
  split at h
  · exact Nat.le_of_ble_eq_true rfl
  · exact h.elim
end
section
/-! Graphs: what the rows hold -/
def fI (r : Option Nat) : Int32 := match r with
  | none => -1
  | some g => nI g
def idleK (i t c : Nat) : Bool := decide (i = t) && decide (compN c c = c)
def loopK (i t c : Nat) : Bool := decide (fallN c = 0) && idleK i t c
def loopE (e : Gr) : Bool := loopK e.1 e.2.1 e.2.2.1
def loopC (L : List Gr) : Nat := cnt (fun g => loopE (ge L g)) L.length
def comeN (L : List Gr) (i : Nat) : Nat := L.foldl (fun m e => if e.1 = i then m ||| 2 ^ e.2.1 else m) 0
def GE (w : Nat → Nat → Int32) (g : Nat) (e : Gr) : Prop := w 0 g = nI (bitsN e.2.2.1) ∧ w 6 g = nI (3 * e.1 + e.2.1) ∧ w 7 g = fI e.2.2.2.1 ∧ w 8 g = nI e.2.2.2.2.1 ∧ w 1 g = nI e.2.2.2.2.2.1 ∧ w 9 g = nI e.2.2.2.2.2.2
def GR (u : Nat → Int32) (w : Nat → Nat → Int32) (L : List Gr) : Prop := u 4 = nI L.length ∧ u 5 = nI (loopC L) ∧ (∀ g, g < L.length → GE w g (ge L g)) ∧ (∀ q, q < 729 → w 10 q = fI (fnd L q)) ∧ ∀ i, i < 3 → w 3 i = nI (comeN L i)
theorem bits_inj {c d : Nat} (hc : c < 81) (hd : d < 81) (h : nI (bitsN c) = nI (bitsN d)) : c = d := by
  have h1 := pow_sum c hc
  rw [h, pow_sum d hd] at h1
  exact ((nI_eq (by omega) (by omega)).mp h1).symm
theorem fall_i : ∀ c, c < 81 → ((nI (bitsN c) >>> ((4 : Int32) &&& 31)) &&& 1) ||| ((nI (bitsN c) >>> ((6 : Int32) &&& 31)) &&& 2) = nI (fallN c) := by decide +kernel
theorem fall_lt (c : Nat) : fallN c < 4 := by
  unfold fallN
  split <;> split <;> decide
def sX0_fromOf : SP := fun As f a Q => match As with
  | [.inr (.inr (0, p, 0)), .inl x] => ∃ n i t, x = nI n ∧ n < 729 ∧ a 0 p 6 n = nI (3 * i + t) ∧ i < 3 ∧ t < 3 ∧ Q (some (.inl (nI i))) f a
  | _ => False
def eX0_fromOf : En := (tX0_fromOf, [], fdX0, [], 0)
theorem eokX0_fromOf {g : Gm} (hg : GmOK g) : EnvOK g 0 RX0 cX0_fromOf (some .int) eX0_fromOf := ⟨okX0_fromOf, (fun _ _ _ _ h => by cases h), fdX0_ok, (fun _ _ h => by cases h), rfl⟩
theorem rX0_fromOf (av : List AV) (f : FF) (a : AA) (post : PT) (h : sX0_fromOf av f a post) (X : XT) (hX : Clo eX0_fromOf post X) : X 0 (padL 2 (ent av)) [] f a := by
  unfold sX0_fromOf at h
  split at h
  · obtain ⟨n, i, t, rfl, hn, e, hi, ht, h⟩ := h
    refine hX [] 20 _ _ _ _ _ ?_
    refine ⟨inA 729 rfl rfl hn (by decide), by decide, pI h ?_⟩
    dsimp only
    rw [nI_clamp (by omega), e, show (3 : Int32) = nI 3 from rfl, pk_div (by omega) (by decide) (by decide)]
    congr 1
    omega
  · exact h.elim
theorem shX0_fromOf : ∀ As f a Q, sX0_fromOf As f a Q → ∃ i r, As = .inr (.inr (0, i, 0)) :: r := by
  intro As f a Q h
  unfold sX0_fromOf at h
  split at h
  · exact ⟨_, _, rfl⟩
  · exact h.elim
theorem mX0_fromOf {g : Gm} (hg : GmOK g) : MetC g yX0_fromOf cX0_fromOf 2 (some .int) 0 sX0_fromOf := by
  refine MetC_of hg eX0_fromOf (eokX0_fromOf hg) (by decide +kernel) (fun av f a post h => ?_) rX0_fromOf
  unfold sX0_fromOf at h
  split at h
  · exact Nat.le_of_ble_eq_true rfl
  · exact h.elim
def sX0_toOf : SP := fun As f a Q => match As with
  | [.inr (.inr (0, p, 0)), .inl x] => ∃ n i t, x = nI n ∧ n < 729 ∧ a 0 p 6 n = nI (3 * i + t) ∧ i < 3 ∧ t < 3 ∧ Q (some (.inl (nI t))) f a
  | _ => False
def eX0_toOf : En := (tX0_toOf, [], fdX0, [], 0)
theorem eokX0_toOf {g : Gm} (hg : GmOK g) : EnvOK g 0 RX0 cX0_toOf (some .int) eX0_toOf := ⟨okX0_toOf, (fun _ _ _ _ h => by cases h), fdX0_ok, (fun _ _ h => by cases h), rfl⟩
theorem rX0_toOf (av : List AV) (f : FF) (a : AA) (post : PT) (h : sX0_toOf av f a post) (X : XT) (hX : Clo eX0_toOf post X) : X 0 (padL 2 (ent av)) [] f a := by
  unfold sX0_toOf at h
  split at h
  · obtain ⟨n, i, t, rfl, hn, e, hi, ht, h⟩ := h
    refine hX [] 20 _ _ _ _ _ ?_
    refine ⟨inA 729 rfl rfl hn (by decide), by decide, pI h ?_⟩
    dsimp only
    rw [nI_clamp (by omega), e, show (3 : Int32) = nI 3 from rfl, pk_rem (by omega) (by decide) (by decide)]
    congr 1
    omega
  · exact h.elim
theorem shX0_toOf : ∀ As f a Q, sX0_toOf As f a Q → ∃ i r, As = .inr (.inr (0, i, 0)) :: r := by
  intro As f a Q h
  unfold sX0_toOf at h
  split at h
  · exact ⟨_, _, rfl⟩
  · exact h.elim
theorem mX0_toOf {g : Gm} (hg : GmOK g) : MetC g yX0_toOf cX0_toOf 2 (some .int) 0 sX0_toOf := by
  refine MetC_of hg eX0_toOf (eokX0_toOf hg) (by decide +kernel) (fun av f a post h => ?_) rX0_toOf
  unfold sX0_toOf at h
  split at h
  · exact Nat.le_of_ble_eq_true rfl
  · exact h.elim
def sX0_at : SP := fun As f a Q => match As with
  | [.inr (.inr (0, p, 0)), .inl x, .inl y, .inl z] => ∃ i j c, x = nI i ∧ y = nI j ∧ z = nI c ∧ i < 3 ∧ j < 3 ∧ c < 81 ∧ Q (some (.inl (a 0 p 10 (pl i j c)))) f a
  | _ => False
def eX0_at : En := (tX0_at, [(90, true, 3, sX0_placeOf)], fdX0, [], 0)
theorem eokX0_at {g : Gm} (hg : GmOK g) : EnvOK g 1 RX0 cX0_at (some .int) eX0_at := ⟨okX0_at, fun _ _ _ _ h => as2_all (P := fun i v => CallOK g 1 RX0 i v.1 v.2.1 v.2.2) (l := eX0_at.2.1) ⟨callS_ok hg (mX0_placeOf hg) kX0_placeOf mlX0_90 qX0_placeOf ⟨by decide, by decide⟩, trivial⟩ h, fdX0_ok, (fun _ _ h => by cases h), rfl⟩
theorem rX0_at (av : List AV) (f : FF) (a : AA) (post : PT) (h : sX0_at av f a post) (X : XT) (hX : Clo eX0_at post X) : X 0 (padL 4 (ent av)) [] f a := by
  unfold sX0_at at h
  split at h
  · obtain ⟨i, j, c, rfl, rfl, rfl, hi, hj, hc, h⟩ := h
    have hp := pl_lt hi hj hc
    refine hX [] 20 _ _ _ _ _ ?_
    refine ⟨i, j, c, rfl, rfl, rfl, inA 729 rfl rfl hp (by decide), pI h ?_⟩
    rw [nI_clamp (by omega)]
  · exact h.elim
theorem shX0_at : ∀ As f a Q, sX0_at As f a Q → ∃ i r, As = .inr (.inr (0, i, 0)) :: r := by
  intro As f a Q h
  unfold sX0_at at h
  split at h
  · exact ⟨_, _, rfl⟩
  · exact h.elim
theorem mX0_at {g : Gm} (hg : GmOK g) : MetC g yX0_at cX0_at 4 (some .int) 1 sX0_at := by
  refine MetC_of hg eX0_at (eokX0_at hg) (by decide +kernel) (fun av f a post h => ?_) rX0_at
  unfold sX0_at at h
  split at h
  · exact Nat.le_of_ble_eq_true rfl
  · exact h.elim
def sX0_fallsIn : SP := fun As f a Q => match As with
  | [.inr (.inr (0, p, 0)), .inl x] => ∃ n c, x = nI n ∧ n < 729 ∧ a 0 p 0 n = nI (bitsN c) ∧ c < 81 ∧ Q (some (.inl (nI (fallN c)))) f a
  | _ => False
def eX0_fallsIn : En := (tX0_fallsIn, [], fdX0, [], 0)
theorem eokX0_fallsIn {g : Gm} (hg : GmOK g) : EnvOK g 0 RX0 cX0_fallsIn (some .int) eX0_fallsIn := ⟨okX0_fallsIn, (fun _ _ _ _ h => by cases h), fdX0_ok, (fun _ _ h => by cases h), rfl⟩
theorem rX0_fallsIn (av : List AV) (f : FF) (a : AA) (post : PT) (h : sX0_fallsIn av f a post) (X : XT) (hX : Clo eX0_fallsIn post X) : X 0 (padL 2 (ent av)) [] f a := by
  unfold sX0_fallsIn at h
  split at h
  · obtain ⟨n, c, rfl, hn, e, hc, h⟩ := h
    refine hX [] 40 _ _ _ _ _ ?_
    refine ⟨inA 729 rfl rfl hn (by decide), inA 729 rfl rfl hn (by decide), pI h ?_⟩
    dsimp only
    rw [nI_clamp (by omega), e]
    exact (fall_i c hc).symm
  · exact h.elim
theorem shX0_fallsIn : ∀ As f a Q, sX0_fallsIn As f a Q → ∃ i r, As = .inr (.inr (0, i, 0)) :: r := by
  intro As f a Q h
  unfold sX0_fallsIn at h
  split at h
  · exact ⟨_, _, rfl⟩
  · exact h.elim
theorem mX0_fallsIn {g : Gm} (hg : GmOK g) : MetC g yX0_fallsIn cX0_fallsIn 2 (some .int) 0 sX0_fallsIn := by
  refine MetC_of hg eX0_fallsIn (eokX0_fallsIn hg) (by decide +kernel) (fun av f a post h => ?_) rX0_fallsIn
  unfold sX0_fallsIn at h
  split at h
  · exact Nat.le_of_ble_eq_true rfl
  · exact h.elim
def sX0_isIdle : SP := fun As f a Q => match As with
  | [.inr (.inr (0, p, 0)), .inl x] => ∃ n i t c, x = nI n ∧ n < 729 ∧ a 0 p 6 n = nI (3 * i + t) ∧ i < 3 ∧ t < 3 ∧ a 0 p 0 n = nI (bitsN c) ∧ c < 81 ∧ Q (some (.inl (b2i (idleK i t c)))) f a
  | _ => False
def eX0_isIdle : En := (tX0_isIdle, [(78, false, 2, sX0_fromOf), (71, false, 2, sX0_toOf), (74, true, 2, sX0_composed)], fdX0, [], 1)
theorem eokX0_isIdle {g : Gm} (hg : GmOK g) : EnvOK g 1 RX0 cX0_isIdle (some .boolean) eX0_isIdle := ⟨okX0_isIdle, fun _ _ _ _ h => as2_all (P := fun i v => CallOK g 1 RX0 i v.1 v.2.1 v.2.2) (l := eX0_isIdle.2.1) ⟨callV_ok (t := 0) hg (mX0_fromOf hg) kX0_fromOf mlX0_78 qX0_fromOf.1 qX0_fromOf.2 ⟨by decide, by decide⟩ ⟨_, _, rfl⟩ shX0_fromOf, callV_ok (t := 0) hg (mX0_toOf hg) kX0_toOf mlX0_71 qX0_toOf.1 qX0_toOf.2 ⟨by decide, by decide⟩ ⟨_, _, rfl⟩ shX0_toOf, callS_ok hg (mX0_composed hg) kX0_composed mlX0_74 qX0_composed ⟨by decide, by decide⟩, trivial⟩ h, fdX0_ok, (fun _ _ h => by cases h), rfl⟩
theorem rX0_isIdle (av : List AV) (f : FF) (a : AA) (post : PT) (h : sX0_isIdle av f a post) (X : XT) (hX : Clo eX0_isIdle post X) : X 0 (padL 2 (ent av)) [] f a := by
  unfold sX0_isIdle at h
  split at h
  · obtain ⟨n, i, t, c, rfl, hn, e, hi, ht, e2, hc, h⟩ := h
    refine hX [] 40 _ _ _ _ _ ?_
    have cl : (nI n).toNatClampNeg = n := nI_clamp (by omega)
    refine ⟨n, i, t, rfl, hn, e, hi, ht, n, i, t, rfl, hn, e, hi, ht, fun q => ?_, fun q => ?_⟩
    · have q : ¬ i = t := fun z => q (by rw [z])
      exact pF h (by simp [idleK, q])
    · have q : i = t := (nI_eq (by omega) (by omega)).mp q
      refine ⟨inA 729 rfl rfl hn (by decide), inA 729 rfl rfl hn (by decide), c, c, hc, hc, by rw [cl]; exact e2, by rw [cl]; exact e2, inA 729 rfl rfl hn (by decide), fun d => ?_, fun d => ?_⟩
      · rw [cl, e2] at d
        have d : ¬ compN c c = c := fun z => d (by rw [z])
        exact pF h (by simp [idleK, d])
      · rw [cl, e2] at d
        exact pT h (by simp [idleK, q, bits_inj (compN_lt c c) hc d])
  · exact h.elim
theorem shX0_isIdle : ∀ As f a Q, sX0_isIdle As f a Q → ∃ i r, As = .inr (.inr (0, i, 0)) :: r := by
  intro As f a Q h
  unfold sX0_isIdle at h
  split at h
  · exact ⟨_, _, rfl⟩
  · exact h.elim
theorem mX0_isIdle {g : Gm} (hg : GmOK g) : MetC g yX0_isIdle cX0_isIdle 2 (some .boolean) 1 sX0_isIdle := by
  refine MetC_of hg eX0_isIdle (eokX0_isIdle hg) (by decide +kernel) (fun av f a post h => ?_) rX0_isIdle
  unfold sX0_isIdle at h
  split at h
  · exact Nat.le_of_ble_eq_true rfl
  · exact h.elim
def sX0_isLoop : SP := fun As f a Q => match As with
  | [.inr (.inr (0, p, 0)), .inl x] => ∃ n i t c, x = nI n ∧ n < 729 ∧ a 0 p 6 n = nI (3 * i + t) ∧ i < 3 ∧ t < 3 ∧ a 0 p 0 n = nI (bitsN c) ∧ c < 81 ∧ Q (some (.inl (b2i (loopK i t c)))) f a
  | _ => False
def eX0_isLoop : En := (tX0_isLoop, [(102, false, 2, sX0_fallsIn), (105, false, 2, sX0_isIdle)], fdX0, [], 1)
theorem eokX0_isLoop {g : Gm} (hg : GmOK g) : EnvOK g 2 RX0 cX0_isLoop (some .boolean) eX0_isLoop := ⟨okX0_isLoop, fun _ _ _ _ h => as2_all (P := fun i v => CallOK g 2 RX0 i v.1 v.2.1 v.2.2) (l := eX0_isLoop.2.1) ⟨callV_ok (t := 0) hg (mX0_fallsIn hg) kX0_fallsIn mlX0_102 qX0_fallsIn.1 qX0_fallsIn.2 ⟨by decide, by decide⟩ ⟨_, _, rfl⟩ shX0_fallsIn, callV_ok (t := 0) hg (mX0_isIdle hg) kX0_isIdle mlX0_105 qX0_isIdle.1 qX0_isIdle.2 ⟨by decide, by decide⟩ ⟨_, _, rfl⟩ shX0_isIdle, trivial⟩ h, fdX0_ok, (fun _ _ h => by cases h), rfl⟩
theorem rX0_isLoop (av : List AV) (f : FF) (a : AA) (post : PT) (h : sX0_isLoop av f a post) (X : XT) (hX : Clo eX0_isLoop post X) : X 0 (padL 2 (ent av)) [] f a := by
  unfold sX0_isLoop at h
  split at h
  · obtain ⟨n, i, t, c, rfl, hn, e, hi, ht, e2, hc, h⟩ := h
    have hfl := fall_lt c
    refine hX [] 40 _ _ _ _ _ ?_
    refine ⟨n, c, rfl, hn, e2, hc, fun q => ?_, fun q => ?_⟩
    · have q : ¬ fallN c = 0 := fun z => q (by rw [z]; rfl)
      exact pF h (by simp [loopK, q])
    · have q : fallN c = 0 := (i_eq (b := 0) rfl rfl (by omega) (by decide)).mp q
      refine ⟨n, i, t, c, rfl, hn, e, hi, ht, e2, hc, fun d => ?_, fun d => ?_⟩
      · exact pF h (by simp [loopK, b2i_e0.mp d])
      · exact pT h (by simp [loopK, q, b2i_n0.mp d])
  · exact h.elim
theorem shX0_isLoop : ∀ As f a Q, sX0_isLoop As f a Q → ∃ i r, As = .inr (.inr (0, i, 0)) :: r := by
  intro As f a Q h
  unfold sX0_isLoop at h
  split at h
  · exact ⟨_, _, rfl⟩
  · exact h.elim
theorem mX0_isLoop {g : Gm} (hg : GmOK g) : MetC g yX0_isLoop cX0_isLoop 2 (some .boolean) 2 sX0_isLoop := by
  refine MetC_of hg eX0_isLoop (eokX0_isLoop hg) (by decide +kernel) (fun av f a post h => ?_) rX0_isLoop
  unfold sX0_isLoop at h
  split at h
  · exact Nat.le_of_ble_eq_true rfl
  · exact h.elim
def sX0_forget : SP := fun As f a Q => match As with
  | [.inr (.inr (0, p, 0))] => ∀ f' a', Fr f a f' a' 0 p → GR (f' 0 p) (a' 0 p) [] → Q none f' a'
  | _ => False
def eX0_forget : En := (tX0_forget, [(81, true, 2, sJ7_fill_53178)], fdX0, [], 2)
theorem eokX0_forget {g : Gm} (hg : GmOK g) : EnvOK g 1 RX0 cX0_forget none eX0_forget := ⟨okX0_forget, fun _ _ _ _ h => as2_all (P := fun i v => CallOK g 1 RX0 i v.1 v.2.1 v.2.2) (l := eX0_forget.2.1) ⟨callS_ok hg (mJ7_fill_53178 hg) kJ7_fill_53178 mlX0_81 qJ7_fill_53178 ⟨by decide, by decide⟩, trivial⟩ h, fdX0_ok, (fun _ _ h => by cases h), rfl⟩
theorem rX0_forget (av : List AV) (f : FF) (a : AA) (post : PT) (h : sX0_forget av f a post) (X : XT) (hX : Clo eX0_forget post X) : X 0 (padL 1 (ent av)) [] f a := by
  unfold sX0_forget at h
  split at h
  · rename_i p
    refine hX [] 40 _ _ _ _ _ ?_
    refine ⟨Or.inl ⟨rfl, rfl⟩, fun g1 h1 _ => ⟨Or.inr (Or.inl ⟨rfl, rfl⟩), fun g2 h2 _ => ?_⟩⟩
    refine h _ _ (((((Fr.rf f a 0 p).uf 4 _).uf 5 _).uA 10 _).uA 3 _) ⟨?_, ?_, fun g hg => ?_, fun q hq => ?_, fun i hi => ?_⟩
    · rw [upf_s, if_neg (by decide), upf_s, if_pos rfl]; rfl
    · rw [upf_s, if_pos rfl]; rfl
    · exact absurd hg (Nat.not_lt_zero g)
    · rw [upA_s, if_neg (by decide), upA_s, if_pos rfl, h1 q hq]; rfl
    · rw [upA_s, if_pos rfl, h2 i hi]; rfl
  · exact h.elim
theorem shX0_forget : ∀ As f a Q, sX0_forget As f a Q → ∃ i r, As = .inr (.inr (0, i, 0)) :: r := by
  intro As f a Q h
  unfold sX0_forget at h
  split at h
  · exact ⟨_, _, rfl⟩
  · exact h.elim
theorem mX0_forget {g : Gm} (hg : GmOK g) : MetC g yX0_forget cX0_forget 1 none 1 sX0_forget := by
  refine MetC_of hg eX0_forget (eokX0_forget hg) (by decide +kernel) (fun av f a post h => ?_) rX0_forget
  unfold sX0_forget at h
  split at h
  · exact Nat.le_of_ble_eq_true rfl
  · exact h.elim
theorem shl_t : ∀ t, t < 12 → (1 : Int32) <<< (nI t &&& 31) = nI (2 ^ t) := by decide +kernel
/-- a new graph comes into the rows -/
def mtA (a : AA) (p g q : Nat) (xb xe xh xl xw xm : Int32) (i : Nat) (xc : Int32) : AA := upa (upa (upa (upa (upa (upa (upa (upa a 0 p 10 q (nI g)) 0 p 0 g xb) 0 p 6 g xe) 0 p 7 g xh) 0 p 8 g xl) 0 p 1 g xw) 0 p 9 g xm) 0 p 3 i xc
theorem mtA_fr (f : FF) (a : AA) (p g q : Nat) (xb xe xh xl xw xm : Int32) (i : Nat) (xc : Int32) : Fr f a f (mtA a p g q xb xe xh xl xw xm i xc) 0 p := ((((((((Fr.rf f a 0 p).ua 10 _ _).ua 0 _ _).ua 6 _ _).ua 7 _ _).ua 8 _ _).ua 1 _ _).ua 9 _ _).ua 3 _ _
theorem come_app (L : List Gr) (e : Gr) (i : Nat) : comeN (L ++ [e]) i = if e.1 = i then comeN L i ||| 2 ^ e.2.1 else comeN L i := by
  unfold comeN
  rw [List.foldl_append]
  rfl
theorem cnt_cong {p q : Nat → Bool} : ∀ {n : Nat}, (∀ k, k < n → p k = q k) → cnt p n = cnt q n
  | 0, _ => rfl
  | n + 1, h => by rw [cnt, cnt, cnt_cong (fun k hk => h k (by omega)), h n (by omega)]
theorem loopC_app (L : List Gr) (e : Gr) : nI (loopC (L ++ [e])) = nI (loopC L) + b2i (loopE e) := by
  unfold loopC
  rw [List.length_append, show [e].length = 1 from rfl, cnt_s, ge_last]
  rw [cnt_cong (q := fun g => loopE (ge L g)) (fun k hk => by rw [ge_app hk])]
theorem GR_new {f : FF} {a : AA} {p : Nat} {L : List Gr} (h : GR (f 0 p) (a 0 p) L) {i t c la : Nat} {ah : Option Nat} (hi : i < 3) (ht : t < 3) (hc : c < 81) (hn : fnd L (pl i t c) = none) (f' : FF) (h4 : f' 0 p 4 = nI (L.length + 1)) (h5 : f' 0 p 5 = nI (loopC L) + b2i (loopK i t c)) :
    GR (f' 0 p) (mtA a p L.length (pl i t c) (nI (bitsN c)) (nI (3 * i + t)) (fI ah) (nI la) (nI (newE L i t c ah la).2.2.2.2.2.1) (nI (newE L i t c ah la).2.2.2.2.2.2) i (nI (comeN L i ||| 2 ^ t)) 0 p) (L ++ [newE L i t c ah la]) := by
  unfold mtA
  refine ⟨?_, ?_, fun g hg => ?_, fun q hq => ?_, fun j hj => ?_⟩
  · rw [h4, List.length_append]; rfl
  · rw [h5, loopC_app]; rfl
  · have hg : g < L.length ∨ g = L.length := by simp at hg; omega
    rcases hg with hg | rfl
    · rw [ge_app hg]
      have q := h.2.2.1 g hg
      have hne : ¬ g = L.length := by omega
      refine ⟨?_, ?_, ?_, ?_, ?_, ?_⟩
      · simp [upa_s, upd_s, hne]; exact q.1
      · simp [upa_s, upd_s, hne]; exact q.2.1
      · simp [upa_s, upd_s, hne]; exact q.2.2.1
      · simp [upa_s, upd_s, hne]; exact q.2.2.2.1
      · simp [upa_s, upd_s, hne]; exact q.2.2.2.2.1
      · simp [upa_s, upd_s, hne]; exact q.2.2.2.2.2
    · rw [ge_last]
      refine ⟨?_, ?_, ?_, ?_, ?_, ?_⟩ <;> simp [upa_s, upd_s] <;> rfl
  · rw [fnd_app]
    simp only [upa_s, upd_s]
    simp
    rw [upd_s]
    by_cases hq2 : q = pl i t c
    · subst hq2
      rw [if_pos rfl, hn]
      show _ = fI (if gpl _ = _ then _ else _)
      rw [if_pos (by rfl)]
      rfl
    · rw [if_neg hq2, h.2.2.2.1 q hq]
      cases hf : fnd L q with
      | some g => rfl
      | none =>
        show _ = fI (if gpl _ = _ then _ else _)
        rw [if_neg (fun z => hq2 z.symm)]
  · rw [come_app]
    simp only [upa_s, upd_s]
    simp
    rw [upd_s]
    by_cases hj2 : j = i
    · subst hj2
      rw [if_pos rfl]
      show _ = nI (if j = j then _ else _)
      rw [if_pos rfl]
      rfl
    · rw [if_neg hj2, h.2.2.2.2 j hj]
      show _ = nI (if i = j then _ else _)
      rw [if_neg (fun z => hj2 z.symm)]

def sX0_meet : SP := fun As f a Q => match As with
  | [.inr (.inr (0, p, 0)), .inl x1, .inl x2, .inl x3, .inl x4, .inl x5] => ∃ L i t c ah la, GR (f 0 p) (a 0 p) L ∧ WL L ∧ x1 = nI i ∧ i < 3 ∧ x2 = nI t ∧ t < 3 ∧ x3 = nI (bitsN c) ∧ c < 81 ∧ x4 = fI ah ∧ (∀ h, ah = some h → h < L.length) ∧ x5 = nI la ∧ la < 12 ∧
      ∀ f' a', Fr f a f' a' 0 p → a' 0 p 2 = a 0 p 2 → GR (f' 0 p) (a' 0 p) (meetL L i t c ah la) → Q (some (.inl (fI (fnd (meetL L i t c ah la) (pl i t c))))) f' a'
  | _ => False
def eX0_meet : En := (tX0_meet, [(87, true, 1, sX0_codeOf), (90, true, 3, sX0_placeOf), (94, false, 2, sX0_isLoop), (98, true, 1, sX4_bit)], fdX0, [], 0)
theorem eokX0_meet {g : Gm} (hg : GmOK g) : EnvOK g 3 RX0 cX0_meet (some .int) eX0_meet := ⟨okX0_meet, fun _ _ _ _ h => as2_all (P := fun i v => CallOK g 3 RX0 i v.1 v.2.1 v.2.2) (l := eX0_meet.2.1) ⟨callS_ok hg (mX0_codeOf hg) kX0_codeOf mlX0_87 qX0_codeOf ⟨by decide, by decide⟩, callS_ok hg (mX0_placeOf hg) kX0_placeOf mlX0_90 qX0_placeOf ⟨by decide, by decide⟩, callV_ok (t := 0) hg (mX0_isLoop hg) kX0_isLoop mlX0_94 qX0_isLoop.1 qX0_isLoop.2 ⟨by decide, by decide⟩ ⟨_, _, rfl⟩ shX0_isLoop, callN_ok (host := "FallingCalls") hg (mX4_bit hg) kX4_bit (nxX0_98 hg) qX4_bit ⟨by decide, by decide⟩, trivial⟩ h, fdX0_ok, (fun _ _ h => by cases h), rfl⟩
theorem fI_neg {r : Option Nat} (h : fI r < 0) (hr : ∀ g, r = some g → g < 729) : r = none := by
  cases r with
  | none => rfl
  | some g => exact absurd h (nI_pos (by have := hr g rfl; omega))
theorem rX0_meet (av : List AV) (f : FF) (a : AA) (post : PT) (h : sX0_meet av f a post) (X : XT) (hX : Clo eX0_meet post X) : X 0 (padL 8 (ent av)) [] f a := by
  unfold sX0_meet at h
  split at h
  · rename_i p x1 x2 x3 x4 x5
    obtain ⟨L, i, t, c, ah, la, hR, hL, rfl, hi, rfl, ht, rfl, hc, rfl, hah, rfl, hla, h⟩ := h
    have hp := pl_lt hi ht hc
    have hlen := WL_len hL
    have ef := hR.2.2.2.1 _ hp
    have cp : (nI (pl i t c)).toNatClampNeg = pl i t c := nI_clamp (by omega)
    refine hX [116, 143] 90 _ _ _ _ _ ?_
    refine ⟨c, hc, rfl, i, t, c, rfl, rfl, rfl, inA 729 rfl rfl hp (by decide), fun q => ?_, fun q => ?_⟩
    · rw [cp, ef] at q
      have hn : fnd L (pl i t c) = none := fI_neg q (fun g hg => by have := (fnd_some hg).1; omega)
      have hlt : L.length < 729 := by
        have := WL_len (WL_new (la := la) hL hi ht hc hla hah hn)
        rw [List.length_append] at this
        exact this
      have e4 := hR.1
      have em : meetL L i t c ah la = L ++ [newE L i t c ah la] := by unfold meetL; rw [hn]
      refine ⟨inA 729 rfl rfl hp (by decide), inA 729 e4 rfl hlt (by decide), inA 729 e4 rfl hlt (by decide), inA 729 e4 rfl hlt (by decide), inA 729 e4 rfl hlt (by decide), ?_⟩
      have cg : (nI L.length).toNatClampNeg = L.length := nI_clamp (by omega)
      have e1 : nI L.length + 1 = nI (L.length + 1) := (nI_succ _).symm
      have e3 : 3 * nI i + nI t = nI (3 * i + t) := by rw [show (3 : Int32) = nI 3 from rfl, pk_mul, nI_add]
      have ci : (nI i).toNatClampNeg = i := nI_clamp (by omega)
      have hLi : ∀ A5 A6 A7 : AA, A5 = upa (upa (upa (upa (upa a 0 p 10 (pl i t c) (nI L.length)) 0 p 0 L.length (nI (bitsN c))) 0 p 6 L.length (nI (3 * i + t))) 0 p 7 L.length (fI ah)) 0 p 8 L.length (nI la) →
          A6 = upa A5 0 p 1 L.length (nI (newE L i t c ah la).2.2.2.2.2.1) → A7 = upa A6 0 p 9 L.length (nI (newE L i t c ah la).2.2.2.2.2.2) →
          X 116 [some (.inr (.inr (0, p, 0))), some (.inl (nI i)), some (.inl (nI t)), some (.inl (nI (bitsN c))), some (.inl (fI ah)), some (.inl (nI la)), some (.inl (nI (pl i t c))), some (.inl (nI L.length))] [.inl (nI (newE L i t c ah la).2.2.2.2.2.1), .inl (nI L.length), .inr (.inr (0, p, 2))] (upf f 0 p 4 (nI (L.length + 1))) A5 := by
        intro A5 A6 A7 e5 e6 e7
        have r3 : A7 0 p 3 i = nI (comeN L i) := by
          rw [e7, e6, e5]
          simp [upa_s]
          exact hR.2.2.2.2 i hi
        have r9 : ∀ h, ah = some h → A6 0 p 9 h = nI (ge L h).2.2.2.2.2.2 := by
          intro h hh
          rw [e6, e5]
          simp [upa_s]
          exact (hR.2.2.1 h (hah h hh)).2.2.2.2.2
        have k143 : ∀ xm, nI (2 ^ la) ||| xm = nI (newE L i t c ah la).2.2.2.2.2.2 → X 143 [some (.inr (.inr (0, p, 0))), some (.inl (nI i)), some (.inl (nI t)), some (.inl (nI (bitsN c))), some (.inl (fI ah)), some (.inl (nI la)), some (.inl (nI (pl i t c))), some (.inl (nI L.length))] [.inl xm, .inl (nI (2 ^ la)), .inl (nI L.length), .inr (.inr (0, p, 10))] (upf f 0 p 4 (nI (L.length + 1))) A6 := by
          intro xm hxm
          refine hX [] 90 _ _ _ _ _ ?_
          refine ⟨inA 729 rfl rfl hlt (by decide), inA 3 rfl rfl hi (by decide), inA 3 rfl rfl hi (by decide), ?_⟩
          have eA : upa (upa A6 0 p 9 (nI L.length).toNatClampNeg (nI (2 ^ la) ||| xm)) 0 p 3 (nI i).toNatClampNeg ((upa A6 0 p 9 (nI L.length).toNatClampNeg (nI (2 ^ la) ||| xm)) 0 p 3 (nI i).toNatClampNeg ||| ((1 : Int32) <<< (nI t &&& 31))) = mtA a p L.length (pl i t c) (nI (bitsN c)) (nI (3 * i + t)) (fI ah) (nI la) (nI (newE L i t c ah la).2.2.2.2.2.1) (nI (newE L i t c ah la).2.2.2.2.2.2) i (nI (comeN L i ||| 2 ^ t)) := by
            rw [cg, ci, hxm, ← e7, r3, shl_t t (by omega), fa_or, e7, e6, e5]
            rfl
          have g6 : ∀ A8, A8 = mtA a p L.length (pl i t c) (nI (bitsN c)) (nI (3 * i + t)) (fI ah) (nI la) (nI (newE L i t c ah la).2.2.2.2.2.1) (nI (newE L i t c ah la).2.2.2.2.2.2) i (nI (comeN L i ||| 2 ^ t)) → A8 0 p 6 L.length = nI (3 * i + t) ∧ A8 0 p 0 L.length = nI (bitsN c) := by
            intro A8 e8
            rw [e8]
            unfold mtA
            constructor <;> simp [upa_s, upd_s]
          have g8 := g6 _ eA
          refine ⟨L.length, i, t, c, rfl, hlt, g8.1, hi, ht, g8.2, hc, ?_⟩
          rw [em] at h
          have e5' : upf f 0 p 4 (nI (L.length + 1)) 0 p 5 = nI (loopC L) := by
            rw [upf_s, if_neg (by decide)]
            exact hR.2.1
          refine pIV (h _ _ ((((Fr.rf f a 0 p).uf 4 (nI (L.length + 1))).uf 5 (nI (loopC L) + b2i (loopK i t c))).tr (mtA_fr _ a p _ _ _ _ _ _ _ _ _ _)) ?_ (GR_new hR hi ht hc hn _ ?_ ?_)) ?_ ?_ eA.symm
          · unfold mtA
            simp [upa_s]
          · rw [upf_s, if_neg (by decide), upf_s, if_pos rfl]
          · rw [upf_s, if_pos rfl]
          · rw [fnd_app, hn]
            exact congrArg fI (if_pos rfl)
          · dsimp only
            rw [e5', b2i_b]
        refine hX [143] 90 _ _ _ _ _ ?_
        refine ⟨inA 729 rfl rfl hlt (by decide), ?_⟩
        have k2 := k143
        have e6' : A6 = upa A5 0 p 1 (nI L.length).toNatClampNeg (nI (newE L i t c ah la).2.2.2.2.2.1) := by rw [cg]; exact e6
        rw [← shl_t la hla, e6'] at k2
        cases ah with
        | none =>
          refine ⟨fun q => absurd q (by decide), fun q => ?_⟩
          refine k2 0 ?_
          rw [shl_t la hla]
          exact (show nI (2 ^ la) ||| nI 0 = _ from fa_or _ _)
        | some hh =>
          have hhl := hah hh rfl
          refine ⟨fun q => ?_, fun q => absurd (nI_pos' (by omega)) q⟩
          refine ⟨inA 729 rfl rfl (show hh < 729 by omega) (by decide), ?_⟩
          refine k2 _ ?_
          rw [shl_t la hla, ← e6', show (fI (some hh)).toNatClampNeg = hh from nI_clamp (by omega), r9 hh rfl]
          exact fa_or _ _
      simp only [e4, cp, cg, e1, e3]
      cases ah with
      | none =>
        refine ⟨fun q => absurd q (by decide), fun q => ?_⟩
        exact hLi _ _ _ rfl rfl rfl
      | some hh =>
        have hhl := hah hh rfl
        refine ⟨fun q => ?_, fun q => absurd (nI_pos' (by omega)) q⟩
        refine ⟨inA 729 rfl rfl (show hh < 729 by omega) (by decide), ?_⟩
        have k3 := hLi _ _ _ rfl rfl rfl
        have e9 : nI (newE L i t c (some hh) la).2.2.2.2.2.1 = (upa (upa (upa (upa (upa a 0 p 10 (pl i t c) (nI L.length)) 0 p 0 L.length (nI (bitsN c))) 0 p 6 L.length (nI (3 * i + t))) 0 p 7 L.length (fI (some hh))) 0 p 8 L.length (nI la)) 0 p 1 (fI (some hh)).toNatClampNeg + 1 := by
          rw [show (fI (some hh)).toNatClampNeg = hh from nI_clamp (by omega)]
          simp [upa_s]
          rw [(hR.2.2.1 hh hhl).2.2.2.2.1]
          exact nI_succ _
        rw [e9] at k3
        exact k3
    · rw [cp, ef] at q
      refine ⟨inA 729 rfl rfl hp (by decide), ?_⟩
      have hs : ∃ g, fnd L (pl i t c) = some g := by
        cases hh : fnd L (pl i t c) with
        | none => rw [hh] at q; exact absurd (by decide) q
        | some g => exact ⟨g, rfl⟩
      obtain ⟨g, hg⟩ := hs
      have em : meetL L i t c ah la = L := by unfold meetL; rw [hg]
      rw [em] at h
      refine pI (h f a (Fr.rf f a 0 p) rfl hR) ?_
      rw [cp, ef]
  · exact h.elim
theorem shX0_meet : ∀ As f a Q, sX0_meet As f a Q → ∃ i r, As = .inr (.inr (0, i, 0)) :: r := by
  intro As f a Q h
  unfold sX0_meet at h
  split at h
  · exact ⟨_, _, rfl⟩
  · exact h.elim
theorem mX0_meet {g : Gm} (hg : GmOK g) : MetC g yX0_meet cX0_meet 8 (some .int) 3 sX0_meet := by
  refine MetC_of hg eX0_meet (eokX0_meet hg) (by decide +kernel) (fun av f a post h => ?_) rX0_meet
  unfold sX0_meet at h
  split at h
  · exact Nat.le_of_ble_eq_true rfl
  · exact h.elim
end
section
/-! Graphs: the closing -/
def kf (P : Pg) : Kf := fun c => (fr P c, to P c, codeN P c)
def kpl (P : Pg) (c : Nat) : Nat := pl (fr P c) (to P c) (codeN P c)
def clo (P : Pg) : List Gr := cloG (kf P) (fun _ => true) P.2.length
def OC (P : Pg) (w : Nat → Nat → Int32) (L : List Gr) (n : Nat) : Prop := ∀ c, c < n → ∃ g, fnd L (kpl P c) = some g ∧ w 2 c = nI g
def GC (u : Nat → Int32) (w : Nat → Nat → Int32) (P : Pg) : Prop := GR u w (clo P) ∧ OC P w (clo P) P.2.length
theorem okK_P {P : Pg} (hW : WF P) : okK (kf P) P.2.length := ⟨hW.l12, fun c hc => ⟨by have := hW.fr_lt hc; have := hW.l3; show fr P c < 3; omega, by have := hW.to_lt hc; have := hW.l3; show to P c < 3; omega, codeN_lt P c⟩⟩
theorem GR.w2 {u : Nat → Int32} {w w' : Nat → Nat → Int32} {L : List Gr} (h : GR u w L) (hw : ∀ k, k ≠ 2 → w' k = w k) : GR u w' L := by
  refine ⟨h.1, h.2.1, fun g hg => ?_, fun q hq => ?_, fun i hi => ?_⟩
  · have q := h.2.2.1 g hg
    unfold GE at q ⊢
    rw [hw 0 (by decide), hw 6 (by decide), hw 7 (by decide), hw 8 (by decide), hw 1 (by decide), hw 9 (by decide)]
    exact q
  · rw [hw 10 (by decide)]; exact h.2.2.2.1 q hq
  · rw [hw 3 (by decide)]; exact h.2.2.2.2 i hi
theorem OC.pre {P : Pg} {w w' : Nat → Nat → Int32} {L M : List Gr} {n : Nat} (h : OC P w L n) (hw : w' 2 = w 2) : OC P w' (L ++ M) n := fun c hc => by
  obtain ⟨g, h1, h2⟩ := h c hc
  exact ⟨g, fnd_pre h1, by rw [hw]; exact h2⟩
theorem cnt_le (p : Nat → Bool) : ∀ n, cnt p n ≤ n
  | 0 => Nat.le_refl 0
  | n + 1 => by
    have := cnt_le p n
    unfold cnt
    split <;> omega
theorem cnt_mono (p : Nat → Bool) (n : Nat) : ∀ d, cnt p n ≤ cnt p (n + d)
  | 0 => Nat.le_refl _
  | d + 1 => Nat.le_trans (cnt_mono p n d) (Nat.le_add_right _ _)
theorem loopC_pre (L M : List Gr) : loopC L ≤ loopC (L ++ M) := by
  unfold loopC
  rw [List.length_append, cnt_cong (q := fun g => loopE (ge (L ++ M) g)) (fun k hk => by rw [ge_app hk])]
  exact cnt_mono _ _ _
theorem loopC_lt {L : List Gr} (h : WL L) : loopC L < 1000 := by
  have := cnt_le (fun g => loopE (ge L g)) L.length
  have := WL_len h
  unfold loopC
  omega
def sX0_close : SP := fun As f a Q => match As with
  | [.inr (.inr (0, p, 0)), .inr (.inr (1, p', 0)), .inl x] => ∃ P, RC (f 1 p') (a 1 p') P ∧ WF P ∧ (x = 0 ∨ x = 1) ∧ ∀ f' a', Fr f a f' a' 0 p → (x = 0 → GC (f' 0 p) (a' 0 p) P) → (x = 1 → (f' 0 p 5 = 0 ↔ loopC (clo P) = 0)) → Q none f' a'
  | _ => False
def eX0_close : En := (tX0_close, [(42, false, 1, sX0_forget), (57, false, 2, sX1_bitsOf), (61, false, 6, sX0_meet), (71, false, 2, sX0_toOf), (74, true, 2, sX0_composed), (78, false, 2, sX0_fromOf)], fdX0, [], 2)
theorem eokX0_close {g : Gm} (hg : GmOK g) : EnvOK g 4 RX0 cX0_close none eX0_close := ⟨okX0_close, fun _ _ _ _ h => as2_all (P := fun i v => CallOK g 4 RX0 i v.1 v.2.1 v.2.2) (l := eX0_close.2.1) ⟨callV_ok (t := 0) hg (mX0_forget hg) kX0_forget mlX0_42 qX0_forget.1 qX0_forget.2 ⟨by decide, by decide⟩ ⟨_, _, rfl⟩ shX0_forget, callV_ok (t := 1) hg (mX1_bitsOf hg) kX1_bitsOf mlX0_57 qX1_bitsOf.1 qX1_bitsOf.2 ⟨by decide, by decide⟩ ⟨_, _, rfl⟩ shX1_bitsOf, callV_ok (t := 0) hg (mX0_meet hg) kX0_meet mlX0_61 qX0_meet.1 qX0_meet.2 ⟨by decide, by decide⟩ ⟨_, _, rfl⟩ shX0_meet, callV_ok (t := 0) hg (mX0_toOf hg) kX0_toOf mlX0_71 qX0_toOf.1 qX0_toOf.2 ⟨by decide, by decide⟩ ⟨_, _, rfl⟩ shX0_toOf, callS_ok hg (mX0_composed hg) kX0_composed mlX0_74 qX0_composed ⟨by decide, by decide⟩, callV_ok (t := 0) hg (mX0_fromOf hg) kX0_fromOf mlX0_78 qX0_fromOf.1 qX0_fromOf.2 ⟨by decide, by decide⟩ ⟨_, _, rfl⟩ shX0_fromOf, trivial⟩ h, fdX0_ok, (fun _ _ h => by cases h), rfl⟩
theorem Fr.at {f f' : FF} {a a' : AA} {t i t' i' : Nat} (h : Fr f a f' a' t i) (hn : ¬ (t' = t ∧ i' = i)) : f' t' i' = f t' i' ∧ a' t' i' = a t' i' := h t' i' hn
theorem rX0_close (av : List AV) (f : FF) (a : AA) (post : PT) (h : sX0_close av f a post) (X : XT) (hX : Clo eX0_close post X) : X 0 (padL 6 (ent av)) [] f a := by
  unfold sX0_close at h
  split at h
  · rename_i p p' x
    obtain ⟨P, hR0, hW, hx, h⟩ := h
    have h12 := hW.l12
    have h3 := hW.l3
    have hK := okK_P hW
    have hwc : WL (clo P) := clo_ok hK
    have rc : ∀ {f1 : FF} {a1 : AA}, Fr f a f1 a1 0 p → RC (f1 1 p') (a1 1 p') P := fun hF => by
      have q := hF.at (t' := 1) (i' := p') (fun z => absurd z.1 (by decide))
      rw [q.1, q.2]
      exact hR0
    refine hX [6] 90 _ _ _ _ _ ?_
    refine fun f0 a0 hF0 hG0 => ?_
    refine forUp (Pr := fun c => ∀ f1 a1, Fr f a f1 a1 0 p → GR (f1 0 p) (a1 0 p) (ph1 (kf P) (fun _ => true) c) → OC P (a1 0 p) (ph1 (kf P) (fun _ => true) c) c → X 6 [some (.inr (.inr (0, p, 0))), some (.inr (.inr (1, p', 0))), some (.inl x), some (.inl (nI c)), none, none] [] f1 a1) (n := P.2.length) (fun c hc next f1 a1 hF hG hO => ?_) (fun f1 a1 hF hG hO => ?_) 0 (Nat.zero_le _) f0 a0 hF0 hG0 (fun c hc => absurd hc (Nat.not_lt_zero c))
    · have hR := rc hF
      have hfr := hW.fr_lt hc
      have hto := hW.to_lt hc
      refine hX [6] 90 _ _ _ _ _ ?_
      refine ⟨fun q => ?_, fun q => ?_⟩
      · rw [hR.2.1] at q
        exact absurd q (nI_ge hc (by omega))
      · refine ⟨inA 12 rfl rfl (by omega) (by decide), inA 12 rfl rfl (by omega) (by decide), P, c, hR, hW, rfl, hc, ?_⟩
        refine ⟨ph1 (kf P) (fun _ => true) c, fr P c, to P c, codeN P c, none, c, hG, ph1_ok hK c (by omega), hR.fr_i hW hc, by omega, hR.to_i hW hc, by omega, rfl, codeN_lt P c, rfl, (fun h hh => by cases hh), rfl, by omega, fun f2 a2 hF2 h2 hG2 => ?_⟩
        refine ⟨inA 12 rfl rfl (by omega) (by decide), ?_⟩
        obtain ⟨g, hg⟩ := meet_has (ph1 (kf P) (fun _ => true) c) (fr P c) (to P c) (codeN P c) none c
        obtain ⟨M, hM⟩ := meet_pre (ph1 (kf P) (fun _ => true) c) (fr P c) (to P c) (codeN P c) none c
        have ep : ph1 (kf P) (fun _ => true) (c + 1) = meetL (ph1 (kf P) (fun _ => true) c) (fr P c) (to P c) (codeN P c) none c := rfl
        rw [hg, nI_clamp (show c < 2 ^ 31 by omega)]
        have n1 := next f2 (upa a2 0 p 2 c (fI (some g))) ((hF.tr hF2).ua 2 c _) (by
          rw [ep]
          refine hG2.w2 (fun k hk => ?_)
          rw [upa_s, if_neg hk]) (by
          intro c' hc'
          rw [ep]
          rcases (show c' < c ∨ c' = c by omega) with z | rfl
          · obtain ⟨g', q1, q2⟩ := hO c' z
            refine ⟨g', by rw [hM]; exact fnd_pre q1, ?_⟩
            rw [upa_s, if_pos rfl, upd_s, if_neg (by omega), h2]
            exact q2
          · exact ⟨g, hg, by rw [upa_s, if_pos rfl, upd_s, if_pos rfl]; rfl⟩)
        rw [nI_succ] at n1
        exact n1
    · have hR := rc hF
      refine hX [51] 90 _ _ _ _ _ ?_
      refine ⟨fun q => ?_, fun q => ?_⟩
      · have key : ∀ d g L f1 a1 z4 z5, g + d = 730 → WL L → Fr f a f1 a1 0 p → GR (f1 0 p) (a1 0 p) L → OC P (a1 0 p) L P.2.length → out (kf P) (fun _ => true) P.2.length d L g = clo P → X 51 [some (.inr (.inr (0, p, 0))), some (.inr (.inr (1, p', 0))), some (.inl x), some (.inl (nI g)), z4, z5] [] f1 a1 := by
          intro d
          induction d with
          | zero =>
            intro g L f1 a1 z4 z5 hgd hL hF hG hO ho
            have hlen := WL_len hL
            have ho : L = clo P := ho
            subst ho
            refine hX [51] 90 _ _ _ _ _ ?_
            refine ⟨fun q => ?_, fun q => ?_⟩
            · refine h f1 a1 hF (fun _ => ⟨hG, hO⟩) (fun _ => ?_)
              rw [hG.2.1]
              exact i_eq (b := 0) rfl rfl (i31 (loopC_lt hL)) (by decide)
            · rw [hG.1] at q
              exact absurd (nI_le (by omega) (by omega)) q
          | succ d ih =>
            intro g L f1 a1 z4 z5 hgd hL hF hG hO ho
            have hlen := WL_len hL
            refine hX [51, 78] 90 _ _ _ _ _ ?_
            refine ⟨fun q => ?_, fun q => ?_⟩
            · rw [hG.1, nI_leI (by omega) (by omega)] at q
              have ho : L = clo P := by
                rw [← ho, out, if_neg (by omega)]
              subst ho
              refine h f1 a1 hF (fun _ => ⟨hG, hO⟩) (fun _ => ?_)
              rw [hG.2.1]
              exact i_eq (b := 0) rfl rfl (i31 (loopC_lt hL)) (by decide)
            · rw [hG.1, nI_leI (by omega) (by omega)] at q
              have hg : g < L.length := by omega
              have ho2 : out (kf P) (fun _ => true) P.2.length d (inn (kf P) (fun _ => true) L g P.2.length) (g + 1) = clo P := by
                rw [← ho, out, if_pos hg]
              have he := hL.1 g hg
              have k78 : X 78 [some (.inr (.inr (0, p, 0))), some (.inr (.inr (1, p', 0))), some (.inl x), some (.inl (nI g)), z4, z5] [] f1 a1 := by
                refine hX [51, 81] 90 _ _ _ _ _ ?_
                refine forUp (Pr := fun c => ∀ f2 a2 z5, Fr f a f2 a2 0 p → GR (f2 0 p) (a2 0 p) (inn (kf P) (fun _ => true) L g c) → OC P (a2 0 p) (inn (kf P) (fun _ => true) L g c) P.2.length → X 81 [some (.inr (.inr (0, p, 0))), some (.inr (.inr (1, p', 0))), some (.inl x), some (.inl (nI g)), some (.inl (nI c)), z5] [] f2 a2) (n := P.2.length) (fun c hc next f2 a2 z5 hF2 hG2 hO2 => ?_) (fun f2 a2 z5 hF2 hG2 hO2 => ?_) 0 (Nat.zero_le _) f1 a1 z5 hF hG hO
                · have hR2 := rc hF2
                  have hfr := hW.fr_lt hc
                  have hto := hW.to_lt hc
                  obtain ⟨M, hM⟩ := inn_pre (K := kf P) (act := fun _ => true) (L := L) (g := g) c
                  have hgl : g < (inn (kf P) (fun _ => true) L g c).length := by rw [hM, List.length_append]; omega
                  have hge : ge (inn (kf P) (fun _ => true) L g c) g = ge L g := by rw [hM, ge_app hg]
                  have hE := hG2.2.2.1 g hgl
                  rw [hge] at hE
                  refine hX [51, 81] 90 _ _ _ _ _ ?_
                  refine ⟨fun q => ?_, fun q => ?_⟩
                  · rw [hR2.2.1] at q
                    exact absurd q (nI_ge hc (by omega))
                  · refine ⟨inA 12 rfl rfl (by omega) (by decide), g, (ge L g).1, (ge L g).2.1, rfl, by omega, hE.2.1, he.1, he.2.1, fun q => ?_, fun q => ?_⟩
                    · rw [hR2.fr_i hW hc] at q
                      have q : ¬ (kf P c).1 = (ge L g).2.1 := fun z => q (by rw [← z]; rfl)
                      have ei : inn (kf P) (fun _ => true) L g (c + 1) = inn (kf P) (fun _ => true) L g c := by
                        rw [inn]
                        simp [q]
                      rw [ei] at next
                      have n1 := next f2 a2 z5 hF2 hG2 hO2
                      rw [nI_succ] at n1
                      exact n1
                    · rw [hR2.fr_i hW hc] at q
                      have q : (kf P c).1 = (ge L g).2.1 := (nI_eq (by show fr P c < _; omega) (by have := he.2.1; omega)).mp q
                      have ei : inn (kf P) (fun _ => true) L g (c + 1) = meetL (inn (kf P) (fun _ => true) L g c) (ge L g).1 (to P c) (compN (ge L g).2.2.1 (codeN P c)) (some g) c := by
                        rw [inn]
                        simp [q]
                        rfl
                      obtain ⟨g', hg', hw'⟩ := hO2 c hc
                      obtain ⟨hgl', hgp'⟩ := fnd_some hg'
                      have hLi := inn_ok (act := fun _ => true) hK hL hg c (by omega)
                      have he' := hLi.1 g' hgl'
                      have hE' := hG2.2.2.1 g' hgl'
                      have hli := WL_len hLi
                      have hcode : (ge (inn (kf P) (fun _ => true) L g c) g').2.2.1 = codeN P c := (pl_inj he'.2.1 he'.2.2.1 (show to P c < 3 by omega) (codeN_lt P c) hgp').2.2
                      have cc : (nI c).toNatClampNeg = c := nI_clamp (by omega)
                      have cg : (nI g).toNatClampNeg = g := nI_clamp (by omega)
                      have cg' : (nI g').toNatClampNeg = g' := nI_clamp (by omega)
                      refine ⟨inA 729 rfl rfl (by omega) (by decide), inA 12 rfl rfl (by omega) (by decide), inA 729 (by rw [cc]; exact hw') rfl (by omega) (by decide), ?_⟩
                      refine ⟨(ge L g).2.2.1, codeN P c, he.2.2.1, codeN_lt P c, by rw [cg]; exact hE.1, by rw [cc, hw', cg', hE'.1, hcode], ?_⟩
                      refine ⟨g, (ge L g).1, (ge L g).2.1, rfl, by omega, hE.2.1, he.1, he.2.1, inA 12 rfl rfl (by omega) (by decide), ?_⟩
                      refine ⟨inn (kf P) (fun _ => true) L g c, (ge L g).1, to P c, compN (ge L g).2.2.1 (codeN P c), some g, c, hG2, hLi, rfl, he.1, hR2.to_i hW hc, by omega, rfl, compN_lt _ _, rfl, (fun h hh => by cases hh; exact hgl), rfl, by omega, fun f3 a3 hF3 h3' hG3 => ?_⟩
                      rw [← ei] at hG3
                      obtain ⟨M3, hM3⟩ := meet_pre (inn (kf P) (fun _ => true) L g c) (ge L g).1 (to P c) (compN (ge L g).2.2.1 (codeN P c)) (some g) c
                      have n1 := next f3 a3 (some (.inl (nI (bitsN (compN (ge L g).2.2.1 (codeN P c)))))) (hF2.tr hF3) hG3 (by
                        rw [ei, hM3]
                        exact hO2.pre h3')
                      rw [nI_succ] at n1
                      exact n1
                · have hR2 := rc hF2
                  refine hX [51, 81] 90 _ _ _ _ _ ?_
                  refine ⟨fun q => ?_, fun q => ?_⟩
                  · have n1 := ih (g + 1) _ f2 a2 (some (.inl (nI P.2.length))) z5 (by omega) (inn_ok hK hL hg _ (Nat.le_refl _)) hF2 hG2 hO2 ho2
                    rw [nI_succ] at n1
                    exact n1
                  · rw [hR2.2.1] at q
                    exact absurd (Int32.le_refl _) q
              refine ⟨fun q => absurd q (nI_ge (b := 729) (by omega) (by decide)), fun q => ?_⟩
              refine ⟨fun q => k78, fun q => ⟨fun q2 => k78, fun q2 => ?_⟩⟩
              have hx1 : x = 1 := hx.elim (fun z => absurd z q) id
              refine h f1 a1 hF (fun z => absurd z q) (fun _ => ?_)
              rw [hG.2.1] at q2 ⊢
              have hpos : 0 < loopC L := Nat.not_le.mp (fun z => q2 ((i_le (b := 0) rfl rfl (i31 (loopC_lt hL)) (by decide)).mpr z))
              obtain ⟨M, hM⟩ := (out_ok (act := fun _ => true) hK (d + 1) L g hL).2
              rw [ho] at hM
              have := loopC_pre L M
              rw [← hM] at this
              refine ⟨fun z => ?_, fun z => by omega⟩
              have z := (i_eq (b := 0) rfl rfl (i31 (loopC_lt hL)) (by decide)).mp z
              omega
        exact key 730 0 _ f1 a1 none none rfl (ph1_ok hK _ (Nat.le_refl _)) hF hG hO rfl
      · rw [hR.2.1] at q
        exact absurd (Int32.le_refl _) q
  · exact h.elim
theorem shX0_close : ∀ As f a Q, sX0_close As f a Q → ∃ i r, As = .inr (.inr (0, i, 0)) :: r := by
  intro As f a Q h
  unfold sX0_close at h
  split at h
  · exact ⟨_, _, rfl⟩
  · exact h.elim
theorem mX0_close {g : Gm} (hg : GmOK g) : MetC g yX0_close cX0_close 6 none 4 sX0_close := by
  refine MetC_of hg eX0_close (eokX0_close hg) (by decide +kernel) (fun av f a post h => ?_) rX0_close
  unfold sX0_close at h
  split at h
  · exact Nat.le_of_ble_eq_true rfl
  · exact h.elim
end
section
/-! Graphs: what is asked of the list -/
def bt (x : Int32) (i : Nat) : Bool := x.toBitVec.getLsbD i
theorem b_ext {x y : Int32} (h : ∀ i, i < 32 → bt x i = bt y i) : x = y := Int32.toBitVec_inj.mp (BitVec.eq_of_getLsbD_eq (fun i hi => h i hi))
theorem b_or (x y : Int32) (i : Nat) : bt (x ||| y) i = (bt x i || bt y i) := by unfold bt; rw [Int32.toBitVec_or, BitVec.getLsbD_or]
theorem b_and (x y : Int32) (i : Nat) : bt (x &&& y) i = (bt x i && bt y i) := by unfold bt; rw [Int32.toBitVec_and, BitVec.getLsbD_and]
theorem b_xor (x y : Int32) (i : Nat) : bt (x ^^^ y) i = (bt x i ^^ bt y i) := by unfold bt; rw [Int32.toBitVec_xor, BitVec.getLsbD_xor]
theorem b_big {x : Int32} {i : Nat} (h : 32 ≤ i) : bt x i = false := BitVec.getLsbD_of_ge _ _ h
theorem b_255 (i : Nat) : bt 255 i = decide (i < 8) := by
  rcases Nat.lt_or_ge i 32 with h | h
  · exact (by decide +kernel : ∀ i, i < 32 → bt 255 i = decide (i < 8)) i h
  · rw [b_big h, decide_eq_false (by omega)]
theorem b_65535 (i : Nat) : bt 65535 i = decide (i < 16) := by
  rcases Nat.lt_or_ge i 32 with h | h
  · exact (by decide +kernel : ∀ i, i < 32 → bt 65535 i = decide (i < 16)) i h
  · rw [b_big h, decide_eq_false (by omega)]
theorem b_m1 : ∀ i, i < 32 → bt (-1) i = true := by decide +kernel
theorem b_0 (i : Nat) : bt 0 i = false := BitVec.getLsbD_zero
theorem s_l : ∀ n, n < 32 → ((nI n &&& 31).toBitVec.smod 32).toNat = n := by decide +kernel
theorem s_u : ∀ n, n < 32 → (((nI n).toUInt32 &&& Int32.toUInt32 31).toBitVec % 32).toNat = n := by decide +kernel
theorem b_shl (n : Nat) (hn : n < 32) (x : Int32) {i : Nat} (hi : i < 32) : bt (x <<< (nI n &&& 31)) i = (decide (n ≤ i) && bt x (i - n)) := by
  unfold bt
  rw [Int32.toBitVec_shiftLeft]
  show (x.toBitVec <<< ((nI n &&& 31).toBitVec.smod 32).toNat).getLsbD i = _
  rw [s_l n hn, BitVec.getLsbD_shiftLeft]
  rcases Nat.lt_or_ge i n with h | h
  · simp [h, Nat.not_le.mpr h]
  · simp [hi, h, Nat.not_lt.mpr h]
theorem b_ushr (n : Nat) (hn : n < 32) (x : Int32) (i : Nat) : bt ((x.toUInt32 >>> ((nI n).toUInt32 &&& Int32.toUInt32 31)).toInt32) i = bt x (n + i) := by
  show (x.toUInt32 >>> ((nI n).toUInt32 &&& Int32.toUInt32 31)).toBitVec.getLsbD i = x.toUInt32.toBitVec.getLsbD (n + i)
  rw [UInt32.toBitVec_shiftRight]
  show (x.toUInt32.toBitVec >>> (((nI n).toUInt32 &&& Int32.toUInt32 31).toBitVec % 32).toNat).getLsbD i = _
  rw [s_u n hn, BitVec.getLsbD_ushiftRight]
theorem b_sshr (n : Nat) (hn : n < 32) (x : Int32) {i : Nat} (hi : i < 32) : bt (x >>> (nI n &&& 31)) i = if n + i < 32 then bt x (n + i) else bt x 31 := by
  unfold bt
  rw [Int32.toBitVec_shiftRight]
  show (x.toBitVec.sshiftRight ((nI n &&& 31).toBitVec.smod 32).toNat).getLsbD i = _
  rw [s_l n hn, BitVec.getLsbD_sshiftRight, BitVec.msb_eq_getLsbD_last]
  simp [hi]
def anyK (p : Nat → Bool) : Nat → Bool
  | 0 => false
  | n + 1 => anyK p n || p n
theorem anyK_t {p : Nat → Bool} : ∀ {n : Nat}, anyK p n = true ↔ ∃ k, k < n ∧ p k = true
  | 0 => ⟨(fun h => by cases h), fun ⟨k, hk, _⟩ => absurd hk (Nat.not_lt_zero k)⟩
  | n + 1 => by
    unfold anyK
    rw [Bool.or_eq_true, anyK_t (n := n)]
    constructor
    · rintro (⟨k, hk, h⟩ | h)
      · exact ⟨k, by omega, h⟩
      · exact ⟨n, by omega, h⟩
    · rintro ⟨k, hk, h⟩
      rcases (show k < n ∨ k = n by omega) with z | rfl
      · exact Or.inl ⟨k, z, h⟩
      · exact Or.inr h
theorem anyK_f {p : Nat → Bool} {n : Nat} (h : ∀ k, k < n → p k = false) : anyK p n = false := by
  cases hh : anyK p n with
  | false => rfl
  | true =>
    obtain ⟨k, hk, hp⟩ := anyK_t.mp hh
    rw [h k hk] at hp
    cases hp
def firstU (p : Nat → Bool) : Nat → Nat → Option Nat
  | 0, _ => none
  | d + 1, i => if p i then some i else firstU p d (i + 1)
/-- no relation of x is above y's -/
def leC (x y : Nat) : Bool := decide (rl x 0 0 ≤ rl y 0 0) && (decide (rl x 0 1 ≤ rl y 0 1) && (decide (rl x 1 0 ≤ rl y 1 0) && decide (rl x 1 1 ≤ rl y 1 1)))
theorem leC_all : (List.range 81).all (fun x => (List.range 81).all (fun y => (leC x y == decide (nI (bitsN x) &&& (nI (bitsN y) ^^^ (-1)) = 0)) && (!(leC x y) || decide (x ≤ y)))) = true := by decide +kernel
theorem leC_i {x y : Nat} (hx : x < 81) (hy : y < 81) : leC x y = decide (nI (bitsN x) &&& (nI (bitsN y) ^^^ (-1)) = 0) := by
  have h := List.all_eq_true.mp (List.all_eq_true.mp leC_all x (List.mem_range.mpr hx)) y (List.mem_range.mpr hy)
  simp only [Bool.and_eq_true] at h
  exact eq_of_beq h.1
theorem leC_le {x y : Nat} (hx : x < 81) (hy : y < 81) (hl : leC x y = true) : x ≤ y := by
  have h := List.all_eq_true.mp (List.all_eq_true.mp leC_all x (List.mem_range.mpr hx)) y (List.mem_range.mpr hy)
  simp only [Bool.and_eq_true, Bool.or_eq_true, hl, Bool.not_true, Bool.false_eq_true, false_or, decide_eq_true_eq] at h
  exact h.2
def needB (L : List Gr) (g : Nat) : Bool := anyK (fun h => decide (h ≠ g) && (decide ((ge L h).1 = (ge L g).1) && (decide ((ge L h).2.1 = (ge L g).2.1) && leC (ge L h).2.2.1 (ge L g).2.2.1))) L.length
def needC (L : List Gr) (g : Nat) : Nat → Bool := fun c => match fnd L (pl (ge L g).1 (ge L g).2.1 c) with
  | some h => leC (ge L h).2.2.1 (ge L g).2.2.1
  | none => false
theorem need_eq {L : List Gr} (hL : WL L) {g : Nat} (hg : g < L.length) : anyK (needC L g) (ge L g).2.2.1 = needB L g := by
  have he := hL.1 g hg
  rw [Bool.eq_iff_iff, needB, anyK_t, anyK_t]
  constructor
  · rintro ⟨c, hc, h⟩
    unfold needC at h
    cases hf : fnd L (pl (ge L g).1 (ge L g).2.1 c) with
    | none => rw [hf] at h; cases h
    | some k =>
      rw [hf] at h
      obtain ⟨h1, h2⟩ := fnd_some hf
      have hk := hL.1 k h1
      obtain ⟨q1, q2, q3⟩ := pl_inj hk.2.1 hk.2.2.1 he.2.1 (show c < 81 by have := he.2.2.1; omega) h2
      refine ⟨k, h1, ?_⟩
      simp only [Bool.and_eq_true, decide_eq_true_eq]
      refine ⟨fun z => ?_, q1, q2, h⟩
      rw [z] at q3
      omega
  · rintro ⟨k, hk, h⟩
    simp only [Bool.and_eq_true, decide_eq_true_eq] at h
    obtain ⟨h1, h2, h3, h4⟩ := h
    have hke := hL.1 k hk
    have hle := leC_le hke.2.2.1 he.2.2.1 h4
    have hne : ¬ (ge L k).2.2.1 = (ge L g).2.2.1 := fun z => h1 (hL.2 k g hk hg (by unfold gpl; rw [h2, h3, z]))
    refine ⟨(ge L k).2.2.1, by omega, ?_⟩
    unfold needC
    have := fnd_of hL hk
    unfold gpl at this
    rw [h2, h3] at this
    rw [this]
    exact h4
def sX0_isNeedless : SP := fun As f a Q => match As with
  | [.inr (.inr (0, p, 0)), .inl x] => ∃ L g, GR (f 0 p) (a 0 p) L ∧ WL L ∧ x = nI g ∧ g < L.length ∧ Q (some (.inl (b2i (needB L g)))) f a
  | _ => False
def eX0_isNeedless : En := (tX0_isNeedless, [(87, true, 1, sX0_codeOf)], fdX0, [], 1)
theorem eokX0_isNeedless {g : Gm} (hg : GmOK g) : EnvOK g 1 RX0 cX0_isNeedless (some .boolean) eX0_isNeedless := ⟨okX0_isNeedless, fun _ _ _ _ h => as2_all (P := fun i v => CallOK g 1 RX0 i v.1 v.2.1 v.2.2) (l := eX0_isNeedless.2.1) ⟨callS_ok hg (mX0_codeOf hg) kX0_codeOf mlX0_87 qX0_codeOf ⟨by decide, by decide⟩, trivial⟩ h, fdX0_ok, (fun _ _ h => by cases h), rfl⟩
theorem rX0_isNeedless (av : List AV) (f : FF) (a : AA) (post : PT) (h : sX0_isNeedless av f a post) (X : XT) (hX : Clo eX0_isNeedless post X) : X 0 (padL 6 (ent av)) [] f a := by
  unfold sX0_isNeedless at h
  split at h
  · rename_i p x
    obtain ⟨L, g, hG, hL, rfl, hg, h⟩ := h
    have hlen := WL_len hL
    have he := hL.1 g hg
    have hE := hG.2.2.1 g hg
    rw [← need_eq hL hg] at h
    have cg : (nI g).toNatClampNeg = g := nI_clamp (by omega)
    have c81 := he.2.2.1
    have f3 := he.1
    have t3 := he.2.1
    refine hX [23] 90 _ _ _ _ _ ?_
    refine ⟨inA 729 rfl rfl (by omega) (by decide), inA 729 rfl rfl (by omega) (by decide), (ge L g).2.2.1, c81, by rw [cg]; exact hE.1, ?_⟩
    have e2 : a 0 p 6 (nI g).toNatClampNeg * 81 = nI ((3 * (ge L g).1 + (ge L g).2.1) * 81) := by
      rw [cg, hE.2.1, show (81 : Int32) = nI 81 from rfl, pk_mul]
    dsimp only
    rw [e2]
    refine forUp (Pr := fun c => (∀ k, k < c → needC L g k = false) → ∀ z5, X 23 [some (.inr (.inr (0, p, 0))), some (.inl (nI g)), some (.inl (nI ((3 * (ge L g).1 + (ge L g).2.1) * 81))), some (.inl (nI (ge L g).2.2.1)), some (.inl (nI c)), z5] [] f a) (n := (ge L g).2.2.1) (fun c hc next hall z5 => ?_) (fun hall z5 => ?_) 0 (Nat.zero_le _) (fun k hk => absurd hk (Nat.not_lt_zero k)) none
    · refine hX [23] 90 _ _ _ _ _ ?_
      refine ⟨fun q => absurd q (nI_ge hc (by omega)), fun q => ?_⟩
      have hpl : nI ((3 * (ge L g).1 + (ge L g).2.1) * 81) + nI c = nI (pl (ge L g).1 (ge L g).2.1 c) := nI_add _ _
      have hp := pl_lt f3 t3 (show c < 81 by omega)
      have cp : (nI ((3 * (ge L g).1 + (ge L g).2.1) * 81) + nI c).toNatClampNeg = pl (ge L g).1 (ge L g).2.1 c := by rw [hpl, nI_clamp (by omega)]
      have ef := hG.2.2.2.1 _ hp
      refine ⟨inA 729 hpl rfl hp (by decide), ?_⟩
      dsimp only
      rw [cp, ef]
      have go : needC L g c = false → ∀ z5, X 23 [some (.inr (.inr (0, p, 0))), some (.inl (nI g)), some (.inl (nI ((3 * (ge L g).1 + (ge L g).2.1) * 81))), some (.inl (nI (ge L g).2.2.1)), some (.inl (nI c + 1)), z5] [] f a := by
        intro hc2
        rw [nI_succ] at next
        exact next (fun k hk => by
          rcases (show k < c ∨ k = c by omega) with z | rfl
          · exact hall k z
          · exact hc2)
      refine ⟨fun q2 => ?_, fun q2 => ?_⟩
      · have hn := fI_neg q2 (fun k hk => by have := (fnd_some hk).1; omega)
        exact go (by unfold needC; rw [hn]) _
      · cases hf : fnd L (pl (ge L g).1 (ge L g).2.1 c) with
        | none => rw [hf] at q2; exact absurd (by decide) q2
        | some k =>
          obtain ⟨hk1, hk2⟩ := fnd_some hf
          have hke := hL.1 k hk1
          have hKE := hG.2.2.1 k hk1
          have ck : (fI (some k)).toNatClampNeg = k := nI_clamp (by omega)
          have hnc : needC L g c = leC (ge L k).2.2.1 (ge L g).2.2.1 := by unfold needC; rw [hf]
          have hlc := leC_i hke.2.2.1 c81
          refine ⟨inA 729 rfl rfl (show k < 729 by omega) (by decide), inA 729 rfl rfl (by omega) (by decide), ?_⟩
          dsimp only
          rw [ck, cg, hKE.1, hE.1]
          refine ⟨fun q3 => ?_, fun q3 => ?_⟩
          · exact go (by rw [hnc, hlc]; exact decide_eq_false q3) _
          · exact pT h (anyK_t.mpr ⟨c, hc, by rw [hnc, hlc]; exact decide_eq_true q3⟩)
    · refine hX [23] 90 _ _ _ _ _ ?_
      exact ⟨fun q => pF h (anyK_f hall), fun q => absurd (Int32.le_refl _) q⟩
  · exact h.elim
theorem shX0_isNeedless : ∀ As f a Q, sX0_isNeedless As f a Q → ∃ i r, As = .inr (.inr (0, i, 0)) :: r := by
  intro As f a Q h
  unfold sX0_isNeedless at h
  split at h
  · exact ⟨_, _, rfl⟩
  · exact h.elim
theorem mX0_isNeedless {g : Gm} (hg : GmOK g) : MetC g yX0_isNeedless cX0_isNeedless 6 (some .boolean) 1 sX0_isNeedless := by
  refine MetC_of hg eX0_isNeedless (eokX0_isNeedless hg) (by decide +kernel) (fun av f a post h => ?_) rX0_isNeedless
  unfold sX0_isNeedless at h
  split at h
  · exact Nat.le_of_ble_eq_true rfl
  · exact h.elim
def sX0_idleOnes : SP := fun As f a Q => match As with
  | [.inr (.inr (0, p, 0))] => ∃ L, GR (f 0 p) (a 0 p) L ∧ WL L ∧ Q (some (.inl (nI (cnt (fun g => idleK (ge L g).1 (ge L g).2.1 (ge L g).2.2.1) L.length)))) f a
  | _ => False
def eX0_idleOnes : En := (tX0_idleOnes, [(105, false, 2, sX0_isIdle), (98, true, 1, sX4_bit)], fdX0, [], 0)
theorem eokX0_idleOnes {g : Gm} (hg : GmOK g) : EnvOK g 2 RX0 cX0_idleOnes (some .int) eX0_idleOnes := ⟨okX0_idleOnes, fun _ _ _ _ h => as2_all (P := fun i v => CallOK g 2 RX0 i v.1 v.2.1 v.2.2) (l := eX0_idleOnes.2.1) ⟨callV_ok (t := 0) hg (mX0_isIdle hg) kX0_isIdle mlX0_105 qX0_isIdle.1 qX0_isIdle.2 ⟨by decide, by decide⟩ ⟨_, _, rfl⟩ shX0_isIdle, callN_ok (host := "FallingCalls") hg (mX4_bit hg) kX4_bit (nxX0_98 hg) qX4_bit ⟨by decide, by decide⟩, trivial⟩ h, fdX0_ok, (fun _ _ h => by cases h), rfl⟩
theorem rX0_idleOnes (av : List AV) (f : FF) (a : AA) (post : PT) (h : sX0_idleOnes av f a post) (X : XT) (hX : Clo eX0_idleOnes post X) : X 0 (padL 3 (ent av)) [] f a := by
  unfold sX0_idleOnes at h
  split at h
  · rename_i p
    obtain ⟨L, hG, hL, h⟩ := h
    have hlen := WL_len hL
    refine hX [4] 90 _ _ _ _ _ ?_
    refine forUp (Pr := fun g => X 4 [some (.inr (.inr (0, p, 0))), some (.inl (nI (cnt (fun g => idleK (ge L g).1 (ge L g).2.1 (ge L g).2.2.1) g))), some (.inl (nI g))] [] f a) (n := L.length) (fun g hg next => ?_) ?_ 0 (Nat.zero_le _)
    · have he := hL.1 g hg
      have hE := hG.2.2.1 g hg
      refine hX [4] 90 _ _ _ _ _ ?_
      refine ⟨fun q => ?_, fun q => ?_⟩
      · rw [hG.1] at q
        exact absurd q (nI_ge hg (by omega))
      · refine ⟨g, (ge L g).1, (ge L g).2.1, (ge L g).2.2.1, rfl, by omega, hE.2.1, he.1, he.2.1, hE.1, he.2.2.1, ?_⟩
        rw [cnt_s, nI_succ, ← b2i_b (idleK (ge L g).1 (ge L g).2.1 (ge L g).2.2.1)] at next
        exact next
    · refine hX [4] 90 _ _ _ _ _ ?_
      refine ⟨fun q => h, fun q => ?_⟩
      rw [hG.1] at q
      exact absurd (Int32.le_refl _) q
  · exact h.elim
theorem shX0_idleOnes : ∀ As f a Q, sX0_idleOnes As f a Q → ∃ i r, As = .inr (.inr (0, i, 0)) :: r := by
  intro As f a Q h
  unfold sX0_idleOnes at h
  split at h
  · exact ⟨_, _, rfl⟩
  · exact h.elim
theorem mX0_idleOnes {g : Gm} (hg : GmOK g) : MetC g yX0_idleOnes cX0_idleOnes 3 (some .int) 2 sX0_idleOnes := by
  refine MetC_of hg eX0_idleOnes (eokX0_idleOnes hg) (by decide +kernel) (fun av f a post h => ?_) rX0_idleOnes
  unfold sX0_idleOnes at h
  split at h
  · exact Nat.le_of_ble_eq_true rfl
  · exact h.elim
def sX0_neededOnes : SP := fun As f a Q => match As with
  | [.inr (.inr (0, p, 0))] => ∃ L, GR (f 0 p) (a 0 p) L ∧ WL L ∧ Q (some (.inl (nI (cnt (fun g => !needB L g) L.length)))) f a
  | _ => False
def eX0_neededOnes : En := (tX0_neededOnes, [(108, false, 2, sX0_isNeedless), (98, true, 1, sX4_bit)], fdX0, [], 0)
theorem eokX0_neededOnes {g : Gm} (hg : GmOK g) : EnvOK g 2 RX0 cX0_neededOnes (some .int) eX0_neededOnes := ⟨okX0_neededOnes, fun _ _ _ _ h => as2_all (P := fun i v => CallOK g 2 RX0 i v.1 v.2.1 v.2.2) (l := eX0_neededOnes.2.1) ⟨callV_ok (t := 0) hg (mX0_isNeedless hg) kX0_isNeedless mlX0_108 qX0_isNeedless.1 qX0_isNeedless.2 ⟨by decide, by decide⟩ ⟨_, _, rfl⟩ shX0_isNeedless, callN_ok (host := "FallingCalls") hg (mX4_bit hg) kX4_bit (nxX0_98 hg) qX4_bit ⟨by decide, by decide⟩, trivial⟩ h, fdX0_ok, (fun _ _ h => by cases h), rfl⟩
theorem rX0_neededOnes (av : List AV) (f : FF) (a : AA) (post : PT) (h : sX0_neededOnes av f a post) (X : XT) (hX : Clo eX0_neededOnes post X) : X 0 (padL 3 (ent av)) [] f a := by
  unfold sX0_neededOnes at h
  split at h
  · rename_i p
    obtain ⟨L, hG, hL, h⟩ := h
    have hlen := WL_len hL
    refine hX [4] 90 _ _ _ _ _ ?_
    refine forUp (Pr := fun g => X 4 [some (.inr (.inr (0, p, 0))), some (.inl (nI (cnt (fun g => !needB L g) g))), some (.inl (nI g))] [] f a) (n := L.length) (fun g hg next => ?_) ?_ 0 (Nat.zero_le _)
    · refine hX [4] 90 _ _ _ _ _ ?_
      refine ⟨fun q => ?_, fun q => ?_⟩
      · rw [hG.1] at q
        exact absurd q (nI_ge hg (by omega))
      · rw [cnt_s, nI_succ] at next
        refine ⟨L, g, hG, hL, rfl, hg, fun d => ?_, fun d => ?_⟩
        · rw [b2i_n0.mp d] at next
          exact next
        · rw [b2i_e0.mp d] at next
          exact next
    · refine hX [4] 90 _ _ _ _ _ ?_
      refine ⟨fun q => h, fun q => ?_⟩
      rw [hG.1] at q
      exact absurd (Int32.le_refl _) q
  · exact h.elim
theorem shX0_neededOnes : ∀ As f a Q, sX0_neededOnes As f a Q → ∃ i r, As = .inr (.inr (0, i, 0)) :: r := by
  intro As f a Q h
  unfold sX0_neededOnes at h
  split at h
  · exact ⟨_, _, rfl⟩
  · exact h.elim
theorem mX0_neededOnes {g : Gm} (hg : GmOK g) : MetC g yX0_neededOnes cX0_neededOnes 3 (some .int) 2 sX0_neededOnes := by
  refine MetC_of hg eX0_neededOnes (eokX0_neededOnes hg) (by decide +kernel) (fun av f a post h => ?_) rX0_neededOnes
  unfold sX0_neededOnes at h
  split at h
  · exact Nat.le_of_ble_eq_true rfl
  · exact h.elim
def sX0_neededLoops : SP := fun As f a Q => match As with
  | [.inr (.inr (0, p, 0))] => ∃ L, GR (f 0 p) (a 0 p) L ∧ WL L ∧ Q (some (.inl (nI (cnt (fun g => loopE (ge L g) && !needB L g) L.length)))) f a
  | _ => False
def eX0_neededLoops : En := (tX0_neededLoops, [(94, false, 2, sX0_isLoop), (108, false, 2, sX0_isNeedless), (98, true, 1, sX4_bit)], fdX0, [], 0)
theorem eokX0_neededLoops {g : Gm} (hg : GmOK g) : EnvOK g 3 RX0 cX0_neededLoops (some .int) eX0_neededLoops := ⟨okX0_neededLoops, fun _ _ _ _ h => as2_all (P := fun i v => CallOK g 3 RX0 i v.1 v.2.1 v.2.2) (l := eX0_neededLoops.2.1) ⟨callV_ok (t := 0) hg (mX0_isLoop hg) kX0_isLoop mlX0_94 qX0_isLoop.1 qX0_isLoop.2 ⟨by decide, by decide⟩ ⟨_, _, rfl⟩ shX0_isLoop, callV_ok (t := 0) hg (mX0_isNeedless hg) kX0_isNeedless mlX0_108 qX0_isNeedless.1 qX0_isNeedless.2 ⟨by decide, by decide⟩ ⟨_, _, rfl⟩ shX0_isNeedless, callN_ok (host := "FallingCalls") hg (mX4_bit hg) kX4_bit (nxX0_98 hg) qX4_bit ⟨by decide, by decide⟩, trivial⟩ h, fdX0_ok, (fun _ _ h => by cases h), rfl⟩
theorem rX0_neededLoops (av : List AV) (f : FF) (a : AA) (post : PT) (h : sX0_neededLoops av f a post) (X : XT) (hX : Clo eX0_neededLoops post X) : X 0 (padL 3 (ent av)) [] f a := by
  unfold sX0_neededLoops at h
  split at h
  · rename_i p
    obtain ⟨L, hG, hL, h⟩ := h
    have hlen := WL_len hL
    refine hX [4] 90 _ _ _ _ _ ?_
    refine forUp (Pr := fun g => X 4 [some (.inr (.inr (0, p, 0))), some (.inl (nI (cnt (fun g => loopE (ge L g) && !needB L g) g))), some (.inl (nI g))] [] f a) (n := L.length) (fun g hg next => ?_) ?_ 0 (Nat.zero_le _)
    · have he := hL.1 g hg
      have hE := hG.2.2.1 g hg
      refine hX [4] 90 _ _ _ _ _ ?_
      refine ⟨fun q => ?_, fun q => ?_⟩
      · rw [hG.1] at q
        exact absurd q (nI_ge hg (by omega))
      · rw [cnt_s, nI_succ] at next
        refine ⟨g, (ge L g).1, (ge L g).2.1, (ge L g).2.2.1, rfl, by omega, hE.2.1, he.1, he.2.1, hE.1, he.2.2.1, fun d => ?_, fun d => ?_⟩
        · rw [show loopE (ge L g) = false from b2i_e0.mp d] at next
          exact next
        · rw [show loopE (ge L g) = true from b2i_n0.mp d] at next
          refine ⟨L, g, hG, hL, rfl, hg, fun d => ?_, fun d => ?_⟩
          · rw [b2i_n0.mp d] at next
            exact next
          · rw [b2i_e0.mp d] at next
            exact next
    · refine hX [4] 90 _ _ _ _ _ ?_
      refine ⟨fun q => h, fun q => ?_⟩
      rw [hG.1] at q
      exact absurd (Int32.le_refl _) q
  · exact h.elim
theorem shX0_neededLoops : ∀ As f a Q, sX0_neededLoops As f a Q → ∃ i r, As = .inr (.inr (0, i, 0)) :: r := by
  intro As f a Q h
  unfold sX0_neededLoops at h
  split at h
  · exact ⟨_, _, rfl⟩
  · exact h.elim
theorem mX0_neededLoops {g : Gm} (hg : GmOK g) : MetC g yX0_neededLoops cX0_neededLoops 3 (some .int) 3 sX0_neededLoops := by
  refine MetC_of hg eX0_neededLoops (eokX0_neededLoops hg) (by decide +kernel) (fun av f a post h => ?_) rX0_neededLoops
  unfold sX0_neededLoops at h
  split at h
  · exact Nat.le_of_ble_eq_true rfl
  · exact h.elim
def sX0_sumOfCodes : SP := fun As f a Q => match As with
  | [.inr (.inr (0, p, 0))] => ∃ L, GR (f 0 p) (a 0 p) L ∧ WL L ∧ Q (some (.inl (nI (sumN (fun g => (ge L g).2.2.1) L.length)))) f a
  | _ => False
def eX0_sumOfCodes : En := (tX0_sumOfCodes, [(87, true, 1, sX0_codeOf)], fdX0, [], 0)
theorem eokX0_sumOfCodes {g : Gm} (hg : GmOK g) : EnvOK g 1 RX0 cX0_sumOfCodes (some .int) eX0_sumOfCodes := ⟨okX0_sumOfCodes, fun _ _ _ _ h => as2_all (P := fun i v => CallOK g 1 RX0 i v.1 v.2.1 v.2.2) (l := eX0_sumOfCodes.2.1) ⟨callS_ok hg (mX0_codeOf hg) kX0_codeOf mlX0_87 qX0_codeOf ⟨by decide, by decide⟩, trivial⟩ h, fdX0_ok, (fun _ _ h => by cases h), rfl⟩
theorem rX0_sumOfCodes (av : List AV) (f : FF) (a : AA) (post : PT) (h : sX0_sumOfCodes av f a post) (X : XT) (hX : Clo eX0_sumOfCodes post X) : X 0 (padL 3 (ent av)) [] f a := by
  unfold sX0_sumOfCodes at h
  split at h
  · rename_i p
    obtain ⟨L, hG, hL, h⟩ := h
    have hlen := WL_len hL
    refine hX [4] 90 _ _ _ _ _ ?_
    refine forUp (Pr := fun g => X 4 [some (.inr (.inr (0, p, 0))), some (.inl (nI (sumN (fun g => (ge L g).2.2.1) g))), some (.inl (nI g))] [] f a) (n := L.length) (fun g hg next => ?_) ?_ 0 (Nat.zero_le _)
    · have he := hL.1 g hg
      have hE := hG.2.2.1 g hg
      refine hX [4] 90 _ _ _ _ _ ?_
      refine ⟨fun q => ?_, fun q => ?_⟩
      · rw [hG.1] at q
        exact absurd q (nI_ge hg (by omega))
      · rw [sum_s, nI_succ] at next
        exact ⟨inA 729 rfl rfl (by omega) (by decide), (ge L g).2.2.1, he.2.2.1, by rw [nI_clamp (by omega)]; exact hE.1, next⟩
    · refine hX [4] 90 _ _ _ _ _ ?_
      refine ⟨fun q => h, fun q => ?_⟩
      rw [hG.1] at q
      exact absurd (Int32.le_refl _) q
  · exact h.elim
theorem shX0_sumOfCodes : ∀ As f a Q, sX0_sumOfCodes As f a Q → ∃ i r, As = .inr (.inr (0, i, 0)) :: r := by
  intro As f a Q h
  unfold sX0_sumOfCodes at h
  split at h
  · exact ⟨_, _, rfl⟩
  · exact h.elim
theorem mX0_sumOfCodes {g : Gm} (hg : GmOK g) : MetC g yX0_sumOfCodes cX0_sumOfCodes 3 (some .int) 1 sX0_sumOfCodes := by
  refine MetC_of hg eX0_sumOfCodes (eokX0_sumOfCodes hg) (by decide +kernel) (fun av f a post h => ?_) rX0_sumOfCodes
  unfold sX0_sumOfCodes at h
  split at h
  · exact Nat.le_of_ble_eq_true rfl
  · exact h.elim
end
section
/-! Graphs: loops that a function comes to; components; words -/
theorem come_lt {L : List Gr} (hL : WL L) (i : Nat) : comeN L i < 8 := by
  have key : ∀ (M : List Gr) (m : Nat), m < 8 → (∀ e ∈ M, e.2.1 < 3) → M.foldl (fun m e => if e.1 = i then m ||| 2 ^ e.2.1 else m) m < 8 := by
    intro M
    induction M with
    | nil => intro m hm _; exact hm
    | cons e M ih =>
      intro m hm hM
      refine ih _ ?_ (fun e he => hM e (List.mem_cons_of_mem _ he))
      have h3 := hM e List.mem_cons_self
      dsimp only
      split
      · exact Nat.or_lt_two_pow (n := 3) hm (Nat.pow_lt_pow_right (by decide) h3)
      · exact hm
  refine key L 0 (by decide) (fun e he => ?_)
  obtain ⟨g, hg⟩ := List.getElem?_of_mem he
  have hlt := (List.getElem?_eq_some_iff.mp hg).1
  have := ge_at hlt
  rw [hg] at this
  rw [Option.some.inj this]
  exact (hL.1 g hlt).2.1
theorem bit_8 : ∀ m, m < 8 → ∀ k, k < 3 → ((nI m >>> (nI k &&& 31)) &&& 1 = 0 ↔ m.testBit k = false) := by decide +kernel
theorem bit_88 : ∀ m, m < 8 → ∀ m', m' < 8 → ∀ k, k < 3 → ∀ j, j < 3 → (((nI m >>> (nI k &&& 31)) &&& (nI m' >>> (nI j &&& 31))) &&& 1 = 0 ↔ (m.testBit k && m'.testBit j) = false) := by decide +kernel
/-- whether graph g is a loop that function i comes to, or has -/
def loopOfB (L : List Gr) (i : Nat) : Nat → Bool := fun g => (comeN L i ||| 2 ^ i).testBit (ge L g).1 && loopE (ge L g)
def sX0_firstLoopOf : SP := fun As f a Q => match As with
  | [.inr (.inr (0, p, 0)), .inl x] => ∃ L i, GR (f 0 p) (a 0 p) L ∧ WL L ∧ x = nI i ∧ i < 3 ∧ Q (some (.inl (fI (firstU (loopOfB L i) L.length 0)))) f a
  | _ => False
def eX0_firstLoopOf : En := (tX0_firstLoopOf, [(78, false, 2, sX0_fromOf), (94, false, 2, sX0_isLoop)], fdX0, [], 0)
theorem eokX0_firstLoopOf {g : Gm} (hg : GmOK g) : EnvOK g 3 RX0 cX0_firstLoopOf (some .int) eX0_firstLoopOf := ⟨okX0_firstLoopOf, fun _ _ _ _ h => as2_all (P := fun i v => CallOK g 3 RX0 i v.1 v.2.1 v.2.2) (l := eX0_firstLoopOf.2.1) ⟨callV_ok (t := 0) hg (mX0_fromOf hg) kX0_fromOf mlX0_78 qX0_fromOf.1 qX0_fromOf.2 ⟨by decide, by decide⟩ ⟨_, _, rfl⟩ shX0_fromOf, callV_ok (t := 0) hg (mX0_isLoop hg) kX0_isLoop mlX0_94 qX0_isLoop.1 qX0_isLoop.2 ⟨by decide, by decide⟩ ⟨_, _, rfl⟩ shX0_isLoop, trivial⟩ h, fdX0_ok, (fun _ _ h => by cases h), rfl⟩
theorem rX0_firstLoopOf (av : List AV) (f : FF) (a : AA) (post : PT) (h : sX0_firstLoopOf av f a post) (X : XT) (hX : Clo eX0_firstLoopOf post X) : X 0 (padL 4 (ent av)) [] f a := by
  unfold sX0_firstLoopOf at h
  split at h
  · rename_i p x
    obtain ⟨L, i, hG, hL, rfl, hi, h⟩ := h
    have hlen := WL_len hL
    have hcl := come_lt hL i
    have hm8 : comeN L i ||| 2 ^ i < 8 := Nat.or_lt_two_pow (n := 3) hcl (Nat.pow_lt_pow_right (by decide) hi)
    have ci : (nI i).toNatClampNeg = i := nI_clamp (by omega)
    refine hX [13] 90 _ _ _ _ _ ?_
    refine ⟨inA 3 rfl rfl hi (by decide), ?_⟩
    dsimp only
    rw [ci]
    have key : ∀ d g, g + d = L.length → post (some (.inl (fI (firstU (loopOfB L i) d g)))) f a → X 13 [some (.inr (.inr (0, p, 0))), some (.inl (nI i)), some (.inl (nI (comeN L i ||| 2 ^ i))), some (.inl (nI g))] [] f a := by
      intro d
      induction d with
      | zero =>
        intro g hgd h
        refine hX [13] 90 _ _ _ _ _ ?_
        refine ⟨fun q => h, fun q => ?_⟩
        rw [hG.1] at q
        exact absurd (nI_le (by omega) (by omega)) q
      | succ d ih =>
        intro g hgd h
        have hg : g < L.length := by omega
        have he := hL.1 g hg
        have hE := hG.2.2.1 g hg
        have skip : loopOfB L i g = false → X 13 [some (.inr (.inr (0, p, 0))), some (.inl (nI i)), some (.inl (nI (comeN L i ||| 2 ^ i))), some (.inl (nI g + 1))] [] f a := by
          intro hb
          rw [← nI_succ]
          refine ih (g + 1) (by omega) ?_
          simpa [firstU, hb] using h
        refine hX [13] 90 _ _ _ _ _ ?_
        refine ⟨fun q => ?_, fun q => ?_⟩
        · rw [hG.1] at q
          exact absurd q (nI_ge hg (by omega))
        · refine ⟨g, (ge L g).1, (ge L g).2.1, rfl, by omega, hE.2.1, he.1, he.2.1, fun q1 => ?_, fun q1 => ?_⟩
          · have q1 := (bit_8 _ hm8 _ he.1).mp q1
            exact skip (by simp only [loopOfB, q1, Bool.false_and])
          · have q1 : (comeN L i ||| 2 ^ i).testBit (ge L g).1 = true := by
              cases hh : (comeN L i ||| 2 ^ i).testBit (ge L g).1 with
              | true => rfl
              | false => exact absurd ((bit_8 _ hm8 _ he.1).mpr hh) q1
            refine ⟨g, (ge L g).1, (ge L g).2.1, (ge L g).2.2.1, rfl, by omega, hE.2.1, he.1, he.2.1, hE.1, he.2.2.1, fun q2 => ?_, fun q2 => ?_⟩
            · exact skip (by simp only [loopOfB, show loopE (ge L g) = false from b2i_e0.mp q2, Bool.and_false])
            · have hb : loopOfB L i g = true := by simp only [loopOfB, q1, show loopE (ge L g) = true from b2i_n0.mp q2, Bool.and_self]
              refine pI h ?_
              simp [firstU, hb, fI]
    have k0 := key L.length 0 (by omega) h
    rw [← fa_or, ← shl_t i (by omega), ← hG.2.2.2.2 i hi] at k0
    exact k0
  · exact h.elim
theorem shX0_firstLoopOf : ∀ As f a Q, sX0_firstLoopOf As f a Q → ∃ i r, As = .inr (.inr (0, i, 0)) :: r := by
  intro As f a Q h
  unfold sX0_firstLoopOf at h
  split at h
  · exact ⟨_, _, rfl⟩
  · exact h.elim
theorem mX0_firstLoopOf {g : Gm} (hg : GmOK g) : MetC g yX0_firstLoopOf cX0_firstLoopOf 4 (some .int) 3 sX0_firstLoopOf := by
  refine MetC_of hg eX0_firstLoopOf (eokX0_firstLoopOf hg) (by decide +kernel) (fun av f a post h => ?_) rX0_firstLoopOf
  unfold sX0_firstLoopOf at h
  split at h
  · exact Nat.le_of_ble_eq_true rfl
  · exact h.elim
def comI (L : List Gr) : Nat → Int32
  | 0 => if loopC L = 0 then 0 else -1
  | g + 1 => if loopE (ge L g) then comI L g &&& nI (ge L g).2.2.2.2.2.2 else comI L g
def sX0_callsOfEveryLoop : SP := fun As f a Q => match As with
  | [.inr (.inr (0, p, 0))] => ∃ L, GR (f 0 p) (a 0 p) L ∧ WL L ∧ Q (some (.inl (comI L L.length))) f a
  | _ => False
def eX0_callsOfEveryLoop : En := (tX0_callsOfEveryLoop, [(94, false, 2, sX0_isLoop)], fdX0, [], 0)
theorem eokX0_callsOfEveryLoop {g : Gm} (hg : GmOK g) : EnvOK g 3 RX0 cX0_callsOfEveryLoop (some .int) eX0_callsOfEveryLoop := ⟨okX0_callsOfEveryLoop, fun _ _ _ _ h => as2_all (P := fun i v => CallOK g 3 RX0 i v.1 v.2.1 v.2.2) (l := eX0_callsOfEveryLoop.2.1) ⟨callV_ok (t := 0) hg (mX0_isLoop hg) kX0_isLoop mlX0_94 qX0_isLoop.1 qX0_isLoop.2 ⟨by decide, by decide⟩ ⟨_, _, rfl⟩ shX0_isLoop, trivial⟩ h, fdX0_ok, (fun _ _ h => by cases h), rfl⟩
theorem rX0_callsOfEveryLoop (av : List AV) (f : FF) (a : AA) (post : PT) (h : sX0_callsOfEveryLoop av f a post) (X : XT) (hX : Clo eX0_callsOfEveryLoop post X) : X 0 (padL 3 (ent av)) [] f a := by
  unfold sX0_callsOfEveryLoop at h
  split at h
  · rename_i p
    obtain ⟨L, hG, hL, h⟩ := h
    have hlen := WL_len hL
    have key : X 15 [some (.inr (.inr (0, p, 0))), some (.inl (comI L 0)), some (.inl (nI 0))] [] f a := by
      refine forUp (Pr := fun g => X 15 [some (.inr (.inr (0, p, 0))), some (.inl (comI L g)), some (.inl (nI g))] [] f a) (n := L.length) (fun g hg next => ?_) ?_ 0 (Nat.zero_le _)
      · have he := hL.1 g hg
        have hE := hG.2.2.1 g hg
        refine hX [15] 90 _ _ _ _ _ ?_
        refine ⟨fun q => ?_, fun q => ?_⟩
        · rw [hG.1] at q
          exact absurd q (nI_ge hg (by omega))
        · rw [comI, nI_succ] at next
          refine ⟨g, (ge L g).1, (ge L g).2.1, (ge L g).2.2.1, rfl, by omega, hE.2.1, he.1, he.2.1, hE.1, he.2.2.1, fun q2 => ?_, fun q2 => ?_⟩
          · rw [if_neg (by rw [show loopE (ge L g) = false from b2i_e0.mp q2]; decide)] at next
            exact next
          · rw [if_pos (show loopE (ge L g) = true from b2i_n0.mp q2), ← hE.2.2.2.2.2] at next
            refine ⟨inA 729 rfl rfl (by omega) (by decide), ?_⟩
            rw [nI_clamp (by omega)]
            exact next
      · refine hX [15] 90 _ _ _ _ _ ?_
        refine ⟨fun q => h, fun q => ?_⟩
        rw [hG.1] at q
        exact absurd (Int32.le_refl _) q
    refine hX [15] 90 _ _ _ _ _ ?_
    refine ⟨fun q => ?_, fun q => ?_⟩
    · rw [hG.2.1] at q
      have q : ¬ loopC L = 0 := fun z => q (by rw [z]; rfl)
      rw [comI, if_neg q] at key
      exact key
    · rw [hG.2.1] at q
      have q : loopC L = 0 := (i_eq (b := 0) rfl rfl (i31 (loopC_lt hL)) (by decide)).mp q
      rw [comI, if_pos q] at key
      exact key
  · exact h.elim
theorem shX0_callsOfEveryLoop : ∀ As f a Q, sX0_callsOfEveryLoop As f a Q → ∃ i r, As = .inr (.inr (0, i, 0)) :: r := by
  intro As f a Q h
  unfold sX0_callsOfEveryLoop at h
  split at h
  · exact ⟨_, _, rfl⟩
  · exact h.elim
theorem mX0_callsOfEveryLoop {g : Gm} (hg : GmOK g) : MetC g yX0_callsOfEveryLoop cX0_callsOfEveryLoop 3 (some .int) 3 sX0_callsOfEveryLoop := by
  refine MetC_of hg eX0_callsOfEveryLoop (eokX0_callsOfEveryLoop hg) (by decide +kernel) (fun av f a post h => ?_) rX0_callsOfEveryLoop
  unfold sX0_callsOfEveryLoop at h
  split at h
  · exact Nat.le_of_ble_eq_true rfl
  · exact h.elim
def togB (L : List Gr) (i j : Nat) : Bool := decide (i = j) || ((comeN L i).testBit j && (comeN L j).testBit i)
def sX0_isTogether : SP := fun As f a Q => match As with
  | [.inr (.inr (0, p, 0)), .inl x, .inl y] => ∃ L i j, GR (f 0 p) (a 0 p) L ∧ WL L ∧ x = nI i ∧ i < 3 ∧ y = nI j ∧ j < 3 ∧ Q (some (.inl (b2i (togB L i j)))) f a
  | _ => False
def eX0_isTogether : En := (tX0_isTogether, [], fdX0, [], 1)
theorem eokX0_isTogether {g : Gm} (hg : GmOK g) : EnvOK g 0 RX0 cX0_isTogether (some .boolean) eX0_isTogether := ⟨okX0_isTogether, (fun _ _ _ _ h => by cases h), fdX0_ok, (fun _ _ h => by cases h), rfl⟩
theorem rX0_isTogether (av : List AV) (f : FF) (a : AA) (post : PT) (h : sX0_isTogether av f a post) (X : XT) (hX : Clo eX0_isTogether post X) : X 0 (padL 3 (ent av)) [] f a := by
  unfold sX0_isTogether at h
  split at h
  · rename_i p x y
    obtain ⟨L, i, j, hG, hL, rfl, hi, rfl, hj, h⟩ := h
    have b := bit_88 _ (come_lt hL i) _ (come_lt hL j) j hj i hi
    refine hX [] 90 _ _ _ _ _ ?_
    refine ⟨fun q => ?_, fun q => ?_⟩
    · have q : i = j := (nI_eq (by omega) (by omega)).mp q
      exact pT h (by simp [togB, q])
    · have q : ¬ i = j := fun z => q (by rw [z])
      refine ⟨inA 3 rfl rfl hi (by decide), inA 3 rfl rfl hj (by decide), ?_⟩
      dsimp only
      rw [nI_clamp (show i < 2 ^ 31 by omega), nI_clamp (show j < 2 ^ 31 by omega), hG.2.2.2.2 i hi, hG.2.2.2.2 j hj]
      refine ⟨fun d => ?_, fun d => ?_⟩
      · exact pF h (by simp only [togB, b.mp d, decide_eq_false q, Bool.or_self])
      · exact pT h (by
          have : ((comeN L i).testBit j && (comeN L j).testBit i) = true := by
            cases hh : ((comeN L i).testBit j && (comeN L j).testBit i) with
            | true => rfl
            | false => exact absurd (b.mpr hh) d
          simp only [togB, this, Bool.or_true])
  · exact h.elim
theorem shX0_isTogether : ∀ As f a Q, sX0_isTogether As f a Q → ∃ i r, As = .inr (.inr (0, i, 0)) :: r := by
  intro As f a Q h
  unfold sX0_isTogether at h
  split at h
  · exact ⟨_, _, rfl⟩
  · exact h.elim
theorem mX0_isTogether {g : Gm} (hg : GmOK g) : MetC g yX0_isTogether cX0_isTogether 3 (some .boolean) 0 sX0_isTogether := by
  refine MetC_of hg eX0_isTogether (eokX0_isTogether hg) (by decide +kernel) (fun av f a post h => ?_) rX0_isTogether
  unfold sX0_isTogether at h
  split at h
  · exact Nat.le_of_ble_eq_true rfl
  · exact h.elim
def fcN (L : List Gr) (i : Nat) : Nat := (firstU (togB L i) i 0).getD i
theorem firstU_le {p : Nat → Bool} : ∀ {d i g : Nat}, firstU p d i = some g → i ≤ g ∧ g < i + d ∧ p g = true
  | 0, _, _, h => by cases h
  | d + 1, i, g, h => by
    unfold firstU at h
    split at h
    · rename_i hp
      cases h
      exact ⟨Nat.le_refl _, by omega, hp⟩
    · obtain ⟨h1, h2, h3⟩ := firstU_le h
      exact ⟨by omega, by omega, h3⟩
theorem fcN_le (L : List Gr) (i : Nat) : fcN L i ≤ i := by
  unfold fcN
  cases h : firstU (togB L i) i 0 with
  | none => exact Nat.le_refl _
  | some g => have := firstU_le h; show g ≤ i; omega
def sX0_firstOfComponent : SP := fun As f a Q => match As with
  | [.inr (.inr (0, p, 0)), .inl x] => ∃ L i, GR (f 0 p) (a 0 p) L ∧ WL L ∧ x = nI i ∧ i < 3 ∧ Q (some (.inl (nI (fcN L i)))) f a
  | _ => False
def eX0_firstOfComponent : En := (tX0_firstOfComponent, [(111, false, 3, sX0_isTogether)], fdX0, [], 0)
theorem eokX0_firstOfComponent {g : Gm} (hg : GmOK g) : EnvOK g 1 RX0 cX0_firstOfComponent (some .int) eX0_firstOfComponent := ⟨okX0_firstOfComponent, fun _ _ _ _ h => as2_all (P := fun i v => CallOK g 1 RX0 i v.1 v.2.1 v.2.2) (l := eX0_firstOfComponent.2.1) ⟨callV_ok (t := 0) hg (mX0_isTogether hg) kX0_isTogether mlX0_111 qX0_isTogether.1 qX0_isTogether.2 ⟨by decide, by decide⟩ ⟨_, _, rfl⟩ shX0_isTogether, trivial⟩ h, fdX0_ok, (fun _ _ h => by cases h), rfl⟩
theorem rX0_firstOfComponent (av : List AV) (f : FF) (a : AA) (post : PT) (h : sX0_firstOfComponent av f a post) (X : XT) (hX : Clo eX0_firstOfComponent post X) : X 0 (padL 3 (ent av)) [] f a := by
  unfold sX0_firstOfComponent at h
  split at h
  · rename_i p x
    obtain ⟨L, i, hG, hL, rfl, hi, h⟩ := h
    have key : ∀ d j, j + d = i → post (some (.inl (nI ((firstU (togB L i) d j).getD i)))) f a → X 2 [some (.inr (.inr (0, p, 0))), some (.inl (nI i)), some (.inl (nI j))] [] f a := by
      intro d
      induction d with
      | zero =>
        intro j hj h
        refine hX [2] 90 _ _ _ _ _ ?_
        exact ⟨fun q => h, fun q => absurd (nI_le (by omega) (by omega)) q⟩
      | succ d ih =>
        intro j hj h
        refine hX [2] 90 _ _ _ _ _ ?_
        refine ⟨fun q => absurd q (nI_ge (by omega) (by omega)), fun q => ?_⟩
        refine ⟨L, i, j, hG, hL, rfl, hi, rfl, by omega, fun q => ?_, fun q => ?_⟩
        · have n1 := ih (j + 1) (by omega) (by simpa [firstU, b2i_e0.mp q] using h)
          rw [nI_succ] at n1
          exact n1
        · refine pI h ?_
          simp [firstU, b2i_n0.mp q]
    refine hX [2] 90 _ _ _ _ _ ?_
    exact key i 0 (by omega) h
  · exact h.elim
theorem shX0_firstOfComponent : ∀ As f a Q, sX0_firstOfComponent As f a Q → ∃ i r, As = .inr (.inr (0, i, 0)) :: r := by
  intro As f a Q h
  unfold sX0_firstOfComponent at h
  split at h
  · exact ⟨_, _, rfl⟩
  · exact h.elim
theorem mX0_firstOfComponent {g : Gm} (hg : GmOK g) : MetC g yX0_firstOfComponent cX0_firstOfComponent 3 (some .int) 1 sX0_firstOfComponent := by
  refine MetC_of hg eX0_firstOfComponent (eokX0_firstOfComponent hg) (by decide +kernel) (fun av f a post h => ?_) rX0_firstOfComponent
  unfold sX0_firstOfComponent at h
  split at h
  · exact Nat.le_of_ble_eq_true rfl
  · exact h.elim
def cbN (L : List Gr) (n : Nat) : Nat := cnt (fun j => decide (fcN L j = j)) n
def sX0_componentsBelow : SP := fun As f a Q => match As with
  | [.inr (.inr (0, p, 0)), .inl x] => ∃ L n, GR (f 0 p) (a 0 p) L ∧ WL L ∧ x = nI n ∧ n ≤ 3 ∧ Q (some (.inl (nI (cbN L n)))) f a
  | _ => False
def eX0_componentsBelow : En := (tX0_componentsBelow, [(115, false, 2, sX0_firstOfComponent), (98, true, 1, sX4_bit)], fdX0, [], 0)
theorem eokX0_componentsBelow {g : Gm} (hg : GmOK g) : EnvOK g 2 RX0 cX0_componentsBelow (some .int) eX0_componentsBelow := ⟨okX0_componentsBelow, fun _ _ _ _ h => as2_all (P := fun i v => CallOK g 2 RX0 i v.1 v.2.1 v.2.2) (l := eX0_componentsBelow.2.1) ⟨callV_ok (t := 0) hg (mX0_firstOfComponent hg) kX0_firstOfComponent mlX0_115 qX0_firstOfComponent.1 qX0_firstOfComponent.2 ⟨by decide, by decide⟩ ⟨_, _, rfl⟩ shX0_firstOfComponent, callN_ok (host := "FallingCalls") hg (mX4_bit hg) kX4_bit (nxX0_98 hg) qX4_bit ⟨by decide, by decide⟩, trivial⟩ h, fdX0_ok, (fun _ _ h => by cases h), rfl⟩
theorem rX0_componentsBelow (av : List AV) (f : FF) (a : AA) (post : PT) (h : sX0_componentsBelow av f a post) (X : XT) (hX : Clo eX0_componentsBelow post X) : X 0 (padL 4 (ent av)) [] f a := by
  unfold sX0_componentsBelow at h
  split at h
  · rename_i p x
    obtain ⟨L, n, hG, hL, rfl, hn, h⟩ := h
    refine hX [4] 90 _ _ _ _ _ ?_
    refine forUp (Pr := fun j => X 4 [some (.inr (.inr (0, p, 0))), some (.inl (nI n)), some (.inl (nI (cbN L j))), some (.inl (nI j))] [] f a) (n := n) (fun j hj next => ?_) ?_ 0 (Nat.zero_le _)
    · have hle := fcN_le L j
      refine hX [4] 90 _ _ _ _ _ ?_
      refine ⟨fun q => absurd q (nI_ge hj (by omega)), fun q => ?_⟩
      rw [cbN, cnt_s, nI_succ] at next
      refine ⟨L, j, hG, hL, rfl, by omega, fun q => ?_, fun q => ?_⟩
      · have q : ¬ fcN L j = j := fun z => q (by rw [z])
        rw [decide_eq_false q] at next
        exact next
      · have q : fcN L j = j := (nI_eq (by omega) (by omega)).mp q
        rw [decide_eq_true q] at next
        exact next
    · refine hX [4] 90 _ _ _ _ _ ?_
      exact ⟨fun q => h, fun q => absurd (Int32.le_refl _) q⟩
  · exact h.elim
theorem shX0_componentsBelow : ∀ As f a Q, sX0_componentsBelow As f a Q → ∃ i r, As = .inr (.inr (0, i, 0)) :: r := by
  intro As f a Q h
  unfold sX0_componentsBelow at h
  split at h
  · exact ⟨_, _, rfl⟩
  · exact h.elim
theorem mX0_componentsBelow {g : Gm} (hg : GmOK g) : MetC g yX0_componentsBelow cX0_componentsBelow 4 (some .int) 2 sX0_componentsBelow := by
  refine MetC_of hg eX0_componentsBelow (eokX0_componentsBelow hg) (by decide +kernel) (fun av f a post h => ?_) rX0_componentsBelow
  unfold sX0_componentsBelow at h
  split at h
  · exact Nat.le_of_ble_eq_true rfl
  · exact h.elim
def sX0_componentOf : SP := fun As f a Q => match As with
  | [.inr (.inr (0, p, 0)), .inl x] => ∃ L i, GR (f 0 p) (a 0 p) L ∧ WL L ∧ x = nI i ∧ i < 3 ∧ Q (some (.inl (nI (cbN L (fcN L i))))) f a
  | _ => False
def eX0_componentOf : En := (tX0_componentOf, [(115, false, 2, sX0_firstOfComponent), (118, false, 2, sX0_componentsBelow)], fdX0, [], 0)
theorem eokX0_componentOf {g : Gm} (hg : GmOK g) : EnvOK g 3 RX0 cX0_componentOf (some .int) eX0_componentOf := ⟨okX0_componentOf, fun _ _ _ _ h => as2_all (P := fun i v => CallOK g 3 RX0 i v.1 v.2.1 v.2.2) (l := eX0_componentOf.2.1) ⟨callV_ok (t := 0) hg (mX0_firstOfComponent hg) kX0_firstOfComponent mlX0_115 qX0_firstOfComponent.1 qX0_firstOfComponent.2 ⟨by decide, by decide⟩ ⟨_, _, rfl⟩ shX0_firstOfComponent, callV_ok (t := 0) hg (mX0_componentsBelow hg) kX0_componentsBelow mlX0_118 qX0_componentsBelow.1 qX0_componentsBelow.2 ⟨by decide, by decide⟩ ⟨_, _, rfl⟩ shX0_componentsBelow, trivial⟩ h, fdX0_ok, (fun _ _ h => by cases h), rfl⟩
theorem rX0_componentOf (av : List AV) (f : FF) (a : AA) (post : PT) (h : sX0_componentOf av f a post) (X : XT) (hX : Clo eX0_componentOf post X) : X 0 (padL 2 (ent av)) [] f a := by
  unfold sX0_componentOf at h
  split at h
  · rename_i p x
    obtain ⟨L, i, hG, hL, rfl, hi, h⟩ := h
    have hle := fcN_le L i
    refine hX [] 90 _ _ _ _ _ ?_
    exact ⟨L, i, hG, hL, rfl, hi, L, fcN L i, hG, hL, rfl, by omega, h⟩
  · exact h.elim
theorem shX0_componentOf : ∀ As f a Q, sX0_componentOf As f a Q → ∃ i r, As = .inr (.inr (0, i, 0)) :: r := by
  intro As f a Q h
  unfold sX0_componentOf at h
  split at h
  · exact ⟨_, _, rfl⟩
  · exact h.elim
theorem mX0_componentOf {g : Gm} (hg : GmOK g) : MetC g yX0_componentOf cX0_componentOf 2 (some .int) 3 sX0_componentOf := by
  refine MetC_of hg eX0_componentOf (eokX0_componentOf hg) (by decide +kernel) (fun av f a post h => ?_) rX0_componentOf
  unfold sX0_componentOf at h
  split at h
  · exact Nat.le_of_ble_eq_true rfl
  · exact h.elim
/-- the k-th call of a word: go back from its end -/
def wordU (L : List Gr) : Nat → Nat → Nat
  | 0, g => (ge L g).2.2.2.2.1
  | d + 1, g => match (ge L g).2.2.2.1 with
    | some h => wordU L d h
    | none => (ge L g).2.2.2.2.1
def sX0_callOfWord : SP := fun As f a Q => match As with
  | [.inr (.inr (0, p, 0)), .inl x, .inl y] => ∃ L g k, GR (f 0 p) (a 0 p) L ∧ WL L ∧ x = nI g ∧ g < L.length ∧ y = nI k ∧ k < (ge L g).2.2.2.2.2.1 ∧ Q (some (.inl (nI (wordU L ((ge L g).2.2.2.2.2.1 - 1 - k) g)))) f a
  | _ => False
def eX0_callOfWord : En := (tX0_callOfWord, [], fdX0, [], 0)
theorem eokX0_callOfWord {g : Gm} (hg : GmOK g) : EnvOK g 0 RX0 cX0_callOfWord (some .int) eX0_callOfWord := ⟨okX0_callOfWord, (fun _ _ _ _ h => by cases h), fdX0_ok, (fun _ _ h => by cases h), rfl⟩
theorem rX0_callOfWord (av : List AV) (f : FF) (a : AA) (post : PT) (h : sX0_callOfWord av f a post) (X : XT) (hX : Clo eX0_callOfWord post X) : X 0 (padL 5 (ent av)) [] f a := by
  unfold sX0_callOfWord at h
  split at h
  · rename_i p x y
    obtain ⟨L, g, k, hG, hL, rfl, hg, rfl, hk, h⟩ := h
    have hlen := WL_len hL
    have he := hL.1 g hg
    have hE := hG.2.2.1 g hg
    have hw := he.2.2.2.2.2.2.2.1
    have key : ∀ d g1, g1 < L.length → (ge L g1).2.2.2.2.2.1 = k + d + 1 → post (some (.inl (nI (wordU L d g1)))) f a → X 12 [some (.inr (.inr (0, p, 0))), some (.inl (nI g)), some (.inl (nI k)), some (.inl (nI g1)), some (.inl (nI (k + d)))] [] f a := by
      intro d
      induction d with
      | zero =>
        intro g1 hg1 hw1 h
        have hE1 := hG.2.2.1 g1 hg1
        refine hX [12] 90 _ _ _ _ _ ?_
        refine ⟨fun q => ?_, fun q => absurd (Int32.le_refl _) q⟩
        refine ⟨inA 729 rfl rfl (by omega) (by decide), pI h ?_⟩
        rw [nI_clamp (by omega), hE1.2.2.2.1]
        rfl
      | succ d ih =>
        intro g1 hg1 hw1 h
        have hE1 := hG.2.2.1 g1 hg1
        have he1 := hL.1 g1 hg1
        have hw2 := he1.2.2.2.2.2.2.2.1
        refine hX [12] 90 _ _ _ _ _ ?_
        refine ⟨fun q => absurd q (nI_ge (by omega) (by omega)), fun q => ?_⟩
        refine ⟨inA 729 rfl rfl (by omega) (by decide), ?_⟩
        cases ha : (ge L g1).2.2.2.1 with
        | none =>
          have := he1.2.2.2.2.2.1 ha
          omega
        | some h1 =>
          obtain ⟨q1, q2⟩ := he1.2.2.2.2.1 h1 ha
          have n1 := ih h1 (by omega) (by omega) (by simpa [wordU, ha] using h)
          have e1 : a 0 p 7 (nI g1).toNatClampNeg = nI h1 := by
            rw [nI_clamp (by omega), hE1.2.2.1, ha]
            rfl
          have e2 : nI (k + d) = nI (k + (d + 1)) + (-1) := (pk_m1 (k + d)).symm
          rw [← e1, e2] at n1
          exact n1
    refine hX [12] 90 _ _ _ _ _ ?_
    refine ⟨inA 729 rfl rfl (by omega) (by decide), ?_⟩
    have n1 := key ((ge L g).2.2.2.2.2.1 - 1 - k) g hg (by omega) h
    have e3 : nI (k + ((ge L g).2.2.2.2.2.1 - 1 - k)) = a 0 p 1 (nI g).toNatClampNeg - 1 := by
      rw [nI_clamp (by omega), hE.2.2.2.2.1, show (1 : Int32) = nI 1 from rfl, pk_sub (by omega)]
      congr 1
      omega
    rw [e3] at n1
    exact n1
  · exact h.elim
theorem shX0_callOfWord : ∀ As f a Q, sX0_callOfWord As f a Q → ∃ i r, As = .inr (.inr (0, i, 0)) :: r := by
  intro As f a Q h
  unfold sX0_callOfWord at h
  split at h
  · exact ⟨_, _, rfl⟩
  · exact h.elim
theorem mX0_callOfWord {g : Gm} (hg : GmOK g) : MetC g yX0_callOfWord cX0_callOfWord 5 (some .int) 0 sX0_callOfWord := by
  refine MetC_of hg eX0_callOfWord (eokX0_callOfWord hg) (by decide +kernel) (fun av f a post h => ?_) rX0_callOfWord
  unfold sX0_callOfWord at h
  split at h
  · exact Nat.le_of_ble_eq_true rfl
  · exact h.elim
end
section
/-! the mathematical state of both systems, and how the system's object holds it -/
abbrev Shp : Type := Option (Nat × Nat × (Nat → Int32))
abbrev Ab : Type := Pg × List Nat × Nat × (Nat → Option Pg) × (Nat → Shp) × Nat
abbrev aP (A : Ab) : Pg := A.1
abbrev aT (A : Ab) : List Nat := A.2.1
abbrev aFt (A : Ab) : Nat := A.2.2.1
abbrev aI (A : Ab) : Nat → Option Pg := A.2.2.2.1
abbrev aS (A : Ab) : Nat → Shp := A.2.2.2.2.1
abbrev aTn (A : Ab) : Nat := A.2.2.2.2.2
def OKA (A : Ab) : Prop := WF (aP A) ∧ ((aT A).length ≤ 160 ∧ ∀ i, i < (aT A).length → (aT A).getD i 0 < 128) ∧ aFt A < 10 ∧ (∀ k, k < 2 → ∀ P, aI A k = some P → WF P) ∧ (∀ k, k < 4 → ∀ l n cs, aS A k = some (l, n, cs) → l < 3 ∧ n ≤ 40) ∧ aTn A < 10
def shC (u : Nat → Int32) (w : Nat → Nat → Int32) (s : Shp) : Prop := match s with
  | none => u 1 = -1
  | some (l, n, cs) => u 1 = nI l ∧ u 2 = nI n ∧ ∀ i, i < 40 → w 0 i = cs i
def tlC (u : Nat → Int32) (w : Nat → Nat → Int32) (T : List Nat) (ft : Nat) : Prop := u 1 = nI T.length ∧ (∀ i, i < T.length → w 0 i = nI (T.getD i 0)) ∧ u 2 = nI ft
def imC (f : FF) (a : AA) (I : Nat → Option Pg) : Prop := ∀ k, k < 2 → a 4 0 5 k = b2i (I k).isSome ∧ ∀ P, I k = some P → RC (f 1 (2 + k)) (a 1 (2 + k)) P
def stC (f : FF) (a : AA) (P : Pg) : Prop := f 4 0 7 = 1 ∨ (f 4 0 7 = 0 ∧ GC (f 0 0) (a 0 0) P)
def RepC (f : FF) (a : AA) (A : Ab) : Prop := RC (f 1 0) (a 1 0) (aP A) ∧ tlC (f 3 0) (a 3 0) (aT A) (aFt A) ∧ imC f a (aI A) ∧ (∀ k, k < 4 → shC (f 2 k) (a 2 k) (aS A k)) ∧ f 4 0 8 = nI (aTn A) ∧ stC f a (aP A) ∧ ∀ p, p < 4 → AB (a 1 p)
/-- the reference's object is as it was -/
def S5 (f : FF) (a : AA) (f' : FF) (a' : AA) : Prop := f' 5 0 = f 5 0 ∧ a' 5 0 = a 5 0
theorem S5.rf (f : FF) (a : AA) : S5 f a f a := ⟨rfl, rfl⟩
theorem S5.tr {f f' f'' : FF} {a a' a'' : AA} (h : S5 f a f' a') (h' : S5 f' a' f'' a'') : S5 f a f'' a'' := ⟨h'.1.trans h.1, h'.2.trans h.2⟩
theorem Fr.s5 {f f' : FF} {a a' : AA} {t i : Nat} (h : Fr f a f' a' t i) (ht : t ≠ 5) : S5 f a f' a' := h 5 0 (fun q => ht q.1.symm)
/-- an answer by a number -/
def selI (x : Int32) (l : List Int32) (d : Int32) : Int32 := if 0 ≤ x.toInt ∧ x.toInt < (l.length : Int) then l.getD x.toInt.toNat d else d
theorem selI_in {x : Int32} {l : List Int32} {d : Int32} (k : Nat) (h : x.toInt = (k : Int)) (hk : k < l.length) : selI x l d = l.getD k d := by
  unfold selI
  rw [h, if_pos (by omega)]
  rfl
theorem selI_out {x : Int32} {l : List Int32} {d : Int32} (h : x.toInt < 0 ∨ (l.length : Int) ≤ x.toInt) : selI x l d = d := by
  unfold selI
  rw [if_neg (by omega)]
/-! fresh, trialEnds -/
def sX4_fresh : SP := fun As f a Q => match As with
  | [.inr (.inr (4, 0, 0))] => ∃ A, RepC f a A ∧ OKA A ∧ ∀ f' a', RepC f' a' A → GC (f' 0 0) (a' 0 0) (aP A) → S5 f a f' a' → Q (some (.inr (.inr (0, 0, 0)))) f' a'
  | _ => False
def eX4_fresh : En := (tX4_fresh, [(282, false, 3, sX0_close)], fdX4, [], 3)
theorem eokX4_fresh {g : Gm} (hg : GmOK g) : EnvOK g 5 RX4 cX4_fresh (some (.object "FallingCalls$Graphs")) eX4_fresh := ⟨okX4_fresh, fun _ _ _ _ h => as2_all (P := fun i v => CallOK g 5 RX4 i v.1 v.2.1 v.2.2) (l := eX4_fresh.2.1) ⟨callV_ok (t := 0) hg (mX0_close hg) kX0_close mlX4_282 qX0_close.1 qX0_close.2 ⟨by decide, by decide⟩ ⟨_, _, rfl⟩ shX0_close, trivial⟩ h, fdX4_ok, (fun _ _ h => by cases h), ⟨_, rfl⟩⟩
theorem RepC.gc {f f' : FF} {a a' : AA} {A : Ab} (h : RepC f a A) (hF : Fr f a f' a' 0 0) (h0 : f 4 0 7 = 0 ∨ True) (hG : GC (f' 0 0) (a' 0 0) (aP A)) : RepC (upf f' 4 0 7 0) a' A := by
  have e : ∀ t i, t ≠ 0 → t ≠ 4 → upf f' 4 0 7 0 t i = f t i ∧ a' t i = a t i := fun t i h0 h4 => ⟨by rw [upf_o _ _ (fun q => h4 q.1)]; exact (hF t i (fun q => h0 q.1)).1, (hF t i (fun q => h0 q.1)).2⟩
  refine ⟨?_, ?_, ?_, ?_, ?_, ?_, fun p hp => by rw [(e 1 p (by decide) (by decide)).2]; exact h.2.2.2.2.2.2 p hp⟩
  · rw [(e 1 0 (by decide) (by decide)).1, (e 1 0 (by decide) (by decide)).2]; exact h.1
  · rw [(e 3 0 (by decide) (by decide)).1, (e 3 0 (by decide) (by decide)).2]; exact h.2.1
  · intro k hk
    rw [(hF 4 0 (by decide)).2, (e 1 (2 + k) (by decide) (by decide)).1, (e 1 (2 + k) (by decide) (by decide)).2]
    exact h.2.2.1 k hk
  · intro k hk
    rw [(e 2 k (by decide) (by decide)).1, (e 2 k (by decide) (by decide)).2]
    exact h.2.2.2.1 k hk
  · rw [upf_s, if_neg (by decide), (hF 4 0 (by decide)).1]; exact h.2.2.2.2.1
  · refine Or.inr ⟨by rw [upf_s, if_pos rfl], ?_⟩
    rw [upf_o _ _ (by decide)]
    exact hG
theorem rX4_fresh (av : List AV) (f : FF) (a : AA) (post : PT) (h : sX4_fresh av f a post) (X : XT) (hX : Clo eX4_fresh post X) : X 0 (padL 1 (ent av)) [] f a := by
  unfold sX4_fresh at h
  split at h
  · obtain ⟨A, hA, hO, h⟩ := h
    refine hX [] 90 _ _ _ _ _ ?_
    refine ⟨fun q => ?_, fun q => ?_⟩
    · refine h f a hA ?_ (S5.rf f a)
      rcases hA.2.2.2.2.2.1 with z | z
      · rw [q] at z
        exact absurd z (by decide)
      · exact z.2
    · refine ⟨aP A, hA.1, hO.1, Or.inl rfl, fun f1 a1 hF hG _ => ?_⟩
      have hG := hG rfl
      refine ⟨Or.inl rfl, ?_⟩
      have e7 : upf f1 4 0 7 0 0 0 = f1 0 0 := upf_o _ _ (by decide)
      refine h _ _ (hA.gc hF (Or.inr trivial) hG) (by rw [e7]; exact hG) ?_
      have := hF.s5 (by decide)
      exact ⟨by rw [upf_o _ _ (by decide)]; exact this.1, this.2⟩
  · exact h.elim
theorem shX4_fresh : ∀ As f a Q, sX4_fresh As f a Q → ∃ i r, As = .inr (.inr (4, i, 0)) :: r := by
  intro As f a Q h
  unfold sX4_fresh at h
  split at h
  · exact ⟨_, _, rfl⟩
  · exact h.elim
theorem mX4_fresh {g : Gm} (hg : GmOK g) : MetC g yX4_fresh cX4_fresh 1 (some (.object "FallingCalls$Graphs")) 5 sX4_fresh := by
  refine MetC_of hg eX4_fresh (eokX4_fresh hg) (by decide +kernel) (fun av f a post h => ?_) rX4_fresh
  unfold sX4_fresh at h
  split at h
  · exact Nat.le_of_ble_eq_true rfl
  · exact h.elim
def sX4_trialEnds : SP := fun As f a Q => match As with
  | [.inr (.inr (4, 0, 0))] => ∃ P, RC (f 1 1) (a 1 1) P ∧ WF P ∧ ∀ f' a', (∀ t i, t ≠ 0 → t ≠ 4 → f' t i = f t i ∧ a' t i = a t i) → (∀ k, k ≠ 7 → f' 4 0 k = f 4 0 k) → a' 4 0 = a 4 0 → f' 4 0 7 = 1 → Q (some (.inl (b2i (decide (loopC (clo P) = 0))))) f' a'
  | _ => False
def eX4_trialEnds : En := (tX4_trialEnds, [(282, false, 3, sX0_close)], fdX4, [], 1)
theorem eokX4_trialEnds {g : Gm} (hg : GmOK g) : EnvOK g 5 RX4 cX4_trialEnds (some .boolean) eX4_trialEnds := ⟨okX4_trialEnds, fun _ _ _ _ h => as2_all (P := fun i v => CallOK g 5 RX4 i v.1 v.2.1 v.2.2) (l := eX4_trialEnds.2.1) ⟨callV_ok (t := 0) hg (mX0_close hg) kX0_close mlX4_282 qX0_close.1 qX0_close.2 ⟨by decide, by decide⟩ ⟨_, _, rfl⟩ shX0_close, trivial⟩ h, fdX4_ok, (fun _ _ h => by cases h), rfl⟩
theorem rX4_trialEnds (av : List AV) (f : FF) (a : AA) (post : PT) (h : sX4_trialEnds av f a post) (X : XT) (hX : Clo eX4_trialEnds post X) : X 0 (padL 1 (ent av)) [] f a := by
  unfold sX4_trialEnds at h
  split at h
  · obtain ⟨P, hR, hW, h⟩ := h
    refine hX [] 90 _ _ _ _ _ ?_
    refine ⟨Or.inr rfl, P, by rw [upf_o _ _ (by decide)]; exact hR, hW, Or.inr rfl, fun f1 a1 hF _ hG => ?_⟩
    have hG := hG rfl
    have h4 := hF 4 0 (by decide)
    have K := h f1 a1 (fun t i h0 h4 => by
      have := hF t i (fun q => h0 q.1)
      rw [upf_o _ _ (fun q => h4 q.1)] at this
      exact this) (fun k hk => by rw [h4.1, upf_s, if_neg hk]) h4.2 (by rw [h4.1, upf_s, if_pos rfl])
    refine ⟨fun q => ?_, fun q => ?_⟩
    · exact pF K (decide_eq_false (fun z => q (hG.mpr z)))
    · exact pT K (decide_eq_true (hG.mp q))
  · exact h.elim
theorem shX4_trialEnds : ∀ As f a Q, sX4_trialEnds As f a Q → ∃ i r, As = .inr (.inr (4, i, 0)) :: r := by
  intro As f a Q h
  unfold sX4_trialEnds at h
  split at h
  · exact ⟨_, _, rfl⟩
  · exact h.elim
theorem mX4_trialEnds {g : Gm} (hg : GmOK g) : MetC g yX4_trialEnds cX4_trialEnds 1 (some .boolean) 5 sX4_trialEnds := by
  refine MetC_of hg eX4_trialEnds (eokX4_trialEnds hg) (by decide +kernel) (fun av f a post h => ?_) rX4_trialEnds
  unfold sX4_trialEnds at h
  split at h
  · exact Nat.le_of_ble_eq_true rfl
  · exact h.elim
end
section
/-! the system's questions -/
theorem sw {x : Int32} {k : Nat} (h : x.toInt = (0 : Int) + (k : Int)) : x.toInt = (k : Int) := by rw [h]; omega
theorem funx {A : Ab} (hO : OKA A) {f : FF} {a : AA} (hA : RepC f a A) {x : Int32} (h : ¬ b2i (decide (0 ≤ x ∧ x < f 1 0 4)) = 0) : ∃ i, x = nI i ∧ i < (aP A).1.length ∧ i < 3 := by
  have h := of_decide_eq_true (b2i_n0.mp h)
  rw [hA.1.1] at h
  obtain ⟨i, hi, rfl⟩ := ge0 (Int32.not_lt.mpr h.1)
  have := hO.1.l3
  have := (nI_ltI hi (by omega)).mp h.2
  exact ⟨i, rfl, this, by omega⟩
/-- whether there is such a function, call, graph -/
def isF (A : Ab) (x : Int32) : Bool := decide (0 ≤ x ∧ x < nI (aP A).1.length)
def isC (A : Ab) (x : Int32) : Bool := decide (0 ≤ x ∧ x < nI (aP A).2.length)
def isG (A : Ab) (x : Int32) : Bool := decide (0 ≤ x ∧ x < nI (clo (aP A)).length)
theorem isF_i {A : Ab} (hO : OKA A) {x : Int32} (h : isF A x = true) : ∃ i, x = nI i ∧ i < (aP A).1.length ∧ i < 3 := by
  have h := of_decide_eq_true h
  obtain ⟨i, hi, rfl⟩ := ge0 (Int32.not_lt.mpr h.1)
  have := hO.1.l3
  have := (nI_ltI hi (by omega)).mp h.2
  exact ⟨i, rfl, this, by omega⟩
theorem isC_i {A : Ab} (hO : OKA A) {x : Int32} (h : isC A x = true) : ∃ i, x = nI i ∧ i < (aP A).2.length ∧ i < 12 := by
  have h := of_decide_eq_true h
  obtain ⟨i, hi, rfl⟩ := ge0 (Int32.not_lt.mpr h.1)
  have := hO.1.l12
  have := (nI_ltI hi (by omega)).mp h.2
  exact ⟨i, rfl, this, by omega⟩
theorem clo_w {A : Ab} (hO : OKA A) : WL (clo (aP A)) := clo_ok (okK_P hO.1)
theorem isG_i {A : Ab} (hO : OKA A) {x : Int32} (h : isG A x = true) : ∃ i, x = nI i ∧ i < (clo (aP A)).length ∧ i < 729 := by
  have h := of_decide_eq_true h
  obtain ⟨i, hi, rfl⟩ := ge0 (Int32.not_lt.mpr h.1)
  have := WL_len (clo_w hO)
  have := (nI_ltI hi (by omega)).mp h.2
  exact ⟨i, rfl, this, by omega⟩
def anRule (A : Ab) (x : Int32) : Int32 := selI x [nI (aP A).1.length, nI (aP A).2.length, nI (clo (aP A)).length, nI (cnt (fun g => idleK (ge (clo (aP A)) g).1 (ge (clo (aP A)) g).2.1 (ge (clo (aP A)) g).2.2.1) (clo (aP A)).length), nI (loopC (clo (aP A))), b2i (decide (loopC (clo (aP A)) = 0)), nI (cbN (clo (aP A)) (aP A).1.length), nI (cnt (fun g => !needB (clo (aP A)) g) (clo (aP A)).length)] (-1)
def sX4_rule : SP := fun As f a Q => match As with
  | [.inr (.inr (4, 0, 0)), .inl x] => ∃ A, RepC f a A ∧ OKA A ∧ ∀ f' a', RepC f' a' A → S5 f a f' a' → Q (some (.inl (anRule A x))) f' a'
  | _ => False
def eX4_rule : En := (tX4_rule, [(83, false, 1, sX4_fresh), (90, false, 1, sX0_idleOnes), (97, true, 1, sX4_bit), (101, false, 2, sX0_componentsBelow), (105, false, 1, sX0_neededOnes)], fdX4, [], 0)
theorem eokX4_rule {g : Gm} (hg : GmOK g) : EnvOK g 6 RX4 cX4_rule (some .int) eX4_rule := ⟨okX4_rule, fun _ _ _ _ h => as2_all (P := fun i v => CallOK g 6 RX4 i v.1 v.2.1 v.2.2) (l := eX4_rule.2.1) ⟨callV_ok (t := 4) hg (mX4_fresh hg) kX4_fresh mlX4_83 qX4_fresh.1 qX4_fresh.2 ⟨by decide, by decide⟩ ⟨_, _, rfl⟩ shX4_fresh, callV_ok (t := 0) hg (mX0_idleOnes hg) kX0_idleOnes mlX4_90 qX0_idleOnes.1 qX0_idleOnes.2 ⟨by decide, by decide⟩ ⟨_, _, rfl⟩ shX0_idleOnes, callS_ok hg (mX4_bit hg) kX4_bit mlX4_97 qX4_bit ⟨by decide, by decide⟩, callV_ok (t := 0) hg (mX0_componentsBelow hg) kX0_componentsBelow mlX4_101 qX0_componentsBelow.1 qX0_componentsBelow.2 ⟨by decide, by decide⟩ ⟨_, _, rfl⟩ shX0_componentsBelow, callV_ok (t := 0) hg (mX0_neededOnes hg) kX0_neededOnes mlX4_105 qX0_neededOnes.1 qX0_neededOnes.2 ⟨by decide, by decide⟩ ⟨_, _, rfl⟩ shX0_neededOnes, trivial⟩ h, fdX4_ok, (fun _ _ h => by cases h), rfl⟩
theorem rX4_rule (av : List AV) (f : FF) (a : AA) (post : PT) (h : sX4_rule av f a post) (X : XT) (hX : Clo eX4_rule post X) : X 0 (padL 2 (ent av)) [] f a := by
  unfold sX4_rule at h
  split at h
  · rename_i x
    obtain ⟨A, hA, hO, h⟩ := h
    have hw := clo_w hO
    have h3 := hO.1.l3
    unfold anRule at h
    refine hX [] 90 _ _ _ _ _ ?_
    refine ⟨⟨fun q => ?_, fun q => ?_, fun q => ?_, fun q => ?_, fun q => ?_, fun q => ?_, fun q => ?_, fun q => ?_, trivial⟩, fun q => ?_⟩
    · rw [selI_in 0 (sw q) (Nat.le_of_ble_eq_true rfl)] at h
      exact pI (h f a hA (S5.rf f a)) hA.1.1.symm
    · rw [selI_in 1 (sw q) (Nat.le_of_ble_eq_true rfl)] at h
      exact pI (h f a hA (S5.rf f a)) hA.1.2.1.symm
    · rw [selI_in 2 (sw q) (Nat.le_of_ble_eq_true rfl)] at h
      exact ⟨A, hA, hO, fun f1 a1 hA1 hG hS => pI (h f1 a1 hA1 hS) hG.1.1.symm⟩
    · rw [selI_in 3 (sw q) (Nat.le_of_ble_eq_true rfl)] at h
      exact ⟨A, hA, hO, fun f1 a1 hA1 hG hS => ⟨_, hG.1, hw, h f1 a1 hA1 hS⟩⟩
    · rw [selI_in 4 (sw q) (Nat.le_of_ble_eq_true rfl)] at h
      exact ⟨A, hA, hO, fun f1 a1 hA1 hG hS => pI (h f1 a1 hA1 hS) hG.1.2.1.symm⟩
    · rw [selI_in 5 (sw q) (Nat.le_of_ble_eq_true rfl)] at h
      refine ⟨A, hA, hO, fun f1 a1 hA1 hG hS => ⟨fun d => ?_, fun d => ?_⟩⟩
      · rw [hG.1.2.1] at d
        exact pI (h f1 a1 hA1 hS) (b2i_f (decide_eq_false (fun z => d (by rw [z]; rfl))))
      · rw [hG.1.2.1] at d
        exact pI (h f1 a1 hA1 hS) (b2i_t (decide_eq_true ((i_eq (b := 0) rfl rfl (i31 (loopC_lt hw)) (by decide)).mp d)))
    · rw [selI_in 6 (sw q) (Nat.le_of_ble_eq_true rfl)] at h
      exact ⟨A, hA, hO, fun f1 a1 hA1 hG hS => ⟨_, (aP A).1.length, hG.1, hw, hA1.1.1, h3, h f1 a1 hA1 hS⟩⟩
    · rw [selI_in 7 (sw q) (Nat.le_of_ble_eq_true rfl)] at h
      exact ⟨A, hA, hO, fun f1 a1 hA1 hG hS => ⟨_, hG.1, hw, h f1 a1 hA1 hS⟩⟩
    · rw [selI_out (q.imp id (fun z => by simp only [List.length_cons, List.length_nil]; omega))] at h
      exact h f a hA (S5.rf f a)
  · exact h.elim
theorem shX4_rule : ∀ As f a Q, sX4_rule As f a Q → ∃ i r, As = .inr (.inr (4, i, 0)) :: r := by
  intro As f a Q h
  unfold sX4_rule at h
  split at h
  · exact ⟨_, _, rfl⟩
  · exact h.elim
theorem mX4_rule {g : Gm} (hg : GmOK g) : MetC g yX4_rule cX4_rule 2 (some .int) 6 sX4_rule := by
  refine MetC_of hg eX4_rule (eokX4_rule hg) (by decide +kernel) (fun av f a post h => ?_) rX4_rule
  unfold sX4_rule at h
  split at h
  · exact Nat.le_of_ble_eq_true rfl
  · exact h.elim
def oN (r : Option Nat) : Int32 := match r with
  | none => -4
  | some g => nI g
theorem oN_i {r : Option Nat} (hr : ∀ g, r = some g → g < 1000) : (if fI r < 0 then -4 else fI r) = oN r := by
  cases r with
  | none => rfl
  | some g => exact if_neg (nI_pos (by have := hr g rfl; omega))
def anFun (A : Ab) (x w : Int32) : Int32 := if isF A x then selI w [nI (ar (aP A) x.toNatClampNeg), nI (cnt (fun c => decide (fr (aP A) c = x.toNatClampNeg)) (aP A).2.length), nI (cbN (clo (aP A)) (fcN (clo (aP A)) x.toNatClampNeg)), b2i (firstU (loopOfB (clo (aP A)) x.toNatClampNeg) (clo (aP A)).length 0).isNone, nI (comeN (clo (aP A)) x.toNatClampNeg)] (-1) else -1
def sX4_fun : SP := fun As f a Q => match As with
  | [.inr (.inr (4, 0, 0)), .inl x, .inl w] => ∃ A, RepC f a A ∧ OKA A ∧ ∀ f' a', RepC f' a' A → S5 f a f' a' → Q (some (.inl (anFun A x w))) f' a'
  | _ => False
def eX4_fun : En := (tX4_fun, [(108, false, 2, sX1_hasFunction), (116, false, 2, sX1_callsFrom), (83, false, 1, sX4_fresh), (119, false, 2, sX0_componentOf), (122, false, 2, sX0_firstLoopOf), (97, true, 1, sX4_bit)], fdX4, [], 0)
theorem eokX4_fun {g : Gm} (hg : GmOK g) : EnvOK g 6 RX4 cX4_fun (some .int) eX4_fun := ⟨okX4_fun, fun _ _ _ _ h => as2_all (P := fun i v => CallOK g 6 RX4 i v.1 v.2.1 v.2.2) (l := eX4_fun.2.1) ⟨callV_ok (t := 1) hg (mX1_hasFunction hg) kX1_hasFunction mlX4_108 qX1_hasFunction.1 qX1_hasFunction.2 ⟨by decide, by decide⟩ ⟨_, _, rfl⟩ shX1_hasFunction, callV_ok (t := 1) hg (mX1_callsFrom hg) kX1_callsFrom mlX4_116 qX1_callsFrom.1 qX1_callsFrom.2 ⟨by decide, by decide⟩ ⟨_, _, rfl⟩ shX1_callsFrom, callV_ok (t := 4) hg (mX4_fresh hg) kX4_fresh mlX4_83 qX4_fresh.1 qX4_fresh.2 ⟨by decide, by decide⟩ ⟨_, _, rfl⟩ shX4_fresh, callV_ok (t := 0) hg (mX0_componentOf hg) kX0_componentOf mlX4_119 qX0_componentOf.1 qX0_componentOf.2 ⟨by decide, by decide⟩ ⟨_, _, rfl⟩ shX0_componentOf, callV_ok (t := 0) hg (mX0_firstLoopOf hg) kX0_firstLoopOf mlX4_122 qX0_firstLoopOf.1 qX0_firstLoopOf.2 ⟨by decide, by decide⟩ ⟨_, _, rfl⟩ shX0_firstLoopOf, callS_ok hg (mX4_bit hg) kX4_bit mlX4_97 qX4_bit ⟨by decide, by decide⟩, trivial⟩ h, fdX4_ok, (fun _ _ h => by cases h), rfl⟩
theorem fI_none {r : Option Nat} (hr : ∀ g, r = some g → g < 1000) : (0 ≤ fI r ↔ r.isNone = false) := by
  cases r with
  | none => exact ⟨fun h => absurd h (by decide), fun h => by cases h⟩
  | some g => exact ⟨fun _ => rfl, fun _ => nI_pos' (by have := hr g rfl; omega)⟩
theorem first_lt {p : Nat → Bool} {n : Nat} (hn : n < 1000) : ∀ g, firstU p n 0 = some g → g < 1000 := fun g hg => by have := firstU_le hg; omega
theorem rX4_fun (av : List AV) (f : FF) (a : AA) (post : PT) (h : sX4_fun av f a post) (X : XT) (hX : Clo eX4_fun post X) : X 0 (padL 3 (ent av)) [] f a := by
  unfold sX4_fun at h
  split at h
  · rename_i x w
    obtain ⟨A, hA, hO, h⟩ := h
    have hw := clo_w hO
    have hlen := WL_len hw
    unfold anFun at h
    refine hX [] 90 _ _ _ _ _ ?_
    have eF : b2i (decide (0 ≤ x ∧ x < f 1 0 4)) = b2i (isF A x) := by rw [hA.1.1]; rfl
    refine ⟨fun d => ?_, fun d => ?_⟩
    · rw [eF] at d
      have d := b2i_n0.mp d
      rw [if_pos d] at h
      obtain ⟨i, rfl, hi, hi3⟩ := isF_i hO d
      rw [nI_clamp (show i < 2 ^ 31 by omega)] at h
      refine ⟨⟨fun q => ?_, fun q => ?_, fun q => ?_, fun q => ?_, fun q => ?_, trivial⟩, fun q => ?_⟩
      · rw [selI_in 0 (sw q) (Nat.le_of_ble_eq_true rfl)] at h
        exact ⟨inA 3 rfl rfl hi3 (by decide), pI (h f a hA (S5.rf f a)) (hA.1.ar_i hO.1 hi).symm⟩
      · rw [selI_in 1 (sw q) (Nat.le_of_ble_eq_true rfl)] at h
        exact ⟨aP A, i, hA.1, hO.1, rfl, hi3, h f a hA (S5.rf f a)⟩
      · rw [selI_in 2 (sw q) (Nat.le_of_ble_eq_true rfl)] at h
        exact ⟨A, hA, hO, fun f1 a1 hA1 hG hS => ⟨_, i, hG.1, hw, rfl, hi3, h f1 a1 hA1 hS⟩⟩
      · rw [selI_in 3 (sw q) (Nat.le_of_ble_eq_true rfl)] at h
        have hf := fI_none (first_lt (p := loopOfB (clo (aP A)) i) (n := (clo (aP A)).length) (by omega))
        refine ⟨A, hA, hO, fun f1 a1 hA1 hG hS => ⟨_, i, hG.1, hw, rfl, hi3, fun d => ?_, fun d => ?_⟩⟩
        · exact pI (h f1 a1 hA1 hS) (b2i_f (hf.mp d))
        · refine pI (h f1 a1 hA1 hS) (b2i_t ?_)
          cases hh : (firstU (loopOfB (clo (aP A)) i) (clo (aP A)).length 0).isNone with
          | true => rfl
          | false => exact absurd (hf.mpr hh) d
      · rw [selI_in 4 (sw q) (Nat.le_of_ble_eq_true rfl)] at h
        refine ⟨A, hA, hO, fun f1 a1 hA1 hG hS => ⟨inA 3 rfl rfl hi3 (by decide), pI (h f1 a1 hA1 hS) ?_⟩⟩
        rw [nI_clamp (by omega)]
        exact (hG.1.2.2.2.2 i hi3).symm
      · rw [selI_out (q.imp id (fun z => by simp only [List.length_cons, List.length_nil]; omega))] at h
        exact h f a hA (S5.rf f a)
    · rw [eF] at d
      rw [if_neg (by rw [b2i_e0.mp d]; decide)] at h
      exact h f a hA (S5.rf f a)
  · exact h.elim
theorem shX4_fun : ∀ As f a Q, sX4_fun As f a Q → ∃ i r, As = .inr (.inr (4, i, 0)) :: r := by
  intro As f a Q h
  unfold sX4_fun at h
  split at h
  · exact ⟨_, _, rfl⟩
  · exact h.elim
theorem mX4_fun {g : Gm} (hg : GmOK g) : MetC g yX4_fun cX4_fun 3 (some .int) 6 sX4_fun := by
  refine MetC_of hg eX4_fun (eokX4_fun hg) (by decide +kernel) (fun av f a post h => ?_) rX4_fun
  unfold sX4_fun at h
  split at h
  · exact Nat.le_of_ble_eq_true rfl
  · exact h.elim
def anCall (A : Ab) (x w : Int32) : Int32 := if isC A x then selI w [nI (fr (aP A) x.toNatClampNeg), nI (to (aP A) x.toNatClampNeg), nI (codeN (aP A) x.toNatClampNeg), oN (fnd (clo (aP A)) (kpl (aP A) x.toNatClampNeg))] (-1) else -1
def sX4_call : SP := fun As f a Q => match As with
  | [.inr (.inr (4, 0, 0)), .inl x, .inl w] => ∃ A, RepC f a A ∧ OKA A ∧ ∀ f' a', RepC f' a' A → S5 f a f' a' → Q (some (.inl (anCall A x w))) f' a'
  | _ => False
def eX4_call : En := (tX4_call, [(128, false, 2, sX1_hasCall), (137, false, 2, sX1_bitsOf), (140, true, 1, sX0_codeOf), (83, false, 1, sX4_fresh)], fdX4, [], 0)
theorem eokX4_call {g : Gm} (hg : GmOK g) : EnvOK g 6 RX4 cX4_call (some .int) eX4_call := ⟨okX4_call, fun _ _ _ _ h => as2_all (P := fun i v => CallOK g 6 RX4 i v.1 v.2.1 v.2.2) (l := eX4_call.2.1) ⟨callV_ok (t := 1) hg (mX1_hasCall hg) kX1_hasCall mlX4_128 qX1_hasCall.1 qX1_hasCall.2 ⟨by decide, by decide⟩ ⟨_, _, rfl⟩ shX1_hasCall, callV_ok (t := 1) hg (mX1_bitsOf hg) kX1_bitsOf mlX4_137 qX1_bitsOf.1 qX1_bitsOf.2 ⟨by decide, by decide⟩ ⟨_, _, rfl⟩ shX1_bitsOf, callS_ok hg (mX0_codeOf hg) kX0_codeOf mlX4_140 qX0_codeOf ⟨by decide, by decide⟩, callV_ok (t := 4) hg (mX4_fresh hg) kX4_fresh mlX4_83 qX4_fresh.1 qX4_fresh.2 ⟨by decide, by decide⟩ ⟨_, _, rfl⟩ shX4_fresh, trivial⟩ h, fdX4_ok, (fun _ _ h => by cases h), rfl⟩
theorem rX4_call (av : List AV) (f : FF) (a : AA) (post : PT) (h : sX4_call av f a post) (X : XT) (hX : Clo eX4_call post X) : X 0 (padL 3 (ent av)) [] f a := by
  unfold sX4_call at h
  split at h
  · rename_i x w
    obtain ⟨A, hA, hO, h⟩ := h
    have hw := clo_w hO
    unfold anCall at h
    refine hX [] 90 _ _ _ _ _ ?_
    have eF : b2i (decide (0 ≤ x ∧ x < f 1 0 5)) = b2i (isC A x) := by rw [hA.1.2.1]; rfl
    refine ⟨fun d => ?_, fun d => ?_⟩
    · rw [eF] at d
      have d := b2i_n0.mp d
      rw [if_pos d] at h
      obtain ⟨i, rfl, hi, hi3⟩ := isC_i hO d
      rw [nI_clamp (show i < 2 ^ 31 by omega)] at h
      refine ⟨⟨fun q => ?_, fun q => ?_, fun q => ?_, fun q => ?_, trivial⟩, fun q => ?_⟩
      · rw [selI_in 0 (sw q) (Nat.le_of_ble_eq_true rfl)] at h
        exact ⟨inA 12 rfl rfl hi3 (by decide), pI (h f a hA (S5.rf f a)) (hA.1.fr_i hO.1 hi).symm⟩
      · rw [selI_in 1 (sw q) (Nat.le_of_ble_eq_true rfl)] at h
        exact ⟨inA 12 rfl rfl hi3 (by decide), pI (h f a hA (S5.rf f a)) (hA.1.to_i hO.1 hi).symm⟩
      · rw [selI_in 2 (sw q) (Nat.le_of_ble_eq_true rfl)] at h
        exact ⟨aP A, i, hA.1, hO.1, rfl, hi, codeN (aP A) i, codeN_lt _ _, rfl, h f a hA (S5.rf f a)⟩
      · rw [selI_in 3 (sw q) (Nat.le_of_ble_eq_true rfl)] at h
        refine ⟨A, hA, hO, fun f1 a1 hA1 hG hS => ⟨inA 12 rfl rfl hi3 (by decide), pI (h f1 a1 hA1 hS) ?_⟩⟩
        obtain ⟨g, h1, h2⟩ := hG.2 i hi
        rw [nI_clamp (by omega), h2, h1]
        rfl
      · rw [selI_out (q.imp id (fun z => by simp only [List.length_cons, List.length_nil]; omega))] at h
        exact h f a hA (S5.rf f a)
    · rw [eF] at d
      rw [if_neg (by rw [b2i_e0.mp d]; decide)] at h
      exact h f a hA (S5.rf f a)
  · exact h.elim
theorem shX4_call : ∀ As f a Q, sX4_call As f a Q → ∃ i r, As = .inr (.inr (4, i, 0)) :: r := by
  intro As f a Q h
  unfold sX4_call at h
  split at h
  · exact ⟨_, _, rfl⟩
  · exact h.elim
theorem mX4_call {g : Gm} (hg : GmOK g) : MetC g yX4_call cX4_call 3 (some .int) 6 sX4_call := by
  refine MetC_of hg eX4_call (eokX4_call hg) (by decide +kernel) (fun av f a post h => ?_) rX4_call
  unfold sX4_call at h
  split at h
  · exact Nat.le_of_ble_eq_true rfl
  · exact h.elim
def anArg (A : Ab) (x k w : Int32) : Int32 := if hasA (aP A) x k then selI w [nI (ag (aP A) x.toNatClampNeg k.toNatClampNeg / 100), (if ag (aP A) x.toNatClampNeg k.toNatClampNeg / 100 = 0 ∨ ag (aP A) x.toNatClampNeg k.toNatClampNeg / 100 = 4 then -4 else nI (ag (aP A) x.toNatClampNeg k.toNatClampNeg / 10 % 10)), nI (ag (aP A) x.toNatClampNeg k.toNatClampNeg % 10)] (-1) else -1
def sX4_argument : SP := fun As f a Q => match As with
  | [.inr (.inr (4, 0, 0)), .inl x, .inl k, .inl w] => ∃ A, RepC f a A ∧ OKA A ∧ ∀ f' a', RepC f' a' A → S5 f a f' a' → Q (some (.inl (anArg A x k w))) f' a'
  | _ => False
def eX4_argument : En := (tX4_argument, [(146, false, 3, sX1_hasArgument), (150, false, 3, sX1_argumentAt), (154, true, 1, sX4_kindOf), (157, true, 1, sX4_valueOf), (160, true, 1, sX4_numberOf)], fdX4, [], 0)
theorem eokX4_argument {g : Gm} (hg : GmOK g) : EnvOK g 2 RX4 cX4_argument (some .int) eX4_argument := ⟨okX4_argument, fun _ _ _ _ h => as2_all (P := fun i v => CallOK g 2 RX4 i v.1 v.2.1 v.2.2) (l := eX4_argument.2.1) ⟨callV_ok (t := 1) hg (mX1_hasArgument hg) kX1_hasArgument mlX4_146 qX1_hasArgument.1 qX1_hasArgument.2 ⟨by decide, by decide⟩ ⟨_, _, rfl⟩ shX1_hasArgument, callV_ok (t := 1) hg (mX1_argumentAt hg) kX1_argumentAt mlX4_150 qX1_argumentAt.1 qX1_argumentAt.2 ⟨by decide, by decide⟩ ⟨_, _, rfl⟩ shX1_argumentAt, callS_ok hg (mX4_kindOf hg) kX4_kindOf mlX4_154 qX4_kindOf ⟨by decide, by decide⟩, callS_ok hg (mX4_valueOf hg) kX4_valueOf mlX4_157 qX4_valueOf ⟨by decide, by decide⟩, callS_ok hg (mX4_numberOf hg) kX4_numberOf mlX4_160 qX4_numberOf ⟨by decide, by decide⟩, trivial⟩ h, fdX4_ok, (fun _ _ h => by cases h), rfl⟩
theorem rX4_argument (av : List AV) (f : FF) (a : AA) (post : PT) (h : sX4_argument av f a post) (X : XT) (hX : Clo eX4_argument post X) : X 0 (padL 6 (ent av)) [] f a := by
  unfold sX4_argument at h
  split at h
  · rename_i x k w
    obtain ⟨A, hA, hO, h⟩ := h
    have h := h f a hA (S5.rf f a)
    have h12 := hO.1.l12
    unfold anArg at h
    refine hX [] 90 _ _ _ _ _ ?_
    refine ⟨aP A, hA.1, hO.1, fun d => ?_, fun d => ?_⟩
    · have d := b2i_n0.mp d
      rw [if_pos d] at h
      obtain ⟨n, m, rfl, hn, rfl, hm⟩ := hasA_spec hO.1 d
      have hat := hO.1.ar_to hn
      rw [nI_clamp (show n < 2 ^ 31 by omega), nI_clamp (show m < 2 ^ 31 by omega)] at h
      have hag := hO.1.ag_lt (k := m) hn
      have e0 := hA.1.arg hn (show m < 2 by omega)
      refine ⟨n, m, rfl, rfl, by omega, ag (aP A) n m, by omega, e0, ⟨fun q => ?_, fun q => ?_, fun q => ?_, trivial⟩, fun q => ?_⟩
      · rw [selI_in 0 (sw q) (Nat.le_of_ble_eq_true rfl)] at h
        exact h
      · rw [selI_in 1 (sw q) (Nat.le_of_ble_eq_true rfl)] at h
        refine ⟨fun d => ?_, fun d => ⟨fun d2 => ?_, fun d2 => ?_⟩⟩
        · have d := (i_eq (b := 0) rfl rfl (show ag (aP A) n m / 100 < 2 ^ 31 by omega) (by decide)).mp d
          exact pI h (if_pos (Or.inl d))
        · have d : ¬ ag (aP A) n m / 100 = 0 := fun z => d (by rw [z]; rfl)
          have d2 : ¬ ag (aP A) n m / 100 = 4 := fun z => d2 (by rw [z]; rfl)
          exact ⟨ag (aP A) n m, by omega, e0, pI h (if_neg (fun z => z.elim d d2))⟩
        · have d2 := (i_eq (b := 4) rfl rfl (show ag (aP A) n m / 100 < 2 ^ 31 by omega) (by decide)).mp d2
          exact pI h (if_pos (Or.inr d2))
      · rw [selI_in 2 (sw q) (Nat.le_of_ble_eq_true rfl)] at h
        exact ⟨ag (aP A) n m, by omega, e0, h⟩
      · rw [selI_out (q.imp id (fun z => by simp only [List.length_cons, List.length_nil]; omega))] at h
        exact h
    · rw [if_neg (by rw [b2i_e0.mp d]; decide)] at h
      exact h
  · exact h.elim
theorem shX4_argument : ∀ As f a Q, sX4_argument As f a Q → ∃ i r, As = .inr (.inr (4, i, 0)) :: r := by
  intro As f a Q h
  unfold sX4_argument at h
  split at h
  · exact ⟨_, _, rfl⟩
  · exact h.elim
theorem mX4_argument {g : Gm} (hg : GmOK g) : MetC g yX4_argument cX4_argument 6 (some .int) 2 sX4_argument := by
  refine MetC_of hg eX4_argument (eokX4_argument hg) (by decide +kernel) (fun av f a post h => ?_) rX4_argument
  unfold sX4_argument at h
  split at h
  · exact Nat.le_of_ble_eq_true rfl
  · exact h.elim
def anGraph (A : Ab) (x w : Int32) : Int32 := if isG A x then (fun (e : Gr) => selI w [nI e.1, nI e.2.1, nI e.2.2.1, nI e.2.2.2.2.2.1, b2i (idleK e.1 e.2.1 e.2.2.1), (if e.1 = e.2.1 then nI (fallN e.2.2.1) else -4), b2i (loopE e), b2i (needB (clo (aP A)) x.toNatClampNeg)] (-1)) (ge (clo (aP A)) x.toNatClampNeg) else -1
def sX4_graph : SP := fun As f a Q => match As with
  | [.inr (.inr (4, 0, 0)), .inl x, .inl w] => ∃ A, RepC f a A ∧ OKA A ∧ ∀ f' a', RepC f' a' A → S5 f a f' a' → Q (some (.inl (anGraph A x w))) f' a'
  | _ => False
def eX4_graph : En := (tX4_graph, [(83, false, 1, sX4_fresh), (163, false, 2, sX0_has), (166, false, 2, sX0_fromOf), (169, false, 2, sX0_toOf), (140, true, 1, sX0_codeOf), (178, false, 2, sX0_isIdle), (97, true, 1, sX4_bit), (181, false, 2, sX0_fallsIn), (184, false, 2, sX0_isLoop), (187, false, 2, sX0_isNeedless)], fdX4, [], 0)
theorem eokX4_graph {g : Gm} (hg : GmOK g) : EnvOK g 6 RX4 cX4_graph (some .int) eX4_graph := ⟨okX4_graph, fun _ _ _ _ h => as2_all (P := fun i v => CallOK g 6 RX4 i v.1 v.2.1 v.2.2) (l := eX4_graph.2.1) ⟨callV_ok (t := 4) hg (mX4_fresh hg) kX4_fresh mlX4_83 qX4_fresh.1 qX4_fresh.2 ⟨by decide, by decide⟩ ⟨_, _, rfl⟩ shX4_fresh, callV_ok (t := 0) hg (mX0_has hg) kX0_has mlX4_163 qX0_has.1 qX0_has.2 ⟨by decide, by decide⟩ ⟨_, _, rfl⟩ shX0_has, callV_ok (t := 0) hg (mX0_fromOf hg) kX0_fromOf mlX4_166 qX0_fromOf.1 qX0_fromOf.2 ⟨by decide, by decide⟩ ⟨_, _, rfl⟩ shX0_fromOf, callV_ok (t := 0) hg (mX0_toOf hg) kX0_toOf mlX4_169 qX0_toOf.1 qX0_toOf.2 ⟨by decide, by decide⟩ ⟨_, _, rfl⟩ shX0_toOf, callS_ok hg (mX0_codeOf hg) kX0_codeOf mlX4_140 qX0_codeOf ⟨by decide, by decide⟩, callV_ok (t := 0) hg (mX0_isIdle hg) kX0_isIdle mlX4_178 qX0_isIdle.1 qX0_isIdle.2 ⟨by decide, by decide⟩ ⟨_, _, rfl⟩ shX0_isIdle, callS_ok hg (mX4_bit hg) kX4_bit mlX4_97 qX4_bit ⟨by decide, by decide⟩, callV_ok (t := 0) hg (mX0_fallsIn hg) kX0_fallsIn mlX4_181 qX0_fallsIn.1 qX0_fallsIn.2 ⟨by decide, by decide⟩ ⟨_, _, rfl⟩ shX0_fallsIn, callV_ok (t := 0) hg (mX0_isLoop hg) kX0_isLoop mlX4_184 qX0_isLoop.1 qX0_isLoop.2 ⟨by decide, by decide⟩ ⟨_, _, rfl⟩ shX0_isLoop, callV_ok (t := 0) hg (mX0_isNeedless hg) kX0_isNeedless mlX4_187 qX0_isNeedless.1 qX0_isNeedless.2 ⟨by decide, by decide⟩ ⟨_, _, rfl⟩ shX0_isNeedless, trivial⟩ h, fdX4_ok, (fun _ _ h => by cases h), rfl⟩
theorem rX4_graph (av : List AV) (f : FF) (a : AA) (post : PT) (h : sX4_graph av f a post) (X : XT) (hX : Clo eX4_graph post X) : X 0 (padL 4 (ent av)) [] f a := by
  unfold sX4_graph at h
  split at h
  · rename_i x w
    obtain ⟨A, hA, hO, h⟩ := h
    have hw := clo_w hO
    unfold anGraph at h
    dsimp only at h
    refine hX [] 90 _ _ _ _ _ ?_
    refine ⟨A, hA, hO, fun f1 a1 hA1 hG hS => ?_⟩
    have h := h f1 a1 hA1 hS
    have eF : b2i (decide (0 ≤ x ∧ x < f1 0 0 4)) = b2i (isG A x) := by rw [hG.1.1]; rfl
    refine ⟨fun d => ?_, fun d => ?_⟩
    · rw [eF] at d
      have d := b2i_n0.mp d
      rw [if_pos d] at h
      obtain ⟨g, rfl, hg, hg3⟩ := isG_i hO d
      rw [nI_clamp (show g < 2 ^ 31 by omega)] at h
      have he := hw.1 g hg
      have hE := hG.1.2.2.1 g hg
      refine ⟨⟨fun q => ?_, fun q => ?_, fun q => ?_, fun q => ?_, fun q => ?_, fun q => ?_, fun q => ?_, fun q => ?_, trivial⟩, fun q => ?_⟩
      · rw [selI_in 0 (sw q) (Nat.le_of_ble_eq_true rfl)] at h
        exact ⟨g, _, _, rfl, hg3, hE.2.1, he.1, he.2.1, h⟩
      · rw [selI_in 1 (sw q) (Nat.le_of_ble_eq_true rfl)] at h
        exact ⟨g, _, _, rfl, hg3, hE.2.1, he.1, he.2.1, h⟩
      · rw [selI_in 2 (sw q) (Nat.le_of_ble_eq_true rfl)] at h
        exact ⟨inA 729 rfl rfl hg3 (by decide), _, he.2.2.1, by rw [nI_clamp (by omega)]; exact hE.1, h⟩
      · rw [selI_in 3 (sw q) (Nat.le_of_ble_eq_true rfl)] at h
        exact ⟨inA 729 rfl rfl hg3 (by decide), pI h (by rw [nI_clamp (by omega)]; exact hE.2.2.2.2.1.symm)⟩
      · rw [selI_in 4 (sw q) (Nat.le_of_ble_eq_true rfl)] at h
        exact ⟨g, _, _, _, rfl, hg3, hE.2.1, he.1, he.2.1, hE.1, he.2.2.1, pI h (b2i_b _).symm⟩
      · rw [selI_in 5 (sw q) (Nat.le_of_ble_eq_true rfl)] at h
        refine ⟨g, _, _, rfl, hg3, hE.2.1, he.1, he.2.1, g, _, _, rfl, hg3, hE.2.1, he.1, he.2.1, fun d => ?_, fun d => ?_⟩
        · exact pI h (if_neg (fun z => d (by rw [z])))
        · have d := (nI_eq (by have := he.1; omega) (by have := he.2.1; omega)).mp d
          exact ⟨g, _, rfl, hg3, hE.1, he.2.2.1, pI h (if_pos d)⟩
      · rw [selI_in 6 (sw q) (Nat.le_of_ble_eq_true rfl)] at h
        exact ⟨g, _, _, _, rfl, hg3, hE.2.1, he.1, he.2.1, hE.1, he.2.2.1, pI h (b2i_b _).symm⟩
      · rw [selI_in 7 (sw q) (Nat.le_of_ble_eq_true rfl)] at h
        exact ⟨_, g, hG.1, hw, rfl, hg, pI h (b2i_b _).symm⟩
      · rw [selI_out (q.imp id (fun z => by simp only [List.length_cons, List.length_nil]; omega))] at h
        exact h
    · rw [eF] at d
      rw [if_neg (by rw [b2i_e0.mp d]; decide)] at h
      exact h
  · exact h.elim
theorem shX4_graph : ∀ As f a Q, sX4_graph As f a Q → ∃ i r, As = .inr (.inr (4, i, 0)) :: r := by
  intro As f a Q h
  unfold sX4_graph at h
  split at h
  · exact ⟨_, _, rfl⟩
  · exact h.elim
theorem mX4_graph {g : Gm} (hg : GmOK g) : MetC g yX4_graph cX4_graph 4 (some .int) 6 sX4_graph := by
  refine MetC_of hg eX4_graph (eokX4_graph hg) (by decide +kernel) (fun av f a post h => ?_) rX4_graph
  unfold sX4_graph at h
  split at h
  · exact Nat.le_of_ble_eq_true rfl
  · exact h.elim
end
section
def anWord (A : Ab) (x k : Int32) : Int32 := if isG A x && decide (0 ≤ k) then (if k < nI (ge (clo (aP A)) x.toNatClampNeg).2.2.2.2.2.1 then nI (wordU (clo (aP A)) ((ge (clo (aP A)) x.toNatClampNeg).2.2.2.2.2.1 - 1 - k.toNatClampNeg) x.toNatClampNeg) else -4) else -1
def sX4_word : SP := fun As f a Q => match As with
  | [.inr (.inr (4, 0, 0)), .inl x, .inl k] => ∃ A, RepC f a A ∧ OKA A ∧ ∀ f' a', RepC f' a' A → S5 f a f' a' → Q (some (.inl (anWord A x k))) f' a'
  | _ => False
def eX4_word : En := (tX4_word, [(83, false, 1, sX4_fresh), (163, false, 2, sX0_has), (190, false, 3, sX0_callOfWord)], fdX4, [], 0)
theorem eokX4_word {g : Gm} (hg : GmOK g) : EnvOK g 6 RX4 cX4_word (some .int) eX4_word := ⟨okX4_word, fun _ _ _ _ h => as2_all (P := fun i v => CallOK g 6 RX4 i v.1 v.2.1 v.2.2) (l := eX4_word.2.1) ⟨callV_ok (t := 4) hg (mX4_fresh hg) kX4_fresh mlX4_83 qX4_fresh.1 qX4_fresh.2 ⟨by decide, by decide⟩ ⟨_, _, rfl⟩ shX4_fresh, callV_ok (t := 0) hg (mX0_has hg) kX0_has mlX4_163 qX0_has.1 qX0_has.2 ⟨by decide, by decide⟩ ⟨_, _, rfl⟩ shX0_has, callV_ok (t := 0) hg (mX0_callOfWord hg) kX0_callOfWord mlX4_190 qX0_callOfWord.1 qX0_callOfWord.2 ⟨by decide, by decide⟩ ⟨_, _, rfl⟩ shX0_callOfWord, trivial⟩ h, fdX4_ok, (fun _ _ h => by cases h), rfl⟩
theorem rX4_word (av : List AV) (f : FF) (a : AA) (post : PT) (h : sX4_word av f a post) (X : XT) (hX : Clo eX4_word post X) : X 0 (padL 4 (ent av)) [] f a := by
  unfold sX4_word at h
  split at h
  · rename_i x k
    obtain ⟨A, hA, hO, h⟩ := h
    have hw := clo_w hO
    unfold anWord at h
    refine hX [] 90 _ _ _ _ _ ?_
    refine ⟨A, hA, hO, fun f1 a1 hA1 hG hS => ?_⟩
    have h := h f1 a1 hA1 hS
    have eF : b2i (decide (0 ≤ x ∧ x < f1 0 0 4)) = b2i (isG A x) := by rw [hG.1.1]; rfl
    refine ⟨fun d => ?_, fun d => ?_⟩
    · rw [eF] at d
      rw [if_neg (by simp [b2i_e0.mp d])] at h
      exact h
    · rw [eF] at d
      have d := b2i_n0.mp d
      refine ⟨fun d2 => ?_, fun d2 => ?_⟩
      · rw [if_pos (by simp [d, d2])] at h
        obtain ⟨g, rfl, hg, hg3⟩ := isG_i hO d
        obtain ⟨m, hm, rfl⟩ := ge0 (Int32.not_lt.mpr d2)
        rw [nI_clamp (show g < 2 ^ 31 by omega), nI_clamp hm] at h
        have he := hw.1 g hg
        have hE := hG.1.2.2.1 g hg
        have hwl := he.2.2.2.2.2.2.2.1
        have cg : (nI g).toNatClampNeg = g := nI_clamp (by omega)
        refine ⟨inA 729 rfl rfl hg3 (by decide), ?_⟩
        rw [cg, hE.2.2.2.2.1]
        refine ⟨fun q => ?_, fun q => ?_⟩
        · rw [if_neg (Int32.not_lt.mpr q)] at h
          exact h
        · rw [if_pos (Int32.not_le.mp q)] at h
          exact ⟨_, g, m, hG.1, hw, rfl, hg, rfl, (nI_ltI hm (by omega)).mp (Int32.not_le.mp q), h⟩
      · rw [if_neg (by simp [d2])] at h
        exact h
  · exact h.elim
theorem shX4_word : ∀ As f a Q, sX4_word As f a Q → ∃ i r, As = .inr (.inr (4, i, 0)) :: r := by
  intro As f a Q h
  unfold sX4_word at h
  split at h
  · exact ⟨_, _, rfl⟩
  · exact h.elim
theorem mX4_word {g : Gm} (hg : GmOK g) : MetC g yX4_word cX4_word 4 (some .int) 6 sX4_word := by
  refine MetC_of hg eX4_word (eokX4_word hg) (by decide +kernel) (fun av f a post h => ?_) rX4_word
  unfold sX4_word at h
  split at h
  · exact Nat.le_of_ble_eq_true rfl
  · exact h.elim
def anFind (A : Ab) (x y z : Int32) : Int32 := if isF A x && (isF A y && decide (0 ≤ z ∧ z < 81)) then oN (fnd (clo (aP A)) (pl x.toNatClampNeg y.toNatClampNeg z.toNatClampNeg)) else -1
def sX4_find : SP := fun As f a Q => match As with
  | [.inr (.inr (4, 0, 0)), .inl x, .inl y, .inl z] => ∃ A, RepC f a A ∧ OKA A ∧ ∀ f' a', RepC f' a' A → S5 f a f' a' → Q (some (.inl (anFind A x y z))) f' a'
  | _ => False
def eX4_find : En := (tX4_find, [(108, false, 2, sX1_hasFunction), (83, false, 1, sX4_fresh), (193, false, 4, sX0_at), (196, true, 1, sX4_orNone)], fdX4, [], 0)
theorem eokX4_find {g : Gm} (hg : GmOK g) : EnvOK g 6 RX4 cX4_find (some .int) eX4_find := ⟨okX4_find, fun _ _ _ _ h => as2_all (P := fun i v => CallOK g 6 RX4 i v.1 v.2.1 v.2.2) (l := eX4_find.2.1) ⟨callV_ok (t := 1) hg (mX1_hasFunction hg) kX1_hasFunction mlX4_108 qX1_hasFunction.1 qX1_hasFunction.2 ⟨by decide, by decide⟩ ⟨_, _, rfl⟩ shX1_hasFunction, callV_ok (t := 4) hg (mX4_fresh hg) kX4_fresh mlX4_83 qX4_fresh.1 qX4_fresh.2 ⟨by decide, by decide⟩ ⟨_, _, rfl⟩ shX4_fresh, callV_ok (t := 0) hg (mX0_at hg) kX0_at mlX4_193 qX0_at.1 qX0_at.2 ⟨by decide, by decide⟩ ⟨_, _, rfl⟩ shX0_at, callS_ok hg (mX4_orNone hg) kX4_orNone mlX4_196 qX4_orNone ⟨by decide, by decide⟩, trivial⟩ h, fdX4_ok, (fun _ _ h => by cases h), rfl⟩
theorem fnd_lt {L : List Gr} (hL : WL L) {p : Nat} : ∀ g, fnd L p = some g → g < 1000 := fun g hg => by
  have := (fnd_some hg).1
  have := WL_len hL
  omega
theorem rX4_find (av : List AV) (f : FF) (a : AA) (post : PT) (h : sX4_find av f a post) (X : XT) (hX : Clo eX4_find post X) : X 0 (padL 4 (ent av)) [] f a := by
  unfold sX4_find at h
  split at h
  · rename_i x y z
    obtain ⟨A, hA, hO, h⟩ := h
    have hw := clo_w hO
    unfold anFind at h
    have h0 := h f a hA (S5.rf f a)
    refine hX [] 90 _ _ _ _ _ ?_
    have eF : ∀ x, b2i (decide (0 ≤ x ∧ x < f 1 0 4)) = b2i (isF A x) := fun x => by rw [hA.1.1]; rfl
    refine ⟨fun d => ?_, fun d => ?_⟩
    · rw [eF] at d
      rw [if_neg (by simp [b2i_e0.mp d])] at h0
      exact h0
    · rw [eF] at d
      have d := b2i_n0.mp d
      refine ⟨fun d2 => ?_, fun d2 => ?_⟩
      · rw [eF] at d2
        rw [if_neg (by simp [b2i_e0.mp d2])] at h0
        exact h0
      · rw [eF] at d2
        have d2 := b2i_n0.mp d2
        refine ⟨fun d3 => ?_, fun d3 => ⟨fun d4 => ?_, fun d4 => ?_⟩⟩
        · rw [if_neg (by simp [Int32.not_le.mpr d3])] at h0
          exact h0
        · rw [if_pos (by simp [d, d2, Int32.not_lt.mp d3, d4])] at h
          obtain ⟨i, rfl, hi, hi3⟩ := isF_i hO d
          obtain ⟨j, rfl, hj, hj3⟩ := isF_i hO d2
          obtain ⟨c, hc, rfl⟩ := ge0 d3
          have hc81 : c < 81 := (nI_ltI (b := 81) hc (by decide)).mp d4
          rw [nI_clamp (show i < 2 ^ 31 by omega), nI_clamp (show j < 2 ^ 31 by omega), nI_clamp hc] at h
          refine ⟨A, hA, hO, fun f1 a1 hA1 hG hS => ⟨i, j, c, rfl, rfl, rfl, hi3, hj3, hc81, pI (h f1 a1 hA1 hS) ?_⟩⟩
          rw [hG.1.2.2.2.1 _ (pl_lt hi3 hj3 hc81)]
          exact (oN_i (fnd_lt hw)).symm
        · rw [if_neg (by simp [Int32.not_lt.mp d4])] at h0
          exact h0
  · exact h.elim
theorem shX4_find : ∀ As f a Q, sX4_find As f a Q → ∃ i r, As = .inr (.inr (4, i, 0)) :: r := by
  intro As f a Q h
  unfold sX4_find at h
  split at h
  · exact ⟨_, _, rfl⟩
  · exact h.elim
theorem mX4_find {g : Gm} (hg : GmOK g) : MetC g yX4_find cX4_find 4 (some .int) 6 sX4_find := by
  refine MetC_of hg eX4_find (eokX4_find hg) (by decide +kernel) (fun av f a post h => ?_) rX4_find
  unfold sX4_find at h
  split at h
  · exact Nat.le_of_ble_eq_true rfl
  · exact h.elim
def anCompose (A : Ab) (x y : Int32) : Int32 := if isG A x && isG A y then (if (ge (clo (aP A)) x.toNatClampNeg).2.1 = (ge (clo (aP A)) y.toNatClampNeg).1 then oN (fnd (clo (aP A)) (pl (ge (clo (aP A)) x.toNatClampNeg).1 (ge (clo (aP A)) y.toNatClampNeg).2.1 (compN (ge (clo (aP A)) x.toNatClampNeg).2.2.1 (ge (clo (aP A)) y.toNatClampNeg).2.2.1))) else -4) else -1
def sX4_compose : SP := fun As f a Q => match As with
  | [.inr (.inr (4, 0, 0)), .inl x, .inl y] => ∃ A, RepC f a A ∧ OKA A ∧ ∀ f' a', RepC f' a' A → S5 f a f' a' → Q (some (.inl (anCompose A x y))) f' a'
  | _ => False
def eX4_compose : En := (tX4_compose, [(83, false, 1, sX4_fresh), (163, false, 2, sX0_has), (169, false, 2, sX0_toOf), (166, false, 2, sX0_fromOf), (199, true, 2, sX0_composed), (140, true, 1, sX0_codeOf), (193, false, 4, sX0_at), (196, true, 1, sX4_orNone)], fdX4, [], 0)
theorem eokX4_compose {g : Gm} (hg : GmOK g) : EnvOK g 6 RX4 cX4_compose (some .int) eX4_compose := ⟨okX4_compose, fun _ _ _ _ h => as2_all (P := fun i v => CallOK g 6 RX4 i v.1 v.2.1 v.2.2) (l := eX4_compose.2.1) ⟨callV_ok (t := 4) hg (mX4_fresh hg) kX4_fresh mlX4_83 qX4_fresh.1 qX4_fresh.2 ⟨by decide, by decide⟩ ⟨_, _, rfl⟩ shX4_fresh, callV_ok (t := 0) hg (mX0_has hg) kX0_has mlX4_163 qX0_has.1 qX0_has.2 ⟨by decide, by decide⟩ ⟨_, _, rfl⟩ shX0_has, callV_ok (t := 0) hg (mX0_toOf hg) kX0_toOf mlX4_169 qX0_toOf.1 qX0_toOf.2 ⟨by decide, by decide⟩ ⟨_, _, rfl⟩ shX0_toOf, callV_ok (t := 0) hg (mX0_fromOf hg) kX0_fromOf mlX4_166 qX0_fromOf.1 qX0_fromOf.2 ⟨by decide, by decide⟩ ⟨_, _, rfl⟩ shX0_fromOf, callS_ok hg (mX0_composed hg) kX0_composed mlX4_199 qX0_composed ⟨by decide, by decide⟩, callS_ok hg (mX0_codeOf hg) kX0_codeOf mlX4_140 qX0_codeOf ⟨by decide, by decide⟩, callV_ok (t := 0) hg (mX0_at hg) kX0_at mlX4_193 qX0_at.1 qX0_at.2 ⟨by decide, by decide⟩ ⟨_, _, rfl⟩ shX0_at, callS_ok hg (mX4_orNone hg) kX4_orNone mlX4_196 qX4_orNone ⟨by decide, by decide⟩, trivial⟩ h, fdX4_ok, (fun _ _ h => by cases h), rfl⟩
theorem rX4_compose (av : List AV) (f : FF) (a : AA) (post : PT) (h : sX4_compose av f a post) (X : XT) (hX : Clo eX4_compose post X) : X 0 (padL 5 (ent av)) [] f a := by
  unfold sX4_compose at h
  split at h
  · rename_i x y
    obtain ⟨A, hA, hO, h⟩ := h
    have hw := clo_w hO
    unfold anCompose at h
    refine hX [] 90 _ _ _ _ _ ?_
    refine ⟨A, hA, hO, fun f1 a1 hA1 hG hS => ?_⟩
    have h := h f1 a1 hA1 hS
    have eF : ∀ x, b2i (decide (0 ≤ x ∧ x < f1 0 0 4)) = b2i (isG A x) := fun x => by rw [hG.1.1]; rfl
    refine ⟨fun d => ?_, fun d => ⟨fun d2 => ?_, fun d2 => ?_⟩⟩
    · rw [eF] at d
      rw [if_neg (by simp [b2i_e0.mp d])] at h
      exact h
    · rw [eF] at d d2
      have d := b2i_n0.mp d
      have d2 := b2i_n0.mp d2
      rw [if_pos (by simp [d, d2])] at h
      obtain ⟨g, rfl, hg, hg3⟩ := isG_i hO d
      obtain ⟨k, rfl, hk, hk3⟩ := isG_i hO d2
      have cg : (nI g).toNatClampNeg = g := nI_clamp (by omega)
      have ck : (nI k).toNatClampNeg = k := nI_clamp (by omega)
      rw [cg, ck] at h
      have he := hw.1 g hg
      have hE := hG.1.2.2.1 g hg
      have he2 := hw.1 k hk
      have hE2 := hG.1.2.2.1 k hk
      refine ⟨g, _, _, rfl, hg3, hE.2.1, he.1, he.2.1, k, _, _, rfl, hk3, hE2.2.1, he2.1, he2.2.1, fun q => ?_, fun q => ?_⟩
      · have q := (nI_eq (by have := he.2.1; omega) (by have := he2.1; omega)).mp q
        rw [if_pos q] at h
        refine ⟨inA 729 rfl rfl hg3 (by decide), inA 729 rfl rfl hk3 (by decide), _, _, he.2.2.1, he2.2.2.1, by rw [cg]; exact hE.1, by rw [ck]; exact hE2.1, ?_⟩
        refine ⟨g, _, _, rfl, hg3, hE.2.1, he.1, he.2.1, k, _, _, rfl, hk3, hE2.2.1, he2.1, he2.2.1, _, compN_lt _ _, rfl, _, _, _, rfl, rfl, rfl, he.1, he2.2.1, compN_lt _ _, pI h ?_⟩
        rw [hG.1.2.2.2.1 _ (pl_lt he.1 he2.2.1 (compN_lt _ _))]
        exact (oN_i (fnd_lt hw)).symm
      · rw [if_neg (fun z => q (by rw [z]))] at h
        exact h
    · rw [eF] at d2
      rw [if_neg (by simp [b2i_e0.mp d2])] at h
      exact h
  · exact h.elim
theorem shX4_compose : ∀ As f a Q, sX4_compose As f a Q → ∃ i r, As = .inr (.inr (4, i, 0)) :: r := by
  intro As f a Q h
  unfold sX4_compose at h
  split at h
  · exact ⟨_, _, rfl⟩
  · exact h.elim
theorem mX4_compose {g : Gm} (hg : GmOK g) : MetC g yX4_compose cX4_compose 5 (some .int) 6 sX4_compose := by
  refine MetC_of hg eX4_compose (eokX4_compose hg) (by decide +kernel) (fun av f a post h => ?_) rX4_compose
  unfold sX4_compose at h
  split at h
  · exact Nat.le_of_ble_eq_true rfl
  · exact h.elim
def anWitness (A : Ab) (x : Int32) : Int32 := if isF A x then oN (firstU (loopOfB (clo (aP A)) x.toNatClampNeg) (clo (aP A)).length 0) else -1
def sX4_witness : SP := fun As f a Q => match As with
  | [.inr (.inr (4, 0, 0)), .inl x] => ∃ A, RepC f a A ∧ OKA A ∧ ∀ f' a', RepC f' a' A → S5 f a f' a' → Q (some (.inl (anWitness A x))) f' a'
  | _ => False
def eX4_witness : En := (tX4_witness, [(108, false, 2, sX1_hasFunction), (83, false, 1, sX4_fresh), (122, false, 2, sX0_firstLoopOf), (196, true, 1, sX4_orNone)], fdX4, [], 0)
theorem eokX4_witness {g : Gm} (hg : GmOK g) : EnvOK g 6 RX4 cX4_witness (some .int) eX4_witness := ⟨okX4_witness, fun _ _ _ _ h => as2_all (P := fun i v => CallOK g 6 RX4 i v.1 v.2.1 v.2.2) (l := eX4_witness.2.1) ⟨callV_ok (t := 1) hg (mX1_hasFunction hg) kX1_hasFunction mlX4_108 qX1_hasFunction.1 qX1_hasFunction.2 ⟨by decide, by decide⟩ ⟨_, _, rfl⟩ shX1_hasFunction, callV_ok (t := 4) hg (mX4_fresh hg) kX4_fresh mlX4_83 qX4_fresh.1 qX4_fresh.2 ⟨by decide, by decide⟩ ⟨_, _, rfl⟩ shX4_fresh, callV_ok (t := 0) hg (mX0_firstLoopOf hg) kX0_firstLoopOf mlX4_122 qX0_firstLoopOf.1 qX0_firstLoopOf.2 ⟨by decide, by decide⟩ ⟨_, _, rfl⟩ shX0_firstLoopOf, callS_ok hg (mX4_orNone hg) kX4_orNone mlX4_196 qX4_orNone ⟨by decide, by decide⟩, trivial⟩ h, fdX4_ok, (fun _ _ h => by cases h), rfl⟩
theorem rX4_witness (av : List AV) (f : FF) (a : AA) (post : PT) (h : sX4_witness av f a post) (X : XT) (hX : Clo eX4_witness post X) : X 0 (padL 2 (ent av)) [] f a := by
  unfold sX4_witness at h
  split at h
  · rename_i x
    obtain ⟨A, hA, hO, h⟩ := h
    have hw := clo_w hO
    have hlen := WL_len hw
    unfold anWitness at h
    refine hX [] 90 _ _ _ _ _ ?_
    have eF : b2i (decide (0 ≤ x ∧ x < f 1 0 4)) = b2i (isF A x) := by rw [hA.1.1]; rfl
    refine ⟨fun d => ?_, fun d => ?_⟩
    · rw [eF] at d
      have d := b2i_n0.mp d
      rw [if_pos d] at h
      obtain ⟨i, rfl, hi, hi3⟩ := isF_i hO d
      rw [nI_clamp (show i < 2 ^ 31 by omega)] at h
      exact ⟨A, hA, hO, fun f1 a1 hA1 hG hS => ⟨_, i, hG.1, hw, rfl, hi3, pI (h f1 a1 hA1 hS) (oN_i (first_lt (by omega))).symm⟩⟩
    · rw [eF] at d
      rw [if_neg (by rw [b2i_e0.mp d]; decide)] at h
      exact h f a hA (S5.rf f a)
  · exact h.elim
theorem shX4_witness : ∀ As f a Q, sX4_witness As f a Q → ∃ i r, As = .inr (.inr (4, i, 0)) :: r := by
  intro As f a Q h
  unfold sX4_witness at h
  split at h
  · exact ⟨_, _, rfl⟩
  · exact h.elim
theorem mX4_witness {g : Gm} (hg : GmOK g) : MetC g yX4_witness cX4_witness 2 (some .int) 6 sX4_witness := by
  refine MetC_of hg eX4_witness (eokX4_witness hg) (by decide +kernel) (fun av f a post h => ?_) rX4_witness
  unfold sX4_witness at h
  split at h
  · exact Nat.le_of_ble_eq_true rfl
  · exact h.elim
def anLoops (A : Ab) : Int32 := nI (cnt (fun g => loopE (ge (clo (aP A)) g) && !needB (clo (aP A)) g) (clo (aP A)).length)
def sX4_loops : SP := fun As f a Q => match As with
  | [.inr (.inr (4, 0, 0))] => ∃ A, RepC f a A ∧ OKA A ∧ ∀ f' a', RepC f' a' A → S5 f a f' a' → Q (some (.inl (anLoops A))) f' a'
  | _ => False
def eX4_loops : En := (tX4_loops, [(83, false, 1, sX4_fresh), (231, false, 1, sX0_neededLoops)], fdX4, [], 0)
theorem eokX4_loops {g : Gm} (hg : GmOK g) : EnvOK g 6 RX4 cX4_loops (some .int) eX4_loops := ⟨okX4_loops, fun _ _ _ _ h => as2_all (P := fun i v => CallOK g 6 RX4 i v.1 v.2.1 v.2.2) (l := eX4_loops.2.1) ⟨callV_ok (t := 4) hg (mX4_fresh hg) kX4_fresh mlX4_83 qX4_fresh.1 qX4_fresh.2 ⟨by decide, by decide⟩ ⟨_, _, rfl⟩ shX4_fresh, callV_ok (t := 0) hg (mX0_neededLoops hg) kX0_neededLoops mlX4_231 qX0_neededLoops.1 qX0_neededLoops.2 ⟨by decide, by decide⟩ ⟨_, _, rfl⟩ shX0_neededLoops, trivial⟩ h, fdX4_ok, (fun _ _ h => by cases h), rfl⟩
theorem rX4_loops (av : List AV) (f : FF) (a : AA) (post : PT) (h : sX4_loops av f a post) (X : XT) (hX : Clo eX4_loops post X) : X 0 (padL 1 (ent av)) [] f a := by
  unfold sX4_loops at h
  split at h
  · obtain ⟨A, hA, hO, h⟩ := h
    refine hX [] 90 _ _ _ _ _ ?_
    exact ⟨A, hA, hO, fun f1 a1 hA1 hG hS => ⟨_, hG.1, clo_w hO, h f1 a1 hA1 hS⟩⟩
  · exact h.elim
theorem shX4_loops : ∀ As f a Q, sX4_loops As f a Q → ∃ i r, As = .inr (.inr (4, i, 0)) :: r := by
  intro As f a Q h
  unfold sX4_loops at h
  split at h
  · exact ⟨_, _, rfl⟩
  · exact h.elim
theorem mX4_loops {g : Gm} (hg : GmOK g) : MetC g yX4_loops cX4_loops 1 (some .int) 6 sX4_loops := by
  refine MetC_of hg eX4_loops (eokX4_loops hg) (by decide +kernel) (fun av f a post h => ?_) rX4_loops
  unfold sX4_loops at h
  split at h
  · exact Nat.le_of_ble_eq_true rfl
  · exact h.elim
def sX4_fault : SP := fun As f a Q => match As with
  | [.inr (.inr (4, 0, 0))] => ∃ A, RepC f a A ∧ OKA A ∧ ∀ f' a', RepC f' a' A → S5 f a f' a' → Q (some (.inl (nI (aFt A)))) f' a'
  | _ => False
def eX4_fault : En := (tX4_fault, [], fdX4, [], 0)
theorem eokX4_fault {g : Gm} (hg : GmOK g) : EnvOK g 0 RX4 cX4_fault (some .int) eX4_fault := ⟨okX4_fault, (fun _ _ _ _ h => by cases h), fdX4_ok, (fun _ _ h => by cases h), rfl⟩
theorem rX4_fault (av : List AV) (f : FF) (a : AA) (post : PT) (h : sX4_fault av f a post) (X : XT) (hX : Clo eX4_fault post X) : X 0 (padL 1 (ent av)) [] f a := by
  unfold sX4_fault at h
  split at h
  · obtain ⟨A, hA, hO, h⟩ := h
    refine hX [] 90 _ _ _ _ _ ?_
    exact pI (h f a hA (S5.rf f a)) hA.2.1.2.2.symm
  · exact h.elim
theorem shX4_fault : ∀ As f a Q, sX4_fault As f a Q → ∃ i r, As = .inr (.inr (4, i, 0)) :: r := by
  intro As f a Q h
  unfold sX4_fault at h
  split at h
  · exact ⟨_, _, rfl⟩
  · exact h.elim
theorem mX4_fault {g : Gm} (hg : GmOK g) : MetC g yX4_fault cX4_fault 1 (some .int) 0 sX4_fault := by
  refine MetC_of hg eX4_fault (eokX4_fault hg) (by decide +kernel) (fun av f a post h => ?_) rX4_fault
  unfold sX4_fault at h
  split at h
  · exact Nat.le_of_ble_eq_true rfl
  · exact h.elim
def sX4_torn : SP := fun As f a Q => match As with
  | [.inr (.inr (4, 0, 0))] => ∃ A, RepC f a A ∧ OKA A ∧ ∀ f' a', RepC f' a' A → S5 f a f' a' → Q (some (.inl (nI (aTn A)))) f' a'
  | _ => False
def eX4_torn : En := (tX4_torn, [], fdX4, [], 0)
theorem eokX4_torn {g : Gm} (hg : GmOK g) : EnvOK g 0 RX4 cX4_torn (some .int) eX4_torn := ⟨okX4_torn, (fun _ _ _ _ h => by cases h), fdX4_ok, (fun _ _ h => by cases h), rfl⟩
theorem rX4_torn (av : List AV) (f : FF) (a : AA) (post : PT) (h : sX4_torn av f a post) (X : XT) (hX : Clo eX4_torn post X) : X 0 (padL 1 (ent av)) [] f a := by
  unfold sX4_torn at h
  split at h
  · obtain ⟨A, hA, hO, h⟩ := h
    refine hX [] 90 _ _ _ _ _ ?_
    exact pI (h f a hA (S5.rf f a)) hA.2.2.2.2.1.symm
  · exact h.elim
theorem shX4_torn : ∀ As f a Q, sX4_torn As f a Q → ∃ i r, As = .inr (.inr (4, i, 0)) :: r := by
  intro As f a Q h
  unfold sX4_torn at h
  split at h
  · exact ⟨_, _, rfl⟩
  · exact h.elim
theorem mX4_torn {g : Gm} (hg : GmOK g) : MetC g yX4_torn cX4_torn 1 (some .int) 0 sX4_torn := by
  refine MetC_of hg eX4_torn (eokX4_torn hg) (by decide +kernel) (fun av f a post h => ?_) rX4_torn
  unfold sX4_torn at h
  split at h
  · exact Nat.le_of_ble_eq_true rfl
  · exact h.elim
def anCount (A : Ab) (x : Int32) : Int32 := selI x [b2i (aI A 0).isSome + b2i (aI A 1).isSome, nI (plainN (aP A)), nI (aT A).length, (match aS A 0 with
  | none => -4
  | some q => nI q.2.1), nI (sumN (ar (aP A)) (aP A).1.length), nI (sumN (fun g => (ge (clo (aP A)) g).2.2.1) (clo (aP A)).length)] (-1)
def sX4_count : SP := fun As f a Q => match As with
  | [.inr (.inr (4, 0, 0)), .inl x] => ∃ A, RepC f a A ∧ OKA A ∧ ∀ f' a', RepC f' a' A → S5 f a f' a' → Q (some (.inl (anCount A x))) f' a'
  | _ => False
def eX4_count : En := (tX4_count, [(97, true, 1, sX4_bit), (272, false, 1, sX1_plainNumbers), (276, false, 1, sX1_arities), (83, false, 1, sX4_fresh), (279, false, 1, sX0_sumOfCodes)], fdX4, [], 0)
theorem eokX4_count {g : Gm} (hg : GmOK g) : EnvOK g 6 RX4 cX4_count (some .int) eX4_count := ⟨okX4_count, fun _ _ _ _ h => as2_all (P := fun i v => CallOK g 6 RX4 i v.1 v.2.1 v.2.2) (l := eX4_count.2.1) ⟨callS_ok hg (mX4_bit hg) kX4_bit mlX4_97 qX4_bit ⟨by decide, by decide⟩, callV_ok (t := 1) hg (mX1_plainNumbers hg) kX1_plainNumbers mlX4_272 qX1_plainNumbers.1 qX1_plainNumbers.2 ⟨by decide, by decide⟩ ⟨_, _, rfl⟩ shX1_plainNumbers, callV_ok (t := 1) hg (mX1_arities hg) kX1_arities mlX4_276 qX1_arities.1 qX1_arities.2 ⟨by decide, by decide⟩ ⟨_, _, rfl⟩ shX1_arities, callV_ok (t := 4) hg (mX4_fresh hg) kX4_fresh mlX4_83 qX4_fresh.1 qX4_fresh.2 ⟨by decide, by decide⟩ ⟨_, _, rfl⟩ shX4_fresh, callV_ok (t := 0) hg (mX0_sumOfCodes hg) kX0_sumOfCodes mlX4_279 qX0_sumOfCodes.1 qX0_sumOfCodes.2 ⟨by decide, by decide⟩ ⟨_, _, rfl⟩ shX0_sumOfCodes, trivial⟩ h, fdX4_ok, (fun _ _ h => by cases h), rfl⟩
theorem rX4_count (av : List AV) (f : FF) (a : AA) (post : PT) (h : sX4_count av f a post) (X : XT) (hX : Clo eX4_count post X) : X 0 (padL 2 (ent av)) [] f a := by
  unfold sX4_count at h
  split at h
  · rename_i x
    obtain ⟨A, hA, hO, h⟩ := h
    have hw := clo_w hO
    unfold anCount at h
    refine hX [] 90 _ _ _ _ _ ?_
    refine ⟨⟨fun q => ?_, fun q => ?_, fun q => ?_, fun q => ?_, fun q => ?_, fun q => ?_, trivial⟩, fun q => ?_⟩
    · rw [selI_in 0 (sw q) (Nat.le_of_ble_eq_true rfl)] at h
      refine ⟨inA (n := 0) 2 rfl rfl (by decide) (by decide), inA (n := 1) 2 rfl rfl (by decide) (by decide), pI (h f a hA (S5.rf f a)) ?_⟩
      have e0 : a 4 0 5 (0 : Int32).toNatClampNeg = b2i (aI A 0).isSome := (hA.2.2.1 0 (by decide)).1
      have e1 : a 4 0 5 (1 : Int32).toNatClampNeg = b2i (aI A 1).isSome := (hA.2.2.1 1 (by decide)).1
      dsimp only
      rw [e0, e1, b2i_b, b2i_b]
      rfl
    · rw [selI_in 1 (sw q) (Nat.le_of_ble_eq_true rfl)] at h
      exact ⟨_, hA.1, hO.1, h f a hA (S5.rf f a)⟩
    · rw [selI_in 2 (sw q) (Nat.le_of_ble_eq_true rfl)] at h
      exact pI (h f a hA (S5.rf f a)) hA.2.1.1.symm
    · rw [selI_in 3 (sw q) (Nat.le_of_ble_eq_true rfl)] at h
      have h := h f a hA (S5.rf f a)
      have hs := hA.2.2.2.1 0 (by decide)
      refine ⟨inA (n := 0) 4 rfl rfl (by decide) (by decide), ?_⟩
      cases hsh : aS A 0 with
      | none =>
        rw [hsh] at hs h
        refine ⟨fun d => absurd hs d, fun d => h⟩
      | some q0 =>
        obtain ⟨l, n, cs⟩ := q0
        rw [hsh] at hs h
        have hl := (hO.2.2.2.2.1 0 (by decide) l n cs hsh).1
        refine ⟨fun d => ?_, fun d => ?_⟩
        · exact ⟨inA (n := 0) 4 rfl rfl (by decide) (by decide), pI h hs.2.1.symm⟩
        · have d : f 2 0 1 = -1 := d
          rw [hs.1] at d
          exact absurd (by rw [d]; decide) (nI_pos (show l < 2 ^ 31 by omega))
    · rw [selI_in 4 (sw q) (Nat.le_of_ble_eq_true rfl)] at h
      exact ⟨_, hA.1, hO.1, h f a hA (S5.rf f a)⟩
    · rw [selI_in 5 (sw q) (Nat.le_of_ble_eq_true rfl)] at h
      exact ⟨A, hA, hO, fun f1 a1 hA1 hG hS => ⟨_, hG.1, hw, h f1 a1 hA1 hS⟩⟩
    · rw [selI_out (q.imp id (fun z => by simp only [List.length_cons, List.length_nil]; omega))] at h
      exact h f a hA (S5.rf f a)
  · exact h.elim
theorem shX4_count : ∀ As f a Q, sX4_count As f a Q → ∃ i r, As = .inr (.inr (4, i, 0)) :: r := by
  intro As f a Q h
  unfold sX4_count at h
  split at h
  · exact ⟨_, _, rfl⟩
  · exact h.elim
theorem mX4_count {g : Gm} (hg : GmOK g) : MetC g yX4_count cX4_count 2 (some .int) 6 sX4_count := by
  refine MetC_of hg eX4_count (eokX4_count hg) (by decide +kernel) (fun av f a post h => ?_) rX4_count
  unfold sX4_count at h
  split at h
  · exact Nat.le_of_ble_eq_true rfl
  · exact h.elim
end
section
/-! the system's changes -/
theorem RepC.told {f f1 : FF} {a a1 : AA} {A : Ab} (h : RepC f a A) (hF : Fr f a f1 a1 1 0) {P : Pg} (hR : RC (f1 1 0) (a1 1 0) P) (hB : AB (a1 1 0)) : RepC (upf f1 4 0 7 1) a1 (P, A.2) ∧ S5 f a (upf f1 4 0 7 1) a1 := by
  have e : ∀ t i, ¬ (t = 1 ∧ i = 0) → t ≠ 4 → upf f1 4 0 7 1 t i = f t i ∧ a1 t i = a t i := fun t i h0 h4 => ⟨by rw [upf_o _ _ (fun q => h4 q.1)]; exact (hF t i h0).1, (hF t i h0).2⟩
  refine ⟨⟨?_, ?_, ?_, ?_, ?_, ?_, fun p hp => ?_⟩, ?_⟩
  · rw [upf_o _ _ (by decide)]; exact hR
  · rw [(e 3 0 (by decide) (by decide)).1, (e 3 0 (by decide) (by decide)).2]; exact h.2.1
  · intro k hk
    rw [(hF 4 0 (by decide)).2, (e 1 (2 + k) (fun q => by omega) (by decide)).1, (e 1 (2 + k) (fun q => by omega) (by decide)).2]
    exact h.2.2.1 k hk
  · intro k hk
    rw [(e 2 k (fun q => absurd q.1 (by decide)) (by decide)).1, (e 2 k (fun q => absurd q.1 (by decide)) (by decide)).2]
    exact h.2.2.2.1 k hk
  · rw [upf_s, if_neg (by decide), (hF 4 0 (by decide)).1]; exact h.2.2.2.2.1
  · exact Or.inl (by rw [upf_s, if_pos rfl])
  · by_cases hp0 : p = 0
    · rw [hp0]; exact hB
    · rw [(hF 1 p (fun q => hp0 q.2)).2]; exact h.2.2.2.2.2.2 p hp
  · exact e 5 0 (by decide) (by decide)
theorem RepC.tell {f f1 : FF} {a a1 : AA} {A : Ab} (h : RepC f a A) (hF : Fr f a f1 a1 3 0) {T : List Nat} {ft : Nat} (hR : tlC (f1 3 0) (a1 3 0) T ft) : RepC f1 a1 (aP A, T, ft, A.2.2.2) ∧ S5 f a f1 a1 := by
  have e : ∀ t i, ¬ (t = 3 ∧ i = 0) → f1 t i = f t i ∧ a1 t i = a t i := fun t i h0 => hF t i h0
  refine ⟨⟨?_, hR, ?_, ?_, ?_, ?_, fun p hp => by rw [(e 1 p (fun q => absurd q.1 (by decide))).2]; exact h.2.2.2.2.2.2 p hp⟩, e 5 0 (by decide)⟩
  · rw [(e 1 0 (by decide)).1, (e 1 0 (by decide)).2]; exact h.1
  · intro k hk
    rw [(e 4 0 (by decide)).2, (e 1 (2 + k) (fun q => absurd q.1 (by decide))).1, (e 1 (2 + k) (fun q => absurd q.1 (by decide))).2]
    exact h.2.2.1 k hk
  · intro k hk
    rw [(e 2 k (fun q => absurd q.1 (by decide))).1, (e 2 k (fun q => absurd q.1 (by decide))).2]
    exact h.2.2.2.1 k hk
  · rw [(e 4 0 (by decide)).1]; exact h.2.2.2.2.1
  · unfold stC
    rw [(e 4 0 (by decide)).1, (e 0 0 (by decide)).1, (e 0 0 (by decide)).2]
    exact h.2.2.2.2.2.1
def anFeed (A : Ab) (x : Int32) : Int32 := if 0 ≤ x ∧ x ≤ 127 then (if (aT A).length < 160 then nI ((aT A).length + 1) else -3) else -1
def nxFeed (A : Ab) (x : Int32) : Ab := if 0 ≤ x ∧ x ≤ 127 then (if (aT A).length < 160 then (aP A, aT A ++ [x.toNatClampNeg], A.2.2) else A) else A
def sX4_feed : SP := fun As f a Q => match As with
  | [.inr (.inr (4, 0, 0)), .inl x] => ∃ A, RepC f a A ∧ OKA A ∧ ∀ f' a', RepC f' a' (nxFeed A x) → S5 f a f' a' → Q (some (.inl (anFeed A x))) f' a'
  | _ => False
def eX4_feed : En := (tX4_feed, [], fdX4, [], 0)
theorem eokX4_feed {g : Gm} (hg : GmOK g) : EnvOK g 0 RX4 cX4_feed (some .int) eX4_feed := ⟨okX4_feed, (fun _ _ _ _ h => by cases h), fdX4_ok, (fun _ _ h => by cases h), rfl⟩
theorem nar_b : ∀ n, n < 128 → vp_nar .byte ((nI n).toInt8.toInt32) = nI n := by decide +kernel
theorem rX4_feed (av : List AV) (f : FF) (a : AA) (post : PT) (h : sX4_feed av f a post) (X : XT) (hX : Clo eX4_feed post X) : X 0 (padL 2 (ent av)) [] f a := by
  unfold sX4_feed at h
  split at h
  · rename_i x
    obtain ⟨A, hA, hO, h⟩ := h
    have hT := hO.2.1.1
    have e1 := hA.2.1.1
    unfold anFeed nxFeed at h
    refine hX [] 90 _ _ _ _ _ ?_
    refine ⟨fun d => ?_, fun d => ⟨fun d2 => ?_, fun d2 => ?_⟩⟩
    · simp only [if_neg (fun (z : _ ∧ _) => absurd z.1 (Int32.not_le.mpr d))] at h
      exact h f a hA (S5.rf f a)
    · simp only [if_pos (And.intro (Int32.not_lt.mp d) d2)] at h
      refine ⟨fun d3 => ?_, fun d3 => ?_⟩
      · have d3 : f 3 0 1 < 160 := d3
        rw [e1] at d3
        have d3 : (aT A).length < 160 := (nI_ltI (b := 160) (by omega) (by decide)).mp d3
        simp only [if_pos d3] at h
        obtain ⟨n, hn, rfl⟩ := ge0 d
        have hn128 : n < 128 := by have := (nI_leI (b := 127) hn (by decide)).mp d2; omega
        rw [nI_clamp hn] at h
        refine ⟨inA 160 e1 rfl d3 (by decide), ?_⟩
        have K := hA.tell (f1 := upf f 3 0 1 (nI ((aT A).length + 1))) (a1 := upa a 3 0 0 (aT A).length (nI n)) (((Fr.rf f a 3 0).uf 1 _).ua 0 _ _) (T := aT A ++ [n]) (ft := aFt A) ⟨by rw [upf_s, if_pos rfl, List.length_append]; rfl, fun i hi => by
          rw [upa_s, if_pos rfl, upd_s]
          have hi : i < (aT A).length ∨ i = (aT A).length := by rw [List.length_append] at hi; simp at hi; omega
          rcases hi with hi | rfl
          · rw [if_neg (by omega), hA.2.1.2.1 i hi, List.getD_eq_getElem?_getD, List.getD_eq_getElem?_getD, List.getElem?_append_left hi]
          · rw [if_pos rfl, List.getD_eq_getElem?_getD, List.getElem?_append_right (Nat.le_refl _), Nat.sub_self]
            rfl, by rw [upf_s, if_neg (by decide)]; exact hA.2.1.2.2⟩
        have h := h _ _ K.1 K.2
        have e2 : f 3 0 1 + 1 = nI ((aT A).length + 1) := by rw [e1, nI_succ]
        refine pIV h ?_ ?_ ?_
        · show _ = upf f 3 0 1 (f 3 0 1 + 1) 3 0 1
          rw [upf_s, if_pos rfl, e2]
        · show _ = upf f 3 0 1 (f 3 0 1 + 1)
          rw [e2]
        · show _ = upa a 3 0 0 (f 3 0 1).toNatClampNeg (vp_nar .byte ((nI n).toInt8.toInt32))
          rw [nar_b n hn128, e1, nI_clamp (by omega)]
      · have d3 : ¬ f 3 0 1 < 160 := d3
        rw [e1] at d3
        have d3 : ¬ (aT A).length < 160 := fun z => d3 ((nI_ltI (b := 160) (by omega) (by decide)).mpr z)
        simp only [if_neg d3] at h
        exact h f a hA (S5.rf f a)
    · simp only [if_neg (fun (z : _ ∧ _) => absurd z.2 d2)] at h
      exact h f a hA (S5.rf f a)
  · exact h.elim
theorem shX4_feed : ∀ As f a Q, sX4_feed As f a Q → ∃ i r, As = .inr (.inr (4, i, 0)) :: r := by
  intro As f a Q h
  unfold sX4_feed at h
  split at h
  · exact ⟨_, _, rfl⟩
  · exact h.elim
theorem mX4_feed {g : Gm} (hg : GmOK g) : MetC g yX4_feed cX4_feed 2 (some .int) 0 sX4_feed := by
  refine MetC_of hg eX4_feed (eokX4_feed hg) (by decide +kernel) (fun av f a post h => ?_) rX4_feed
  unfold sX4_feed at h
  split at h
  · exact Nat.le_of_ble_eq_true rfl
  · exact h.elim
def anEnd (A : Ab) (x : Int32) : Int32 := if 0 ≤ x ∧ x ≤ nI (aT A).length then nI (aT A).length else -1
def nxEnd (A : Ab) (x : Int32) : Ab := if 0 ≤ x ∧ x ≤ nI (aT A).length then (aP A, (aT A).take x.toNatClampNeg, A.2.2) else A
def sX4_end : SP := fun As f a Q => match As with
  | [.inr (.inr (4, 0, 0)), .inl x] => ∃ A, RepC f a A ∧ OKA A ∧ ∀ f' a', RepC f' a' (nxEnd A x) → S5 f a f' a' → Q (some (.inl (anEnd A x))) f' a'
  | _ => False
def eX4_end : En := (tX4_end, [], fdX4, [], 0)
theorem eokX4_end {g : Gm} (hg : GmOK g) : EnvOK g 0 RX4 cX4_end (some .int) eX4_end := ⟨okX4_end, (fun _ _ _ _ h => by cases h), fdX4_ok, (fun _ _ h => by cases h), rfl⟩
theorem take_get {T : List Nat} {n i : Nat} (h : i < n) : (T.take n).getD i 0 = T.getD i 0 := by
  rw [List.getD_eq_getElem?_getD, List.getD_eq_getElem?_getD, List.getElem?_take, if_pos h]
theorem rX4_end (av : List AV) (f : FF) (a : AA) (post : PT) (h : sX4_end av f a post) (X : XT) (hX : Clo eX4_end post X) : X 0 (padL 3 (ent av)) [] f a := by
  unfold sX4_end at h
  split at h
  · rename_i x
    obtain ⟨A, hA, hO, h⟩ := h
    have hT := hO.2.1.1
    have e1 := hA.2.1.1
    unfold anEnd nxEnd at h
    refine hX [] 90 _ _ _ _ _ ?_
    refine ⟨fun d => ?_, fun d => ⟨fun d2 => ?_, fun d2 => ?_⟩⟩
    · simp only [if_neg (fun (z : _ ∧ _) => absurd z.1 (Int32.not_le.mpr d))] at h
      exact h f a hA (S5.rf f a)
    · have d2 : x ≤ f 3 0 1 := d2
      rw [e1] at d2
      simp only [if_pos (And.intro (Int32.not_lt.mp d) d2)] at h
      obtain ⟨n, hn, rfl⟩ := ge0 d
      have hle : n ≤ (aT A).length := (nI_leI hn (by omega)).mp d2
      rw [nI_clamp hn] at h
      have K := hA.tell (f1 := upf f 3 0 1 (nI n)) (a1 := a) ((Fr.rf f a 3 0).uf 1 _) (T := (aT A).take n) (ft := aFt A) ⟨by rw [upf_s, if_pos rfl, List.length_take, Nat.min_eq_left hle], fun i hi => by
        rw [List.length_take, Nat.min_eq_left hle] at hi
        rw [take_get hi]
        exact hA.2.1.2.1 i (by omega), by rw [upf_s, if_neg (by decide)]; exact hA.2.1.2.2⟩
      exact pI (h _ _ K.1 K.2) e1.symm
    · have d2 : ¬ x ≤ f 3 0 1 := d2
      rw [e1] at d2
      simp only [if_neg (fun (z : _ ∧ _) => absurd z.2 d2)] at h
      exact h f a hA (S5.rf f a)
  · exact h.elim
theorem shX4_end : ∀ As f a Q, sX4_end As f a Q → ∃ i r, As = .inr (.inr (4, i, 0)) :: r := by
  intro As f a Q h
  unfold sX4_end at h
  split at h
  · exact ⟨_, _, rfl⟩
  · exact h.elim
theorem mX4_end {g : Gm} (hg : GmOK g) : MetC g yX4_end cX4_end 3 (some .int) 0 sX4_end := by
  refine MetC_of hg eX4_end (eokX4_end hg) (by decide +kernel) (fun av f a post h => ?_) rX4_end
  unfold sX4_end at h
  split at h
  · exact Nat.le_of_ble_eq_true rfl
  · exact h.elim
def anOpen (A : Ab) (x : Int32) : Int32 := if 1 ≤ x ∧ x ≤ 2 then (if (aP A).1.length < 3 then nI ((aP A).1.length + 1) else -3) else -1
def nxOpen (A : Ab) (x : Int32) : Ab := if 1 ≤ x ∧ x ≤ 2 then (if (aP A).1.length < 3 then (((aP A).1 ++ [x.toNatClampNeg], (aP A).2), A.2) else A) else A
def sX4_open : SP := fun As f a Q => match As with
  | [.inr (.inr (4, 0, 0)), .inl x] => ∃ A, RepC f a A ∧ OKA A ∧ ∀ f' a', RepC f' a' (nxOpen A x) → S5 f a f' a' → Q (some (.inl (anOpen A x))) f' a'
  | _ => False
def eX4_open : En := (tX4_open, [(202, false, 2, sX1_appendFunction)], fdX4, [], 0)
theorem eokX4_open {g : Gm} (hg : GmOK g) : EnvOK g 1 RX4 cX4_open (some .int) eX4_open := ⟨okX4_open, fun _ _ _ _ h => as2_all (P := fun i v => CallOK g 1 RX4 i v.1 v.2.1 v.2.2) (l := eX4_open.2.1) ⟨callV_ok (t := 1) hg (mX1_appendFunction hg) kX1_appendFunction mlX4_202 qX1_appendFunction.1 qX1_appendFunction.2 ⟨by decide, by decide⟩ ⟨_, _, rfl⟩ shX1_appendFunction, trivial⟩ h, fdX4_ok, (fun _ _ h => by cases h), rfl⟩
theorem RC.opn {f : FF} {a : AA} {p : Nat} {P : Pg} (h : RC (f 1 p) (a 1 p) P) (n : Nat) : RC (upf f 1 p 4 (nI (P.1.length + 1)) 1 p) (upa a 1 p 0 P.1.length (nI n) 1 p) (P.1 ++ [n], P.2) := by
  refine ⟨?_, ?_, fun i hi => ?_, fun c hc => ?_⟩
  · rw [upf_s, if_pos rfl, List.length_append]; rfl
  · rw [upf_s, if_neg (by decide)]; exact h.2.1
  · rw [upa_s, if_pos rfl, upd_s]
    have hi : i < P.1.length ∨ i = P.1.length := by
      have : i < (P.1 ++ [n]).length := hi
      rw [List.length_append] at this
      simp at this
      omega
    unfold ar
    rcases hi with hi | rfl
    · rw [if_neg (by omega), h.2.2.1 i hi, List.getD_eq_getElem?_getD, List.getElem?_append_left hi]
      unfold ar
      rw [List.getD_eq_getElem?_getD]
    · rw [if_pos rfl, List.getD_eq_getElem?_getD, List.getElem?_append_right (Nat.le_refl _), Nat.sub_self]
      rfl
  · have q := h.2.2.2 c hc
    rw [upa_s, if_neg (by decide), upa_s, if_neg (by decide), upa_s, if_neg (by decide)]
    exact q
theorem rX4_open (av : List AV) (f : FF) (a : AA) (post : PT) (h : sX4_open av f a post) (X : XT) (hX : Clo eX4_open post X) : X 0 (padL 2 (ent av)) [] f a := by
  unfold sX4_open at h
  split at h
  · rename_i x
    obtain ⟨A, hA, hO, h⟩ := h
    have h3 := hO.1.l3
    have e1 := hA.1.1
    unfold anOpen nxOpen at h
    refine hX [] 90 _ _ _ _ _ ?_
    refine ⟨fun d => ?_, fun d => ⟨fun d2 => ?_, fun d2 => ?_⟩⟩
    · simp only [if_neg (fun (z : _ ∧ _) => absurd z.1 (Int32.not_le.mpr d))] at h
      exact h f a hA (S5.rf f a)
    · simp only [if_pos (And.intro (Int32.not_lt.mp d) d2)] at h
      refine ⟨fun d3 => ?_, fun d3 => ?_⟩
      · have d3 : f 1 0 4 < 3 := d3
        rw [e1] at d3
        have d3 : (aP A).1.length < 3 := (nI_ltI (b := 3) (by omega) (by decide)).mp d3
        simp only [if_pos d3] at h
        obtain ⟨n, hn, rfl⟩ := ge0 (x := x) (fun z => d (Int32.lt_trans z (by decide)))
        rw [nI_clamp hn] at h
        refine ⟨(aP A).1.length, e1, d3, Or.inr rfl, ?_⟩
        have K := hA.told (((Fr.rf f a 1 0).uf 4 (nI ((aP A).1.length + 1))).ua 0 (aP A).1.length (nI n)) (hA.1.opn n) (fun i hi => by
          rw [upa_s, if_pos rfl, upd_s]
          by_cases hin : i = (aP A).1.length
          · exact ⟨n, by have := (nI_leI (b := 2) hn (by decide)).mp d2; omega, if_pos hin⟩
          · rw [if_neg hin]; exact hA.2.2.2.2.2.2 0 (by decide) i hi)
        refine pI (h _ _ K.1 K.2) ?_
        show _ = upf (upf f 1 0 4 (nI ((aP A).1.length + 1))) 4 0 7 1 1 0 4
        rw [upf_o _ _ (by decide), upf_s, if_pos rfl]
      · have d3 : ¬ f 1 0 4 < 3 := d3
        rw [e1] at d3
        have d3 : ¬ (aP A).1.length < 3 := fun z => d3 ((nI_ltI (b := 3) (by omega) (by decide)).mpr z)
        simp only [if_neg d3] at h
        exact h f a hA (S5.rf f a)
    · simp only [if_neg (fun (z : _ ∧ _) => absurd z.2 d2)] at h
      exact h f a hA (S5.rf f a)
  · exact h.elim
theorem shX4_open : ∀ As f a Q, sX4_open As f a Q → ∃ i r, As = .inr (.inr (4, i, 0)) :: r := by
  intro As f a Q h
  unfold sX4_open at h
  split at h
  · exact ⟨_, _, rfl⟩
  · exact h.elim
theorem mX4_open {g : Gm} (hg : GmOK g) : MetC g yX4_open cX4_open 2 (some .int) 1 sX4_open := by
  refine MetC_of hg eX4_open (eokX4_open hg) (by decide +kernel) (fun av f a post h => ?_) rX4_open
  unfold sX4_open at h
  split at h
  · exact Nat.le_of_ble_eq_true rfl
  · exact h.elim
def anAdd (A : Ab) (x y : Int32) : Int32 := if isF A x && isF A y then (if (aP A).2.length < 12 then nI ((aP A).2.length + 1) else -3) else -1
def nxAdd (A : Ab) (x y : Int32) : Ab := if isF A x && isF A y then (if (aP A).2.length < 12 then (((aP A).1, (aP A).2 ++ [(x.toNatClampNeg, y.toNatClampNeg, 0, 0)]), A.2) else A) else A
def sX4_add : SP := fun As f a Q => match As with
  | [.inr (.inr (4, 0, 0)), .inl x, .inl y] => ∃ A, RepC f a A ∧ OKA A ∧ ∀ f' a', RepC f' a' (nxAdd A x y) → S5 f a f' a' → Q (some (.inl (anAdd A x y))) f' a'
  | _ => False
def eX4_add : En := (tX4_add, [(108, false, 2, sX1_hasFunction), (206, false, 3, sX1_appendCall)], fdX4, [], 0)
theorem eokX4_add {g : Gm} (hg : GmOK g) : EnvOK g 2 RX4 cX4_add (some .int) eX4_add := ⟨okX4_add, fun _ _ _ _ h => as2_all (P := fun i v => CallOK g 2 RX4 i v.1 v.2.1 v.2.2) (l := eX4_add.2.1) ⟨callV_ok (t := 1) hg (mX1_hasFunction hg) kX1_hasFunction mlX4_108 qX1_hasFunction.1 qX1_hasFunction.2 ⟨by decide, by decide⟩ ⟨_, _, rfl⟩ shX1_hasFunction, callV_ok (t := 1) hg (mX1_appendCall hg) kX1_appendCall mlX4_206 qX1_appendCall.1 qX1_appendCall.2 ⟨by decide, by decide⟩ ⟨_, _, rfl⟩ shX1_appendCall, trivial⟩ h, fdX4_ok, (fun _ _ h => by cases h), rfl⟩
theorem apC_fr (f : FF) (a : AA) (p n : Nat) (x y : Int32) : Fr f a f (apC a p n x y) 1 p := ((((Fr.rf f a 1 p).ua 1 _ _).ua 2 _ _).ua 3 _ _).ua 3 _ _
theorem rX4_add (av : List AV) (f : FF) (a : AA) (post : PT) (h : sX4_add av f a post) (X : XT) (hX : Clo eX4_add post X) : X 0 (padL 3 (ent av)) [] f a := by
  unfold sX4_add at h
  split at h
  · rename_i x y
    obtain ⟨A, hA, hO, h⟩ := h
    have h12 := hO.1.l12
    have e1 := hA.1.2.1
    unfold anAdd nxAdd at h
    refine hX [] 90 _ _ _ _ _ ?_
    have eF : ∀ x, b2i (decide (0 ≤ x ∧ x < f 1 0 4)) = b2i (isF A x) := fun x => by rw [hA.1.1]; rfl
    refine ⟨fun d => ?_, fun d => ⟨fun d2 => ?_, fun d2 => ?_⟩⟩
    · rw [eF] at d
      simp only [b2i_e0.mp d, Bool.false_and, Bool.false_eq_true, if_false] at h
      exact h f a hA (S5.rf f a)
    · rw [eF] at d d2
      have d := b2i_n0.mp d
      have d2 := b2i_n0.mp d2
      simp only [d, d2, Bool.and_self, if_true] at h
      obtain ⟨i, rfl, hi, hi3⟩ := isF_i hO d
      obtain ⟨j, rfl, hj, hj3⟩ := isF_i hO d2
      rw [nI_clamp (show i < 2 ^ 31 by omega), nI_clamp (show j < 2 ^ 31 by omega)] at h
      refine ⟨fun d3 => ?_, fun d3 => ?_⟩
      · have d3 : f 1 0 5 < 12 := d3
        rw [e1] at d3
        have d3 : (aP A).2.length < 12 := (nI_ltI (b := 12) (by omega) (by decide)).mp d3
        simp only [if_pos d3] at h
        refine ⟨(aP A).2.length, e1, d3, Or.inr rfl, ?_⟩
        have K := hA.told (((Fr.rf f a 1 0).uf 5 (nI ((aP A).2.length + 1))).tr (apC_fr _ a 0 (aP A).2.length (nI i) (nI j))) hA.1.app (fun x hx => by
          unfold apC
          rw [upa_s, if_neg (by decide), upa_s, if_neg (by decide), upa_s, if_neg (by decide), upa_s, if_neg (by decide)]
          exact hA.2.2.2.2.2.2 0 (by decide) x hx)
        refine pI (h _ _ K.1 K.2) ?_
        show _ = upf (upf f 1 0 5 (nI ((aP A).2.length + 1))) 4 0 7 1 1 0 5
        rw [upf_o _ _ (by decide), upf_s, if_pos rfl]
      · have d3 : ¬ f 1 0 5 < 12 := d3
        rw [e1] at d3
        have d3 : ¬ (aP A).2.length < 12 := fun z => d3 ((nI_ltI (b := 12) (by omega) (by decide)).mpr z)
        simp only [if_neg d3] at h
        exact h f a hA (S5.rf f a)
    · rw [eF] at d2
      simp only [b2i_e0.mp d2, Bool.and_false, Bool.false_eq_true, if_false] at h
      exact h f a hA (S5.rf f a)
  · exact h.elim
theorem shX4_add : ∀ As f a Q, sX4_add As f a Q → ∃ i r, As = .inr (.inr (4, i, 0)) :: r := by
  intro As f a Q h
  unfold sX4_add at h
  split at h
  · exact ⟨_, _, rfl⟩
  · exact h.elim
theorem mX4_add {g : Gm} (hg : GmOK g) : MetC g yX4_add cX4_add 3 (some .int) 2 sX4_add := by
  refine MetC_of hg eX4_add (eokX4_add hg) (by decide +kernel) (fun av f a post h => ?_) rX4_add
  unfold sX4_add at h
  split at h
  · exact Nat.le_of_ble_eq_true rfl
  · exact h.elim
def anCut (A : Ab) (x : Int32) : Int32 := if 0 ≤ x ∧ x ≤ nI (aP A).2.length then nI (aP A).2.length else -1
def nxCut (A : Ab) (x : Int32) : Ab := if 0 ≤ x ∧ x ≤ nI (aP A).2.length then (((aP A).1, (aP A).2.take x.toNatClampNeg), A.2) else A
def sX4_cut : SP := fun As f a Q => match As with
  | [.inr (.inr (4, 0, 0)), .inl x] => ∃ A, RepC f a A ∧ OKA A ∧ ∀ f' a', RepC f' a' (nxCut A x) → S5 f a f' a' → Q (some (.inl (anCut A x))) f' a'
  | _ => False
def eX4_cut : En := (tX4_cut, [], fdX4, [], 0)
theorem eokX4_cut {g : Gm} (hg : GmOK g) : EnvOK g 0 RX4 cX4_cut (some .int) eX4_cut := ⟨okX4_cut, (fun _ _ _ _ h => by cases h), fdX4_ok, (fun _ _ h => by cases h), rfl⟩
theorem cl_take {P : Pg} {n c : Nat} (h : c < n) : cl (P.1, P.2.take n) c = cl P c := by
  unfold cl
  simp only [List.getD_eq_getElem?_getD, List.getElem?_take, if_pos h]
theorem rX4_cut (av : List AV) (f : FF) (a : AA) (post : PT) (h : sX4_cut av f a post) (X : XT) (hX : Clo eX4_cut post X) : X 0 (padL 3 (ent av)) [] f a := by
  unfold sX4_cut at h
  split at h
  · rename_i x
    obtain ⟨A, hA, hO, h⟩ := h
    have h12 := hO.1.l12
    have e1 := hA.1.2.1
    unfold anCut nxCut at h
    refine hX [] 90 _ _ _ _ _ ?_
    refine ⟨fun d => ?_, fun d => ⟨fun d2 => ?_, fun d2 => ?_⟩⟩
    · simp only [if_neg (fun (z : _ ∧ _) => absurd z.1 (Int32.not_le.mpr d))] at h
      exact h f a hA (S5.rf f a)
    · have d2 : x ≤ f 1 0 5 := d2
      rw [e1] at d2
      simp only [if_pos (And.intro (Int32.not_lt.mp d) d2)] at h
      obtain ⟨n, hn, rfl⟩ := ge0 d
      have hle : n ≤ (aP A).2.length := (nI_leI hn (by omega)).mp d2
      rw [nI_clamp hn] at h
      have K := hA.told (f1 := upf f 1 0 5 (nI n)) (a1 := a) ((Fr.rf f a 1 0).uf 5 _) (P := ((aP A).1, (aP A).2.take n)) ⟨by rw [upf_s, if_neg (by decide)]; exact hA.1.1, by rw [upf_s, if_pos rfl, List.length_take, Nat.min_eq_left hle], hA.1.2.2.1, fun c hc => by
        have hc : c < n := by
          have : c < ((aP A).2.take n).length := hc
          rw [List.length_take, Nat.min_eq_left hle] at this
          exact this
        simp only [fr, to, ag, cl_take hc]
        exact hA.1.2.2.2 c (by omega)⟩ (hA.2.2.2.2.2.2 0 (by decide))
      refine ⟨Or.inr rfl, ?_⟩
      exact pI (h _ _ K.1 K.2) e1.symm
    · have d2 : ¬ x ≤ f 1 0 5 := d2
      rw [e1] at d2
      simp only [if_neg (fun (z : _ ∧ _) => absurd z.2 d2)] at h
      exact h f a hA (S5.rf f a)
  · exact h.elim
theorem shX4_cut : ∀ As f a Q, sX4_cut As f a Q → ∃ i r, As = .inr (.inr (4, i, 0)) :: r := by
  intro As f a Q h
  unfold sX4_cut at h
  split at h
  · exact ⟨_, _, rfl⟩
  · exact h.elim
theorem mX4_cut {g : Gm} (hg : GmOK g) : MetC g yX4_cut cX4_cut 3 (some .int) 0 sX4_cut := by
  refine MetC_of hg eX4_cut (eokX4_cut hg) (by decide +kernel) (fun av f a post h => ?_) rX4_cut
  unfold sX4_cut at h
  split at h
  · exact Nat.le_of_ble_eq_true rfl
  · exact h.elim
end
section
/-! set; sheets; images -/
def setA (P : Pg) (c k x : Nat) : Pg := (P.1, P.2.set c (if k = 0 then ((cl P c).1, (cl P c).2.1, x, (cl P c).2.2.2) else ((cl P c).1, (cl P c).2.1, (cl P c).2.2.1, x)))
theorem cl_setA {P : Pg} {c k x j : Nat} (hc : c < P.2.length) : cl (setA P c k x) j = if j = c then (if k = 0 then ((cl P c).1, (cl P c).2.1, x, (cl P c).2.2.2) else ((cl P c).1, (cl P c).2.1, (cl P c).2.2.1, x)) else cl P j := by
  unfold setA
  show (P.2.set c _).getD j _ = _
  by_cases h : j = c
  · subst h
    rw [if_pos rfl, List.getD_eq_getElem?_getD, List.getElem?_set_self hc]
    rfl
  · rw [if_neg h, List.getD_eq_getElem?_getD, List.getElem?_set_ne (Ne.symm h)]
    unfold cl
    rw [List.getD_eq_getElem?_getD]
theorem fr_setA {P : Pg} {c k x j : Nat} (hc : c < P.2.length) : fr (setA P c k x) j = fr P j := by
  unfold fr
  rw [cl_setA hc]
  split
  · rename_i h
    subst h
    split <;> rfl
  · rfl
theorem to_setA {P : Pg} {c k x j : Nat} (hc : c < P.2.length) : to (setA P c k x) j = to P j := by
  unfold to
  rw [cl_setA hc]
  split
  · rename_i h
    subst h
    split <;> rfl
  · rfl
theorem ag_setA {P : Pg} {c k x j i : Nat} (hc : c < P.2.length) (hk : k < 2) (hi : i < 2) : ag (setA P c k x) j i = if j = c ∧ i = k then x else ag P j i := by
  unfold ag
  rw [cl_setA hc]
  by_cases h : j = c
  · subst h
    rw [if_pos rfl]
    rcases (show k = 0 ∨ k = 1 by omega) with rfl | rfl <;> rcases (show i = 0 ∨ i = 1 by omega) with rfl | rfl <;> simp [agq]
  · rw [if_neg h, if_neg (fun z => h z.1)]
theorem len_setA (P : Pg) (c k x : Nat) : (setA P c k x).2.length = P.2.length := by
  unfold setA
  exact List.length_set
theorem RC.stA {f : FF} {a : AA} {p : Nat} {P : Pg} (h : RC (f 1 p) (a 1 p) P) {c k x : Nat} (hc : c < P.2.length) (hk : k < 2) : RC (f 1 p) (upa a 1 p 3 (2 * c + k) (nI x) 1 p) (setA P c k x) := by
  refine ⟨h.1, by rw [len_setA]; exact h.2.1, fun i hi => ?_, fun j hj => ?_⟩
  · rw [upa_s, if_neg (by decide)]
    exact h.2.2.1 i hi
  · rw [len_setA] at hj
    have q := h.2.2.2 j hj
    rw [fr_setA hc, to_setA hc, ag_setA hc hk (by decide), ag_setA hc hk (by decide)]
    refine ⟨?_, ?_, ?_, ?_⟩
    · rw [upa_s, if_neg (by decide)]; exact q.1
    · rw [upa_s, if_neg (by decide)]; exact q.2.1
    · rw [upa_s, if_pos rfl, upd_s]
      by_cases hh : j = c ∧ 0 = k
      · rw [if_pos hh, if_pos (by omega)]
      · rw [if_neg hh, if_neg (by omega)]; exact q.2.2.1
    · rw [upa_s, if_pos rfl, upd_s]
      by_cases hh : j = c ∧ 1 = k
      · rw [if_pos hh, if_pos (by omega)]
      · rw [if_neg hh, if_neg (by omega)]; exact q.2.2.2
theorem WF.stA {P : Pg} (h : WF P) {c k x : Nat} (hc : c < P.2.length) (hk : k < ar P (to P c)) (hx : okA (ar P (fr P c)) x = true) : WF (setA P c k x) := by
  have hat := h.ar_to hc
  refine ⟨h.1, by rw [len_setA]; exact h.2.1, h.2.2.1, fun j hj => ?_⟩
  rw [len_setA] at hj
  have q := h.2.2.2 j hj
  have ea : ∀ i, ar (setA P c k x) i = ar P i := fun i => rfl
  unfold okC
  rw [cl_setA hc]
  by_cases hj2 : j = c
  · subst hj2
    rw [if_pos rfl]
    unfold okC at q
    have hfr : (cl P j).1 = fr P j := rfl
    have hto : (cl P j).2.1 = to P j := rfl
    by_cases hk0 : k = 0
    · rw [if_pos hk0]
      exact ⟨q.1, q.2.1, hx, q.2.2.2⟩
    · rw [if_neg hk0]
      refine ⟨q.1, q.2.1, q.2.2.1, ?_⟩
      show (if ar P (cl P j).2.1 = 2 then okA (ar P (cl P j).1) x = true else x = 0)
      rw [hto, if_pos (by omega)]
      exact hx
  · rw [if_neg hj2]
    exact q
theorem takes_spec {P : Pg} (hW : WF P) {c k x : Int32} (h : takesB P c k x = true) : ∃ n m y, c = nI n ∧ n < P.2.length ∧ k = nI m ∧ m < ar P (to P n) ∧ x = nI y ∧ y < 500 ∧ okA (ar P (fr P n)) y = true := by
  unfold takesB at h
  simp only [Bool.and_eq_true, decide_eq_true_eq] at h
  obtain ⟨n, m, rfl, hn, rfl, hm⟩ := hasA_spec hW h.1
  obtain ⟨y, hy, rfl⟩ := ge0 (Int32.not_lt.mpr h.2.1)
  have h12 := hW.l12
  have h3 := h.2.2
  rw [nI_clamp (show n < 2 ^ 31 by omega), nI_clamp hy] at h3
  exact ⟨n, m, y, rfl, hn, rfl, hm, rfl, okA_lt h3, h3⟩
def anSet (A : Ab) (c k x : Int32) : Int32 := if takesB (aP A) c k x then nI (ag (aP A) c.toNatClampNeg k.toNatClampNeg) else -1
def nxSet (A : Ab) (c k x : Int32) : Ab := if takesB (aP A) c k x then (setA (aP A) c.toNatClampNeg k.toNatClampNeg x.toNatClampNeg, A.2) else A
def sX4_set : SP := fun As f a Q => match As with
  | [.inr (.inr (4, 0, 0)), .inl c, .inl k, .inl x] => ∃ A, RepC f a A ∧ OKA A ∧ ∀ f' a', RepC f' a' (nxSet A c k x) → S5 f a f' a' → Q (some (.inl (anSet A c k x))) f' a'
  | _ => False
def eX4_set : En := (tX4_set, [(210, false, 4, sX1_takes), (150, false, 3, sX1_argumentAt), (214, false, 4, sX1_putArgument)], fdX4, [], 0)
theorem eokX4_set {g : Gm} (hg : GmOK g) : EnvOK g 3 RX4 cX4_set (some .int) eX4_set := ⟨okX4_set, fun _ _ _ _ h => as2_all (P := fun i v => CallOK g 3 RX4 i v.1 v.2.1 v.2.2) (l := eX4_set.2.1) ⟨callV_ok (t := 1) hg (mX1_takes hg) kX1_takes mlX4_210 qX1_takes.1 qX1_takes.2 ⟨by decide, by decide⟩ ⟨_, _, rfl⟩ shX1_takes, callV_ok (t := 1) hg (mX1_argumentAt hg) kX1_argumentAt mlX4_150 qX1_argumentAt.1 qX1_argumentAt.2 ⟨by decide, by decide⟩ ⟨_, _, rfl⟩ shX1_argumentAt, callV_ok (t := 1) hg (mX1_putArgument hg) kX1_putArgument mlX4_214 qX1_putArgument.1 qX1_putArgument.2 ⟨by decide, by decide⟩ ⟨_, _, rfl⟩ shX1_putArgument, trivial⟩ h, fdX4_ok, (fun _ _ h => by cases h), rfl⟩
theorem rX4_set (av : List AV) (f : FF) (a : AA) (post : PT) (h : sX4_set av f a post) (X : XT) (hX : Clo eX4_set post X) : X 0 (padL 5 (ent av)) [] f a := by
  unfold sX4_set at h
  split at h
  · rename_i c k x
    obtain ⟨A, hA, hO, h⟩ := h
    unfold anSet nxSet at h
    refine hX [] 90 _ _ _ _ _ ?_
    refine ⟨aP A, hA.1, hO.1, fun d => ?_, fun d => ?_⟩
    · have d := b2i_n0.mp d
      obtain ⟨n, m, y, rfl, hn, rfl, hm, rfl, hy, hok⟩ := takes_spec hO.1 d
      have h12 := hO.1.l12
      have hat := hO.1.ar_to hn
      simp only [d, if_true, nI_clamp (show n < 2 ^ 31 by omega), nI_clamp (show m < 2 ^ 31 by omega), nI_clamp (show y < 2 ^ 31 by omega)] at h
      refine ⟨n, m, rfl, rfl, by omega, n, m, rfl, rfl, by omega, Or.inr rfl, ?_⟩
      have K := hA.told ((Fr.rf f a 1 0).ua 3 (2 * n + m) (nI y)) (hA.1.stA hn (show m < 2 by omega)) (fun i hi => by rw [upa_s, if_neg (by decide)]; exact hA.2.2.2.2.2.2 0 (by decide) i hi)
      exact pI (h _ _ K.1 K.2) (hA.1.arg hn (by omega)).symm
    · simp only [b2i_e0.mp d, Bool.false_eq_true, if_false] at h
      exact h f a hA (S5.rf f a)
  · exact h.elim
theorem shX4_set : ∀ As f a Q, sX4_set As f a Q → ∃ i r, As = .inr (.inr (4, i, 0)) :: r := by
  intro As f a Q h
  unfold sX4_set at h
  split at h
  · exact ⟨_, _, rfl⟩
  · exact h.elim
theorem mX4_set {g : Gm} (hg : GmOK g) : MetC g yX4_set cX4_set 5 (some .int) 3 sX4_set := by
  refine MetC_of hg eX4_set (eokX4_set hg) (by decide +kernel) (fun av f a post h => ?_) rX4_set
  unfold sX4_set at h
  split at h
  · exact Nat.le_of_ble_eq_true rfl
  · exact h.elim
/-! sheets -/
def ftI (s : Shp) (lane first many : Int32) : Nat := match s with
  | none => 1
  | some (l, n, _) => if nI l = lane then (if first < 0 ∨ nI n - many < first then 2 else 0) else 3
def sX2_faultAt : SP := fun As f a Q => match As with
  | [.inr (.inr (2, p, 0)), .inl x, .inl y, .inl z] => ∃ s, shC (f 2 p) (a 2 p) s ∧ (∀ l n cs, s = some (l, n, cs) → l < 3) ∧ Q (some (.inl (nI (ftI s x y z)))) f a
  | _ => False
def eX2_faultAt : En := (tX2_faultAt, [], fdX2, [], 0)
theorem eokX2_faultAt {g : Gm} (hg : GmOK g) : EnvOK g 0 RX2 cX2_faultAt (some .int) eX2_faultAt := ⟨okX2_faultAt, (fun _ _ _ _ h => by cases h), fdX2_ok, (fun _ _ h => by cases h), rfl⟩
theorem rX2_faultAt (av : List AV) (f : FF) (a : AA) (post : PT) (h : sX2_faultAt av f a post) (X : XT) (hX : Clo eX2_faultAt post X) : X 0 (padL 4 (ent av)) [] f a := by
  unfold sX2_faultAt at h
  split at h
  · rename_i p x y z
    obtain ⟨s, hs, hl, h⟩ := h
    refine hX [] 90 _ _ _ _ _ ?_
    cases s with
    | none =>
      exact ⟨fun d => absurd hs d, fun d => h⟩
    | some q =>
      obtain ⟨l, n, cs⟩ := q
      have hl := hl l n cs rfl
      have e1 : f 2 p 1 = nI l := hs.1
      have e2 : f 2 p 2 = nI n := hs.2.1
      refine ⟨fun d => ⟨fun d1 => ?_, fun d1 => ?_⟩, fun d => ?_⟩
      · rw [e1] at d1
        refine ⟨fun d2 => ?_, fun d2 => ⟨fun d3 => ?_, fun d3 => ?_⟩⟩
        · exact pI h (by unfold ftI; dsimp only; rw [if_pos d1, if_pos (Or.inl d2)]; rfl)
        · have d3 : y ≤ f 2 p 2 - z := d3
          rw [e2] at d3
          exact pI h (by unfold ftI; dsimp only; rw [if_pos d1, if_neg (fun q => q.elim d2 (fun q => absurd d3 (Int32.not_le.mpr q)))]; rfl)
        · have d3 : ¬ y ≤ f 2 p 2 - z := d3
          rw [e2] at d3
          exact pI h (by unfold ftI; dsimp only; rw [if_pos d1, if_pos (Or.inr (Int32.not_le.mp d3))]; rfl)
      · rw [e1] at d1
        exact pI h (by unfold ftI; dsimp only; rw [if_neg d1]; rfl)
      · have d : f 2 p 1 = -1 := d
        rw [e1] at d
        exact absurd (by rw [d]; decide) (nI_pos (show l < 2 ^ 31 by omega))
  · exact h.elim
theorem shX2_faultAt : ∀ As f a Q, sX2_faultAt As f a Q → ∃ i r, As = .inr (.inr (2, i, 0)) :: r := by
  intro As f a Q h
  unfold sX2_faultAt at h
  split at h
  · exact ⟨_, _, rfl⟩
  · exact h.elim
theorem mX2_faultAt {g : Gm} (hg : GmOK g) : MetC g yX2_faultAt cX2_faultAt 4 (some .int) 0 sX2_faultAt := by
  refine MetC_of hg eX2_faultAt (eokX2_faultAt hg) (by decide +kernel) (fun av f a post h => ?_) rX2_faultAt
  unfold sX2_faultAt at h
  split at h
  · exact Nat.le_of_ble_eq_true rfl
  · exact h.elim
def narL (l : Nat) (v : Int32) : Int32 := if l = 0 then v.toInt8.toInt32 else if l = 1 then v.toInt16.toInt32 else v
def sX2_put : SP := fun As f a Q => match As with
  | [.inr (.inr (2, p, 0)), .inl x, .inl v] => ∃ l i, f 2 p 1 = nI l ∧ l < 3 ∧ x = nI i ∧ i < 40 ∧ Q none f (upa a 2 p 0 i (narL l v))
  | _ => False
def eX2_put : En := (tX2_put, [], fdX2, [], 2)
theorem eokX2_put {g : Gm} (hg : GmOK g) : EnvOK g 0 RX2 cX2_put none eX2_put := ⟨okX2_put, (fun _ _ _ _ h => by cases h), fdX2_ok, (fun _ _ h => by cases h), rfl⟩
theorem rX2_put (av : List AV) (f : FF) (a : AA) (post : PT) (h : sX2_put av f a post) (X : XT) (hX : Clo eX2_put post X) : X 0 (padL 3 (ent av)) [] f a := by
  unfold sX2_put at h
  split at h
  · rename_i p x v
    obtain ⟨l, i, e1, hl, rfl, hi, h⟩ := h
    have ci : (nI i).toNatClampNeg = i := nI_clamp (by omega)
    refine hX [] 90 _ _ _ _ _ ?_
    refine ⟨fun d => ⟨fun d2 => ?_, fun d2 => ?_⟩, fun d => ?_⟩
    · rw [e1] at d d2
      have d : ¬ l = 0 := fun z => d (by rw [z]; rfl)
      have d2 : ¬ l = 1 := fun z => d2 (by rw [z]; rfl)
      refine ⟨inA 40 rfl rfl hi (by decide), pV h rfl ?_⟩
      rw [ci]
      simp [narL, d, d2]
    · rw [e1] at d d2
      have d2 : l = 1 := (i_eq (b := 1) rfl rfl (show l < 2 ^ 31 by omega) (by decide)).mp d2
      refine ⟨inA 40 rfl rfl hi (by decide), pV h rfl ?_⟩
      rw [ci]
      simp [narL, d2]
    · rw [e1] at d
      have d : l = 0 := (i_eq (b := 0) rfl rfl (show l < 2 ^ 31 by omega) (by decide)).mp d
      refine ⟨inA 40 rfl rfl hi (by decide), pV h rfl ?_⟩
      rw [ci]
      simp [narL, d]
  · exact h.elim
theorem shX2_put : ∀ As f a Q, sX2_put As f a Q → ∃ i r, As = .inr (.inr (2, i, 0)) :: r := by
  intro As f a Q h
  unfold sX2_put at h
  split at h
  · exact ⟨_, _, rfl⟩
  · exact h.elim
theorem mX2_put {g : Gm} (hg : GmOK g) : MetC g yX2_put cX2_put 3 none 0 sX2_put := by
  refine MetC_of hg eX2_put (eokX2_put hg) (by decide +kernel) (fun av f a post h => ?_) rX2_put
  unfold sX2_put at h
  split at h
  · exact Nat.le_of_ble_eq_true rfl
  · exact h.elim
def sX2_begin : SP := fun As f a Q => match As with
  | [.inr (.inr (2, p, 0)), .inl x, .inl y] => ∃ l n, x = nI l ∧ y = nI n ∧ ∀ f' a', Fr f a f' a' 2 p → shC (f' 2 p) (a' 2 p) (some (l, n, fun _ => 0)) → Q none f' a'
  | _ => False
def eX2_begin : En := (tX2_begin, [(22, true, 2, sJ7_fill_53178)], fdX2, [], 2)
theorem eokX2_begin {g : Gm} (hg : GmOK g) : EnvOK g 1 RX2 cX2_begin none eX2_begin := ⟨okX2_begin, fun _ _ _ _ h => as2_all (P := fun i v => CallOK g 1 RX2 i v.1 v.2.1 v.2.2) (l := eX2_begin.2.1) ⟨callS_ok hg (mJ7_fill_53178 hg) kJ7_fill_53178 mlX2_22 qJ7_fill_53178 ⟨by decide, by decide⟩, trivial⟩ h, fdX2_ok, (fun _ _ h => by cases h), rfl⟩
theorem rX2_begin (av : List AV) (f : FF) (a : AA) (post : PT) (h : sX2_begin av f a post) (X : XT) (hX : Clo eX2_begin post X) : X 0 (padL 3 (ent av)) [] f a := by
  unfold sX2_begin at h
  split at h
  · rename_i p x y
    obtain ⟨l, n, rfl, rfl, h⟩ := h
    refine hX [] 90 _ _ _ _ _ ?_
    refine ⟨Or.inr (Or.inr ⟨rfl, rfl⟩), fun g h1 _ => ?_⟩
    refine h _ _ ((((Fr.rf f a 2 p).uf 1 _).uf 2 _).uA 0 _) ⟨?_, ?_, fun i hi => ?_⟩
    · rw [upf_s, if_neg (by decide), upf_s, if_pos rfl]
    · rw [upf_s, if_pos rfl]
    · rw [upA_s, if_pos rfl]
      exact h1 i hi
  · exact h.elim
theorem shX2_begin : ∀ As f a Q, sX2_begin As f a Q → ∃ i r, As = .inr (.inr (2, i, 0)) :: r := by
  intro As f a Q h
  unfold sX2_begin at h
  split at h
  · exact ⟨_, _, rfl⟩
  · exact h.elim
theorem mX2_begin {g : Gm} (hg : GmOK g) : MetC g yX2_begin cX2_begin 3 none 1 sX2_begin := by
  refine MetC_of hg eX2_begin (eokX2_begin hg) (by decide +kernel) (fun av f a post h => ?_) rX2_begin
  unfold sX2_begin at h
  split at h
  · exact Nat.le_of_ble_eq_true rfl
  · exact h.elim
theorem RepC.shet {f f1 : FF} {a a1 : AA} {A : Ab} (h : RepC f a A) {k : Nat} (hF : Fr f a f1 a1 2 k) {s : Shp} (hR : shC (f1 2 k) (a1 2 k) s) : RepC f1 a1 (aP A, aT A, aFt A, aI A, (fun j => if j = k then s else aS A j), aTn A) ∧ S5 f a f1 a1 := by
  have e : ∀ t i, ¬ (t = 2 ∧ i = k) → f1 t i = f t i ∧ a1 t i = a t i := fun t i h0 => hF t i h0
  have e' : ∀ t i, t ≠ 2 → f1 t i = f t i ∧ a1 t i = a t i := fun t i h0 => hF t i (fun q => h0 q.1)
  refine ⟨⟨?_, ?_, ?_, ?_, ?_, ?_, fun p hp => by rw [(e' 1 p (by decide)).2]; exact h.2.2.2.2.2.2 p hp⟩, e' 5 0 (by decide)⟩
  · rw [(e' 1 0 (by decide)).1, (e' 1 0 (by decide)).2]; exact h.1
  · rw [(e' 3 0 (by decide)).1, (e' 3 0 (by decide)).2]; exact h.2.1
  · intro j hj
    rw [(e' 4 0 (by decide)).2, (e' 1 (2 + j) (by decide)).1, (e' 1 (2 + j) (by decide)).2]
    exact h.2.2.1 j hj
  · intro j hj
    show shC _ _ (if j = k then s else aS A j)
    by_cases hjk : j = k
    · subst hjk
      rw [if_pos rfl]
      exact hR
    · rw [if_neg hjk, (e 2 j (fun q => hjk q.2)).1, (e 2 j (fun q => hjk q.2)).2]
      exact h.2.2.2.1 j hj
  · rw [(e' 4 0 (by decide)).1]; exact h.2.2.2.2.1
  · unfold stC
    rw [(e' 4 0 (by decide)).1, (e' 0 0 (by decide)).1, (e' 0 0 (by decide)).2]
    exact h.2.2.2.2.2.1
def anSheet (k l n : Int32) : Int32 := if (0 ≤ k ∧ k < 4) ∧ (0 ≤ l ∧ l ≤ 2) ∧ n ≤ 40 then (if n < 0 then -14 else 1) else -1
def putS (A : Ab) (k : Nat) (s : Shp) : Ab := (aP A, aT A, aFt A, aI A, (fun j => if j = k then s else aS A j), aTn A)
def nxSheet (A : Ab) (k l n : Int32) : Ab := if ((0 ≤ k ∧ k < 4) ∧ (0 ≤ l ∧ l ≤ 2) ∧ n ≤ 40) ∧ ¬ n < 0 then putS A k.toNatClampNeg (some (l.toNatClampNeg, n.toNatClampNeg, fun _ => 0)) else A
def sX4_sheet : SP := fun As f a Q => match As with
  | [.inr (.inr (4, 0, 0)), .inl k, .inl l, .inl n] => ∃ A, RepC f a A ∧ OKA A ∧ ∀ f' a', RepC f' a' (nxSheet A k l n) → S5 f a f' a' → Q (some (.inl (anSheet k l n))) f' a'
  | _ => False
def eX4_sheet : En := (tX4_sheet, [(248, true, 1, sX4_isSheet), (251, true, 1, sX4_isLane), (254, false, 3, sX2_begin)], fdX4, [], 0)
theorem eokX4_sheet {g : Gm} (hg : GmOK g) : EnvOK g 2 RX4 cX4_sheet (some .int) eX4_sheet := ⟨okX4_sheet, fun _ _ _ _ h => as2_all (P := fun i v => CallOK g 2 RX4 i v.1 v.2.1 v.2.2) (l := eX4_sheet.2.1) ⟨callS_ok hg (mX4_isSheet hg) kX4_isSheet mlX4_248 qX4_isSheet ⟨by decide, by decide⟩, callS_ok hg (mX4_isLane hg) kX4_isLane mlX4_251 qX4_isLane ⟨by decide, by decide⟩, callV_ok (t := 2) hg (mX2_begin hg) kX2_begin mlX4_254 qX2_begin.1 qX2_begin.2 ⟨by decide, by decide⟩ ⟨_, _, rfl⟩ shX2_begin, trivial⟩ h, fdX4_ok, (fun _ _ h => by cases h), rfl⟩
theorem rng {x : Int32} {M : Nat} (hM : M < 2 ^ 31) (h0 : 0 ≤ x) (h : x < nI M) : ∃ n, x = nI n ∧ n < M := by
  obtain ⟨n, hn, rfl⟩ := ge0 (Int32.not_lt.mpr h0)
  exact ⟨n, rfl, (nI_ltI hn hM).mp h⟩
theorem rX4_sheet (av : List AV) (f : FF) (a : AA) (post : PT) (h : sX4_sheet av f a post) (X : XT) (hX : Clo eX4_sheet post X) : X 0 (padL 4 (ent av)) [] f a := by
  unfold sX4_sheet at h
  split at h
  · rename_i k l n
    obtain ⟨A, hA, hO, h⟩ := h
    unfold anSheet nxSheet at h
    refine hX [] 90 _ _ _ _ _ ?_
    refine ⟨fun d => ?_, fun d => ⟨fun d2 => ?_, fun d2 => ⟨fun d3 => ?_, fun d3 => ?_⟩⟩⟩
    · have d := of_decide_eq_false (b2i_e0.mp d)
      rw [if_neg (fun z => d z.1.1), if_neg (fun z => d z.1)] at h
      exact h f a hA (S5.rf f a)
    · have d2 := of_decide_eq_false (b2i_e0.mp d2)
      rw [if_neg (fun z => d2 z.1.2.1), if_neg (fun z => d2 z.2.1)] at h
      exact h f a hA (S5.rf f a)
    · have d := of_decide_eq_true (b2i_n0.mp d)
      have d2 := of_decide_eq_true (b2i_n0.mp d2)
      refine ⟨fun d4 => ?_, fun d4 => ?_⟩
      · rw [if_pos ⟨⟨d, d2, d3⟩, Int32.not_lt.mpr d4⟩, if_pos ⟨d, d2, d3⟩, if_neg (Int32.not_lt.mpr d4)] at h
        obtain ⟨i, rfl, hi⟩ := rng (M := 4) (by decide) d.1 d.2
        obtain ⟨j, hj, rfl⟩ := ge0 (Int32.not_lt.mpr d2.1)
        obtain ⟨m, hm, rfl⟩ := ge0 (Int32.not_lt.mpr d4)
        rw [nI_clamp (show i < 2 ^ 31 by omega), nI_clamp hj, nI_clamp hm] at h
        refine ⟨inA 4 rfl rfl hi (by decide), ?_⟩
        refine ⟨j, m, rfl, rfl, fun f1 a1 hF hs => ?_⟩
        have e0 : 0 + (nI i).toNatClampNeg = i := by rw [nI_clamp (by omega), Nat.zero_add]
        have hF : Fr f a f1 a1 2 (0 + (nI i).toNatClampNeg) := hF
        have hs : shC (f1 2 (0 + (nI i).toNatClampNeg)) (a1 2 (0 + (nI i).toNatClampNeg)) (some (j, m, fun _ => 0)) := hs
        rw [e0] at hF hs
        have K := hA.shet hF hs
        exact h f1 a1 K.1 K.2
      · have d4 := Int32.not_le.mp d4
        rw [if_neg (fun z => z.2 d4), if_pos ⟨d, d2, d3⟩, if_pos d4] at h
        exact h f a hA (S5.rf f a)
    · rw [if_neg (fun z => d3 z.1.2.2), if_neg (fun z => d3 z.2.2)] at h
      exact h f a hA (S5.rf f a)
  · exact h.elim
theorem shX4_sheet : ∀ As f a Q, sX4_sheet As f a Q → ∃ i r, As = .inr (.inr (4, i, 0)) :: r := by
  intro As f a Q h
  unfold sX4_sheet at h
  split at h
  · exact ⟨_, _, rfl⟩
  · exact h.elim
theorem mX4_sheet {g : Gm} (hg : GmOK g) : MetC g yX4_sheet cX4_sheet 4 (some .int) 2 sX4_sheet := by
  refine MetC_of hg eX4_sheet (eokX4_sheet hg) (by decide +kernel) (fun av f a post h => ?_) rX4_sheet
  unfold sX4_sheet at h
  split at h
  · exact Nat.le_of_ble_eq_true rfl
  · exact h.elim

def anLay (A : Ab) (k i : Int32) : Int32 := if 0 ≤ k ∧ k < 4 then (match aS A k.toNatClampNeg with
  | none => -11
  | some (_, n, _) => if 0 ≤ i ∧ i < nI n then 1 else -12) else -1
def nxLay (A : Ab) (k i v : Int32) : Ab := if 0 ≤ k ∧ k < 4 then (match aS A k.toNatClampNeg with
  | none => A
  | some (l, n, cs) => if 0 ≤ i ∧ i < nI n then putS A k.toNatClampNeg (some (l, n, upd cs i.toNatClampNeg (narL l v))) else A) else A
def sX4_lay : SP := fun As f a Q => match As with
  | [.inr (.inr (4, 0, 0)), .inl k, .inl i, .inl v] => ∃ A, RepC f a A ∧ OKA A ∧ ∀ f' a', RepC f' a' (nxLay A k i v) → S5 f a f' a' → Q (some (.inl (anLay A k i))) f' a'
  | _ => False
def eX4_lay : En := (tX4_lay, [(248, true, 1, sX4_isSheet), (260, false, 4, sX2_faultAt), (263, false, 3, sX2_put)], fdX4, [], 0)
theorem eokX4_lay {g : Gm} (hg : GmOK g) : EnvOK g 1 RX4 cX4_lay (some .int) eX4_lay := ⟨okX4_lay, fun _ _ _ _ h => as2_all (P := fun i v => CallOK g 1 RX4 i v.1 v.2.1 v.2.2) (l := eX4_lay.2.1) ⟨callS_ok hg (mX4_isSheet hg) kX4_isSheet mlX4_248 qX4_isSheet ⟨by decide, by decide⟩, callV_ok (t := 2) hg (mX2_faultAt hg) kX2_faultAt mlX4_260 qX2_faultAt.1 qX2_faultAt.2 ⟨by decide, by decide⟩ ⟨_, _, rfl⟩ shX2_faultAt, callV_ok (t := 2) hg (mX2_put hg) kX2_put mlX4_263 qX2_put.1 qX2_put.2 ⟨by decide, by decide⟩ ⟨_, _, rfl⟩ shX2_put, trivial⟩ h, fdX4_ok, (fun _ _ h => by cases h), rfl⟩
theorem sub_lt {n m : Nat} (hn : n < 1000) (hm : m < 2 ^ 31) (z : Nat) (hz : z < 1000) : nI n - nI z < nI m ↔ n < m + z := by
  rw [Int32.lt_iff_toInt_lt, pk_sub_toInt (by omega) (by omega), nI_toInt hm]
  omega
theorem rX4_lay (av : List AV) (f : FF) (a : AA) (post : PT) (h : sX4_lay av f a post) (X : XT) (hX : Clo eX4_lay post X) : X 0 (padL 6 (ent av)) [] f a := by
  unfold sX4_lay at h
  split at h
  · rename_i k i v
    obtain ⟨A, hA, hO, h⟩ := h
    unfold anLay nxLay at h
    refine hX [] 90 _ _ _ _ _ ?_
    refine ⟨fun d => ?_, fun d => ?_⟩
    · have d := of_decide_eq_true (b2i_n0.mp d)
      simp only [if_pos d] at h
      obtain ⟨j, rfl, hj⟩ := rng (M := 4) (by decide) d.1 d.2
      have cj : (nI j).toNatClampNeg = j := nI_clamp (by omega)
      rw [cj] at h
      have hs := hA.2.2.2.1 j hj
      have hl : ∀ l n cs, aS A j = some (l, n, cs) → l < 3 := fun l n cs q => (hO.2.2.2.2.1 j hj l n cs q).1
      have e0 : 0 + (nI j).toNatClampNeg = j := by rw [cj, Nat.zero_add]
      refine ⟨inA 4 rfl rfl hj (by decide), aS A j, by show shC (f 2 (0 + (nI j).toNatClampNeg)) (a 2 (0 + (nI j).toNatClampNeg)) _; rw [e0]; exact hs, hl, ?_⟩
      cases hsh : aS A j with
      | none =>
        rw [hsh] at h
        refine ⟨fun q => absurd (show nI 1 = 0 from q) (by decide), fun q => ?_⟩
        exact pI (h f a hA (S5.rf f a)) (show (-11 : Int32) = -10 - nI 1 by decide)
      | some w =>
        obtain ⟨l, n, cs⟩ := w
        obtain ⟨hl3, hn40⟩ := hO.2.2.2.2.1 j hj l n cs hsh
        rw [hsh] at h hs
        have el : f 2 (0 + (nI j).toNatClampNeg) 1 = nI l := by rw [e0]; exact hs.1
        have hft : ftI (some (l, n, cs)) (f 2 (0 + (nI j).toNatClampNeg) 1) i 1 = if 0 ≤ i ∧ i < nI n then 0 else 2 := by
          unfold ftI
          dsimp only
          rw [if_pos el.symm]
          by_cases hi : i < 0
          · rw [if_pos (Or.inl hi), if_neg (fun z => absurd z.1 (Int32.not_le.mpr hi))]
          · obtain ⟨m, hm, rfl⟩ := ge0 hi
            have : nI n - 1 < nI m ↔ n < m + 1 := sub_lt (n := n) (by omega) hm 1 (by decide)
            have h2 := nI_ltI hm (show n < 2 ^ 31 by omega)
            by_cases hc : m < n
            · rw [if_neg (fun z => z.elim hi (fun z => by have := this.mp z; omega)), if_pos ⟨Int32.not_lt.mp hi, h2.mpr hc⟩]
            · rw [if_pos (Or.inr (this.mpr (by omega))), if_neg (fun z => hc (h2.mp z.2))]
        by_cases hc : 0 ≤ i ∧ i < nI n
        · rw [if_pos hc] at hft
          simp only [if_pos hc] at h
          refine ⟨fun q => ?_, fun q => absurd (show nI (ftI (some (l, n, cs)) (f 2 (0 + (nI j).toNatClampNeg) 1) i 1) = 0 by rw [hft]; rfl) q⟩
          obtain ⟨m, rfl, hm⟩ := rng (show n < 2 ^ 31 by omega) hc.1 hc.2
          rw [nI_clamp (show m < 2 ^ 31 by omega)] at h
          refine ⟨l, m, el, hl3, rfl, by omega, ?_⟩
          have hF : Fr f a f (upa a 2 j 0 m (narL l v)) 2 j := (Fr.rf f a 2 j).ua 0 m _
          have K := hA.shet hF (s := some (l, n, upd cs m (narL l v))) ⟨hs.1, hs.2.1, fun x hx => by
            rw [upa_s, if_pos rfl, upd_s, upd_s]
            by_cases hxm : x = m
            · rw [if_pos hxm, if_pos hxm]
            · rw [if_neg hxm, if_neg hxm]; exact hs.2.2 x hx⟩
          refine pIV (h _ _ K.1 K.2) rfl rfl ?_
          show _ = upa a 2 (0 + (nI j).toNatClampNeg) 0 m (narL l v)
          rw [e0]
        · rw [if_neg hc] at hft
          simp only [if_neg hc] at h
          refine ⟨fun q => ?_, fun q => ?_⟩
          · have q : nI (ftI (some (l, n, cs)) (f 2 (0 + (nI j).toNatClampNeg) 1) i 1) = 0 := q
            rw [hft] at q
            exact absurd q (by decide)
          · refine pI (h f a hA (S5.rf f a)) ?_
            show _ = -10 - nI (ftI (some (l, n, cs)) (f 2 (0 + (nI j).toNatClampNeg) 1) i 1)
            rw [hft]
            rfl
    · have d := of_decide_eq_false (b2i_e0.mp d)
      simp only [if_neg d] at h
      exact h f a hA (S5.rf f a)
  · exact h.elim
theorem shX4_lay : ∀ As f a Q, sX4_lay As f a Q → ∃ i r, As = .inr (.inr (4, i, 0)) :: r := by
  intro As f a Q h
  unfold sX4_lay at h
  split at h
  · exact ⟨_, _, rfl⟩
  · exact h.elim
theorem mX4_lay {g : Gm} (hg : GmOK g) : MetC g yX4_lay cX4_lay 6 (some .int) 1 sX4_lay := by
  refine MetC_of hg eX4_lay (eokX4_lay hg) (by decide +kernel) (fun av f a post h => ?_) rX4_lay
  unfold sX4_lay at h
  split at h
  · exact Nat.le_of_ble_eq_true rfl
  · exact h.elim

/-! images -/
def isI (k : Int32) : Bool := decide (0 ≤ k ∧ k < 2)
def anKeep (A : Ab) (k : Int32) : Int32 := if isI k then b2i (aI A k.toNatClampNeg).isSome else -1
def putI (A : Ab) (k : Nat) : Ab := (aP A, aT A, aFt A, (fun j => if j = k then some (aP A) else aI A j), aS A, aTn A)
def nxKeep (A : Ab) (k : Int32) : Ab := if isI k then putI A k.toNatClampNeg else A
def sX4_keep : SP := fun As f a Q => match As with
  | [.inr (.inr (4, 0, 0)), .inl k] => ∃ A, RepC f a A ∧ OKA A ∧ ∀ f' a', RepC f' a' (nxKeep A k) → S5 f a f' a' → Q (some (.inl (anKeep A k))) f' a'
  | _ => False
def eX4_keep : En := (tX4_keep, [(245, true, 1, sX4_isImage), (97, true, 1, sX4_bit), (73, false, 2, sX1_copy)], fdX4, [], 0)
theorem eokX4_keep {g : Gm} (hg : GmOK g) : EnvOK g 2 RX4 cX4_keep (some .int) eX4_keep := ⟨okX4_keep, fun _ _ _ _ h => as2_all (P := fun i v => CallOK g 2 RX4 i v.1 v.2.1 v.2.2) (l := eX4_keep.2.1) ⟨callS_ok hg (mX4_isImage hg) kX4_isImage mlX4_245 qX4_isImage ⟨by decide, by decide⟩, callS_ok hg (mX4_bit hg) kX4_bit mlX4_97 qX4_bit ⟨by decide, by decide⟩, callV_ok (t := 1) hg (mX1_copy hg) kX1_copy mlX4_73 qX1_copy.1 qX1_copy.2 ⟨by decide, by decide⟩ ⟨_, _, rfl⟩ shX1_copy, trivial⟩ h, fdX4_ok, (fun _ _ h => by cases h), rfl⟩
theorem nar_z1 : vp_nar .boolean 1 = 1 := by decide +kernel
theorem rX4_keep (av : List AV) (f : FF) (a : AA) (post : PT) (h : sX4_keep av f a post) (X : XT) (hX : Clo eX4_keep post X) : X 0 (padL 3 (ent av)) [] f a := by
  unfold sX4_keep at h
  split at h
  · rename_i k
    obtain ⟨A, hA, hO, h⟩ := h
    unfold anKeep nxKeep at h
    refine hX [] 90 _ _ _ _ _ ?_
    refine ⟨fun d => ?_, fun d => ?_⟩
    · have d : isI k = true := b2i_n0.mp d
      simp only [d, if_true] at h
      have d2 := of_decide_eq_true d
      obtain ⟨j, rfl, hj⟩ := rng (M := 2) (by decide) d2.1 d2.2
      have cj : (nI j).toNatClampNeg = j := nI_clamp (by omega)
      rw [cj] at h
      have e2 : (raf 4).2 + (nI j).toNatClampNeg = 2 + j := by rw [cj]; rfl
      refine ⟨inA 2 rfl rfl hj (by decide), inA 2 rfl rfl hj (by decide), (fun z => by rw [e2] at z; omega), fun f1 a1 hF hR hB => ?_⟩
      have hB : AB (a1 1 ((raf 4).2 + (nI j).toNatClampNeg)) := hB (hA.2.2.2.2.2.2 0 (by decide))
      rw [e2] at hB
      have hF : Fr f a f1 a1 1 ((raf 4).2 + (nI j).toNatClampNeg) := hF
      rw [e2] at hF
      have hR := hR (aP A) hO.1 hA.1
      have hR : RC (f1 1 ((raf 4).2 + (nI j).toNatClampNeg)) (a1 1 ((raf 4).2 + (nI j).toNatClampNeg)) (aP A) := hR
      rw [e2] at hR
      refine ⟨inA 2 rfl rfl hj (by decide), ?_⟩
      have e : ∀ t i, ¬ (t = 1 ∧ i = 2 + j) → f1 t i = f t i ∧ a1 t i = a t i := hF
      have ea : ∀ t i, t ≠ 4 → upa a1 4 0 5 j 1 t i = a1 t i := fun t i ht => upa_o _ _ (fun q => ht q.1)
      have K : RepC f1 (upa a1 4 0 5 j 1) (putI A j) := by
        refine ⟨?_, ?_, ?_, ?_, ?_, ?_, fun p hp => ?_⟩
        · rw [ea 1 0 (by decide), (e 1 0 (by omega)).1, (e 1 0 (by omega)).2]; exact hA.1
        · rw [ea 3 0 (by decide), (e 3 0 (by omega)).1, (e 3 0 (by omega)).2]; exact hA.2.1
        · intro q hq
          have hq1 := hA.2.2.1 q hq
          refine ⟨?_, fun P hP => ?_⟩
          · rw [upa_s, if_pos rfl, upd_s]
            show _ = b2i (if q = j then some (aP A) else aI A q).isSome
            by_cases hqj : q = j
            · rw [if_pos hqj, if_pos hqj]; rfl
            · rw [if_neg hqj, if_neg hqj, (e 4 0 (by omega)).2]; exact hq1.1
          · have hP : (if q = j then some (aP A) else aI A q) = some P := hP
            rw [ea 1 (2 + q) (by decide)]
            by_cases hqj : q = j
            · rw [if_pos hqj] at hP
              cases hP
              rw [hqj]
              exact hR
            · rw [if_neg hqj] at hP
              rw [(e 1 (2 + q) (by omega)).1, (e 1 (2 + q) (by omega)).2]
              exact hq1.2 P hP
        · intro q hq
          rw [ea 2 q (by decide), (e 2 q (by omega)).1, (e 2 q (by omega)).2]
          exact hA.2.2.2.1 q hq
        · rw [(e 4 0 (by omega)).1]; exact hA.2.2.2.2.1
        · unfold stC
          rw [ea 0 0 (by decide), (e 4 0 (by omega)).1, (e 0 0 (by omega)).1, (e 0 0 (by omega)).2]
          exact hA.2.2.2.2.2.1
        · rw [ea 1 p (by decide)]
          by_cases hpj : p = 2 + j
          · rw [hpj]; exact hB
          · rw [(e 1 p (fun q => hpj q.2)).2]; exact hA.2.2.2.2.2.2 p hp
      have S : S5 f a f1 (upa a1 4 0 5 j 1) := ⟨(e 5 0 (by omega)).1, by rw [ea 5 0 (by decide)]; exact (e 5 0 (by omega)).2⟩
      refine pIV (h _ _ K S) ?_ rfl ?_
      · rw [cj, (hA.2.2.1 j hj).1, b2i_b]
      · rw [cj, nar_z1]
    · have d : isI k = false := b2i_e0.mp d
      simp only [d, Bool.false_eq_true, if_false] at h
      exact h f a hA (S5.rf f a)
  · exact h.elim
theorem shX4_keep : ∀ As f a Q, sX4_keep As f a Q → ∃ i r, As = .inr (.inr (4, i, 0)) :: r := by
  intro As f a Q h
  unfold sX4_keep at h
  split at h
  · exact ⟨_, _, rfl⟩
  · exact h.elim
theorem mX4_keep {g : Gm} (hg : GmOK g) : MetC g yX4_keep cX4_keep 3 (some .int) 2 sX4_keep := by
  refine MetC_of hg eX4_keep (eokX4_keep hg) (by decide +kernel) (fun av f a post h => ?_) rX4_keep
  unfold sX4_keep at h
  split at h
  · exact Nat.le_of_ble_eq_true rfl
  · exact h.elim
def anBack (A : Ab) (k : Int32) : Int32 := if isI k then (match aI A k.toNatClampNeg with
  | some P => nI P.2.length
  | none => -2) else -1
def nxBack (A : Ab) (k : Int32) : Ab := if isI k then (match aI A k.toNatClampNeg with
  | some P => (P, A.2)
  | none => A) else A
def sX4_back : SP := fun As f a Q => match As with
  | [.inr (.inr (4, 0, 0)), .inl k] => ∃ A, RepC f a A ∧ OKA A ∧ ∀ f' a', RepC f' a' (nxBack A k) → S5 f a f' a' → Q (some (.inl (anBack A k))) f' a'
  | _ => False
def eX4_back : En := (tX4_back, [(245, true, 1, sX4_isImage), (73, false, 2, sX1_copy)], fdX4, [], 0)
theorem eokX4_back {g : Gm} (hg : GmOK g) : EnvOK g 2 RX4 cX4_back (some .int) eX4_back := ⟨okX4_back, fun _ _ _ _ h => as2_all (P := fun i v => CallOK g 2 RX4 i v.1 v.2.1 v.2.2) (l := eX4_back.2.1) ⟨callS_ok hg (mX4_isImage hg) kX4_isImage mlX4_245 qX4_isImage ⟨by decide, by decide⟩, callV_ok (t := 1) hg (mX1_copy hg) kX1_copy mlX4_73 qX1_copy.1 qX1_copy.2 ⟨by decide, by decide⟩ ⟨_, _, rfl⟩ shX1_copy, trivial⟩ h, fdX4_ok, (fun _ _ h => by cases h), rfl⟩
theorem rX4_back (av : List AV) (f : FF) (a : AA) (post : PT) (h : sX4_back av f a post) (X : XT) (hX : Clo eX4_back post X) : X 0 (padL 2 (ent av)) [] f a := by
  unfold sX4_back at h
  split at h
  · rename_i k
    obtain ⟨A, hA, hO, h⟩ := h
    unfold anBack nxBack at h
    refine hX [] 90 _ _ _ _ _ ?_
    refine ⟨fun d => ?_, fun d => ?_⟩
    · have d : isI k = true := b2i_n0.mp d
      simp only [d, if_true] at h
      have d2 := of_decide_eq_true d
      obtain ⟨j, rfl, hj⟩ := rng (M := 2) (by decide) d2.1 d2.2
      have cj : (nI j).toNatClampNeg = j := nI_clamp (by omega)
      rw [cj] at h
      have hI := hA.2.2.1 j hj
      have e2 : (raf 4).2 + (nI j).toNatClampNeg = 2 + j := by rw [cj]; rfl
      refine ⟨inA 2 rfl rfl hj (by decide), ?_⟩
      rw [cj, hI.1]
      cases hsh : aI A j with
      | none =>
        rw [hsh] at h
        exact ⟨fun q => absurd rfl q, fun q => h f a hA (S5.rf f a)⟩
      | some P =>
        rw [hsh] at h
        have hWP := hO.2.2.2.1 j hj P hsh
        refine ⟨fun q => ?_, fun q => absurd (show (1 : Int32) = 0 from q) (by decide)⟩
        refine ⟨inA 2 rfl rfl hj (by decide), (fun z => by rw [e2] at z; omega), fun f1 a1 hF hR hB => ?_⟩
        have hB : AB (a1 1 0) := hB (by rw [e2]; exact hA.2.2.2.2.2.2 (2 + j) (by omega))
        have hR : ∀ P, WF P → RC (f 1 ((raf 4).2 + (nI j).toNatClampNeg)) (a 1 ((raf 4).2 + (nI j).toNatClampNeg)) P → RC (f1 1 0) (a1 1 0) P := hR
        rw [e2] at hR
        have hR := hR P hWP (hI.2 P hsh)
        have K := hA.told hF hR hB
        refine ⟨Or.inr rfl, ?_⟩
        refine pI (h _ _ K.1 K.2) ?_
        show _ = upf f1 4 0 7 1 1 0 5
        rw [upf_o _ _ (by decide)]
        exact hR.2.1.symm
    · have d : isI k = false := b2i_e0.mp d
      simp only [d, Bool.false_eq_true, if_false] at h
      exact h f a hA (S5.rf f a)
  · exact h.elim
theorem shX4_back : ∀ As f a Q, sX4_back As f a Q → ∃ i r, As = .inr (.inr (4, i, 0)) :: r := by
  intro As f a Q h
  unfold sX4_back at h
  split at h
  · exact ⟨_, _, rfl⟩
  · exact h.elim
theorem mX4_back {g : Gm} (hg : GmOK g) : MetC g yX4_back cX4_back 2 (some .int) 2 sX4_back := by
  refine MetC_of hg eX4_back (eokX4_back hg) (by decide +kernel) (fun av f a post h => ?_) rX4_back
  unfold sX4_back at h
  split at h
  · exact Nat.le_of_ble_eq_true rfl
  · exact h.elim
end
section
/-! read -/
def rdN (s : Shp) (lane fst : Int32) : Nat → Nat → Pg → (Nat × Nat × Pg) ⊕ Nat
  | 0, i, P => .inl (i, 0, P)
  | d + 1, i, P => if ftI s lane (fst + 3 * nI i) 3 = 0 then (match s with
      | some (_, _, cs) => if takesB P (cs (fst + 3 * nI i).toNatClampNeg) (cs (fst + 3 * nI i + 1).toNatClampNeg) (cs (fst + 3 * nI i + 2).toNatClampNeg) then rdN s lane fst d (i + 1) (setA P (cs (fst + 3 * nI i).toNatClampNeg).toNatClampNeg (cs (fst + 3 * nI i + 1).toNatClampNeg).toNatClampNeg (cs (fst + 3 * nI i + 2).toNatClampNeg).toNatClampNeg) else .inr i
      | none => .inr i) else .inl (i, ftI s lane (fst + 3 * nI i) 3, P)
def okR (k l n : Int32) : Bool := decide (0 ≤ k ∧ k < 4) && (decide (0 ≤ l ∧ l ≤ 2) && decide (0 ≤ n ∧ n ≤ 13))
def anRead (A : Ab) (k l x n : Int32) : Int32 := if okR k l n then (match rdN (aS A k.toNatClampNeg) l x n.toNatClampNeg 0 (aP A) with
  | .inl q => nI q.1
  | .inr i => -20 - nI i) else -1
def nxRead (A : Ab) (k l x n : Int32) : Ab := if okR k l n then (match rdN (aS A k.toNatClampNeg) l x n.toNatClampNeg 0 (aP A) with
  | .inl q => (q.2.2, aT A, aFt A, aI A, aS A, q.2.1)
  | .inr _ => A) else A
theorem ftI_lt (s : Shp) (x y z : Int32) : ftI s x y z < 4 := by
  unfold ftI
  split
  · decide
  · split
    · split <;> decide
    · decide
theorem RepC.trial {f f1 : FF} {a a1 : AA} {A : Ab} (h : RepC f a A) (hF : Fr f a f1 a1 1 1) (hB : AB (a1 1 1)) : RepC f1 a1 A ∧ S5 f a f1 a1 := by
  have e : ∀ t i, ¬ (t = 1 ∧ i = 1) → f1 t i = f t i ∧ a1 t i = a t i := hF
  refine ⟨⟨?_, ?_, ?_, ?_, ?_, ?_, fun p hp => ?_⟩, e 5 0 (by decide)⟩
  · rw [(e 1 0 (by decide)).1, (e 1 0 (by decide)).2]; exact h.1
  · rw [(e 3 0 (by decide)).1, (e 3 0 (by decide)).2]; exact h.2.1
  · intro k hk
    rw [(e 4 0 (by decide)).2, (e 1 (2 + k) (by omega)).1, (e 1 (2 + k) (by omega)).2]
    exact h.2.2.1 k hk
  · intro k hk
    rw [(e 2 k (by omega)).1, (e 2 k (by omega)).2]
    exact h.2.2.2.1 k hk
  · rw [(e 4 0 (by decide)).1]; exact h.2.2.2.2.1
  · unfold stC
    rw [(e 4 0 (by decide)).1, (e 0 0 (by decide)).1, (e 0 0 (by decide)).2]
    exact h.2.2.2.2.2.1
  · by_cases hp1 : p = 1
    · rw [hp1]; exact hB
    · rw [(e 1 p (fun q => hp1 q.2)).2]; exact h.2.2.2.2.2.2 p hp
def sX4_read : SP := fun As f a Q => match As with
  | [.inr (.inr (4, 0, 0)), .inl k, .inl l, .inl x, .inl n] => ∃ A, RepC f a A ∧ OKA A ∧ ∀ f' a', RepC f' a' (nxRead A k l x n) → S5 f a f' a' → Q (some (.inl (anRead A k l x n))) f' a'
  | _ => False
def eX4_read : En := (tX4_read, [(248, true, 1, sX4_isSheet), (251, true, 1, sX4_isLane), (73, false, 2, sX1_copy), (260, false, 4, sX2_faultAt), (210, false, 4, sX1_takes), (214, false, 4, sX1_putArgument)], fdX4, [], 0)
theorem eokX4_read {g : Gm} (hg : GmOK g) : EnvOK g 3 RX4 cX4_read (some .int) eX4_read := ⟨okX4_read, fun _ _ _ _ h => as2_all (P := fun i v => CallOK g 3 RX4 i v.1 v.2.1 v.2.2) (l := eX4_read.2.1) ⟨callS_ok hg (mX4_isSheet hg) kX4_isSheet mlX4_248 qX4_isSheet ⟨by decide, by decide⟩, callS_ok hg (mX4_isLane hg) kX4_isLane mlX4_251 qX4_isLane ⟨by decide, by decide⟩, callV_ok (t := 1) hg (mX1_copy hg) kX1_copy mlX4_73 qX1_copy.1 qX1_copy.2 ⟨by decide, by decide⟩ ⟨_, _, rfl⟩ shX1_copy, callV_ok (t := 2) hg (mX2_faultAt hg) kX2_faultAt mlX4_260 qX2_faultAt.1 qX2_faultAt.2 ⟨by decide, by decide⟩ ⟨_, _, rfl⟩ shX2_faultAt, callV_ok (t := 1) hg (mX1_takes hg) kX1_takes mlX4_210 qX1_takes.1 qX1_takes.2 ⟨by decide, by decide⟩ ⟨_, _, rfl⟩ shX1_takes, callV_ok (t := 1) hg (mX1_putArgument hg) kX1_putArgument mlX4_214 qX1_putArgument.1 qX1_putArgument.2 ⟨by decide, by decide⟩ ⟨_, _, rfl⟩ shX1_putArgument, trivial⟩ h, fdX4_ok, (fun _ _ h => by cases h), rfl⟩
theorem ft3 {s : Shp} {l x : Int32} (h : ftI s l x 3 = 0) (hs : ∀ l n cs, s = some (l, n, cs) → n ≤ 40) : ∃ l n cs m, s = some (l, n, cs) ∧ x = nI m ∧ m + 3 ≤ n ∧ n ≤ 40 := by
  cases s with
  | none => cases h
  | some q =>
    obtain ⟨l', n, cs⟩ := q
    have hn := hs l' n cs rfl
    unfold ftI at h
    dsimp only at h
    split at h
    · split at h
      · cases h
      · rename_i hh
        obtain ⟨m, hm, rfl⟩ := ge0 (x := x) (fun z => hh (Or.inl z))
        have : nI n - 3 < nI m ↔ n < m + 3 := sub_lt (n := n) (by omega) hm 3 (by decide)
        exact ⟨l', n, cs, m, rfl, rfl, by
          have h4 : ¬ n < m + 3 := fun z => hh (Or.inr (this.mpr z))
          omega, hn⟩
    · cases h
theorem rX4_read (av : List AV) (f : FF) (a : AA) (post : PT) (h : sX4_read av f a post) (X : XT) (hX : Clo eX4_read post X) : X 0 (padL 12 (ent av)) [] f a := by
  unfold sX4_read at h
  split at h
  · rename_i k l x n
    obtain ⟨A, hA, hO, h⟩ := h
    unfold anRead nxRead at h
    refine hX [53] 90 _ _ _ _ _ ?_
    have bad : okR k l n = false → post (some (.inl (-1))) f a := by
      intro hb
      simp only [hb, Bool.false_eq_true, if_false] at h
      exact h f a hA (S5.rf f a)
    refine ⟨fun d => ?_, fun d => ⟨fun d2 => ?_, fun d2 => ⟨fun d3 => ?_, fun d3 => ⟨fun d4 => ?_, fun d4 => ?_⟩⟩⟩⟩
    · exact bad (by simp only [okR, b2i_e0.mp d, Bool.false_and])
    · exact bad (by simp only [okR, b2i_e0.mp d2, Bool.false_and, Bool.and_false])
    · exact bad (by simp only [okR, decide_eq_false (fun (z : 0 ≤ n ∧ n ≤ 13) => absurd z.1 (Int32.not_le.mpr d3)), Bool.and_false])
    · have d := b2i_n0.mp d
      have d2 := b2i_n0.mp d2
      have hok : okR k l n = true := by simp only [okR, d, d2, decide_eq_true (And.intro (Int32.not_lt.mp d3) d4), Bool.and_self]
      simp only [hok, if_true] at h
      obtain ⟨j, rfl, hj⟩ := rng (M := 4) (by decide) (of_decide_eq_true d).1 (of_decide_eq_true d).2
      obtain ⟨m, hm, rfl⟩ := ge0 d3
      have hm13 : m ≤ 13 := (nI_leI (b := 13) hm (by decide)).mp d4
      have cj : (nI j).toNatClampNeg = j := nI_clamp (by omega)
      rw [cj, nI_clamp hm] at h
      have hs := hA.2.2.2.1 j hj
      have hsl := hO.2.2.2.2.1 j hj
      have ej : (raf 6).2 + (nI j).toNatClampNeg = j := by rw [cj]; exact Nat.zero_add j
      refine ⟨inA 4 rfl rfl hj (by decide), (by decide), fun f1 a1 hF1 hR1 hB1 => ?_⟩
      have hB1 := hB1 (hA.2.2.2.2.2.2 0 (by decide))
      have hR1 := hR1 (aP A) hO.1 hA.1
      have ks : (.inr (.inr ((raf 6).1, (raf 6).2 + (nI j).toNatClampNeg, 0)) : AV) = .inr (.inr (2, j, 0)) := by rw [ej]; rfl
      have k162 : ∀ i ft P f2 a2 z8 z9 z10 z11, AB (a2 1 1) → Fr f a f2 a2 1 1 → RC (f2 1 1) (a2 1 1) P → WF P → ft < 4 → post (some (.inl (nI i))) = post (some (.inl (nI i))) → (∀ f' a', RepC f' a' (P, aT A, aFt A, aI A, aS A, ft) → S5 f a f' a' → post (some (.inl (nI i))) f' a') → X 162 [some (.inr (.inr (4, 0, 0))), some (.inl (nI j)), some (.inl l), some (.inl x), some (.inl (nI m)), some (.inr (.inr (2, j, 0))), some (.inl (nI ft)), some (.inl (nI i)), z8, z9, z10, z11] [] f2 a2 := by
        intro i ft P f2 a2 z8 z9 z10 z11 hB hF hR hW hft _ hp
        refine hX [] 90 _ _ _ _ _ ?_
        refine ⟨(by decide), fun f3 a3 hF3 hR3 hB3 => ⟨Or.inr rfl, ?_⟩⟩
        have hR3 := hR3 P hW hR
        have T := hA.trial hF hB
        have K := T.1.told hF3 hR3 (hB3 hB)
        refine hp _ _ ⟨?_, ?_, ?_, ?_, ?_, ?_, K.1.2.2.2.2.2.2⟩ ?_
        · rw [upf_o _ _ (by decide)]; exact K.1.1
        · rw [upf_o _ _ (by decide)]; exact K.1.2.1
        · intro q hq
          rw [upf_o _ _ (by omega)]
          exact K.1.2.2.1 q hq
        · intro q hq
          rw [upf_o _ _ (by omega)]
          exact K.1.2.2.2.1 q hq
        · rw [upf_s, if_pos rfl]
        · refine Or.inl ?_
          rw [upf_s, if_neg (by decide), upf_s, if_pos rfl]
        · have := T.2.tr K.2
          exact ⟨by rw [upf_o _ _ (by decide)]; exact this.1, this.2⟩
      have key : ∀ (d i : Nat) (P : Pg) (f2 : FF) (a2 : AA) (z6 : Int32) (z8 z9 z10 z11 : Option AV), AB (a2 1 1) → i + d = m → Fr f a f2 a2 1 1 → RC (f2 1 1) (a2 1 1) P → WF P → (z6 = 0) → (∀ f' a', RepC f' a' (match rdN (aS A j) l x d i P with
            | .inl q => (q.2.2, aT A, aFt A, aI A, aS A, q.2.1)
            | .inr _ => A) → S5 f a f' a' → post (some (.inl (match rdN (aS A j) l x d i P with
            | .inl q => nI q.1
            | .inr i => -20 - nI i))) f' a') → X 53 [some (.inr (.inr (4, 0, 0))), some (.inl (nI j)), some (.inl l), some (.inl x), some (.inl (nI m)), some (.inr (.inr (2, j, 0))), some (.inl z6), some (.inl (nI i)), z8, z9, z10, z11] [] f2 a2 := by
        intro d
        induction d with
        | zero =>
          intro i P f2 a2 z6 z8 z9 z10 z11 hB hid hF hR hW hz hp
          subst hz
          refine hX [162] 90 _ _ _ _ _ ?_
          refine ⟨fun q => ?_, fun q => absurd (nI_le (by omega) (by omega)) q⟩
          exact k162 i 0 P f2 a2 z8 z9 z10 z11 hB hF hR hW (by decide) rfl hp
        | succ d ih =>
          intro i P f2 a2 z6 z8 z9 z10 z11 hB hid hF hR hW hz hp
          subst hz
          have eS := hF 2 j (by omega)
          have e4 := hF 4 0 (by omega)
          refine hX [53, 162] 90 _ _ _ _ _ ?_
          refine ⟨fun q => absurd q (nI_ge (by omega) (by omega)), fun q => ?_⟩
          refine ⟨aS A j, by rw [eS.1, eS.2]; exact hs, fun l n cs q => (hsl l n cs q).1, ?_⟩
          have hft := ftI_lt (aS A j) l (x + 3 * nI i) 3
          refine ⟨fun q2 => ?_, fun q2 => ?_⟩
          · have q2 : ftI (aS A j) l (x + 3 * nI i) 3 = 0 := (i_eq (b := 0) rfl rfl (show ftI (aS A j) l (x + 3 * nI i) 3 < 2 ^ 31 by omega) (by decide)).mp q2
            obtain ⟨l', n, cs, g, hsh, hg, hgn, hn⟩ := ft3 q2 (fun l n cs q => (hsl l n cs q).2)
            rw [hsh] at hs
            have eg1 : nI g + 1 = nI (g + 1) := (nI_succ g).symm
            have eg2 : nI g + 2 = nI (g + 2) := nI_add g 2
            have e0 : ∀ y : Int32, y = x + 3 * nI i → y.toNatClampNeg = g := fun y hy => by rw [hy, hg, nI_clamp (by omega)]
            refine ⟨inA 40 hg rfl (by omega) (by decide), inA 40 (by show x + 3 * nI i + 1 = _; rw [hg, eg1]) rfl (by omega) (by decide), inA 40 (by show x + 3 * nI i + 2 = _; rw [hg, eg2]) rfl (by omega) (by decide), ?_⟩
            have c0 : a2 2 j 0 (x + 3 * nI i).toNatClampNeg = cs (x + 3 * nI i).toNatClampNeg := by rw [eS.2, hg, nI_clamp (by omega)]; exact hs.2.2 g (by omega)
            have c1 : a2 2 j 0 (x + 3 * nI i + 1).toNatClampNeg = cs (x + 3 * nI i + 1).toNatClampNeg := by rw [eS.2, hg, eg1, nI_clamp (by omega)]; exact hs.2.2 _ (by omega)
            have c2 : a2 2 j 0 (x + 3 * nI i + 2).toNatClampNeg = cs (x + 3 * nI i + 2).toNatClampNeg := by rw [eS.2, hg, eg2, nI_clamp (by omega)]; exact hs.2.2 _ (by omega)
            refine ⟨P, hR, hW, ?_⟩
            dsimp only
            rw [c0, c1, c2]
            have er : rdN (aS A j) l x (d + 1) i P = if takesB P (cs (x + 3 * nI i).toNatClampNeg) (cs (x + 3 * nI i + 1).toNatClampNeg) (cs (x + 3 * nI i + 2).toNatClampNeg) then rdN (aS A j) l x d (i + 1) (setA P (cs (x + 3 * nI i).toNatClampNeg).toNatClampNeg (cs (x + 3 * nI i + 1).toNatClampNeg).toNatClampNeg (cs (x + 3 * nI i + 2).toNatClampNeg).toNatClampNeg) else .inr i := by
              rw [rdN.eq_def]
              dsimp only
              rw [if_pos q2, hsh]
            rw [er] at hp
            refine ⟨fun q3 => ?_, fun q3 => ?_⟩
            · have q3 := b2i_n0.mp q3
              simp only [q3, if_true] at hp
              obtain ⟨n1, m1, y1, f1e, hn1, f2e, hm1, f3e, hy1, hok1⟩ := takes_spec hW q3
              have h12 := hW.l12
              have hat := hW.ar_to hn1
              rw [f1e, f2e, f3e, nI_clamp (show n1 < 2 ^ 31 by omega), nI_clamp (show m1 < 2 ^ 31 by omega), nI_clamp (show y1 < 2 ^ 31 by omega)] at hp
              rw [f1e, f2e, f3e]
              refine ⟨n1, m1, rfl, rfl, by omega, ?_⟩
              have n2 := ih (i + 1) (setA P n1 m1 y1) f2 (upa a2 1 1 3 (2 * n1 + m1) (nI y1)) (nI (ftI (aS A j) l (x + 3 * nI i) 3)) (some (.inl (x + 3 * nI i))) (some (.inl (nI n1))) (some (.inl (nI m1))) (some (.inl (nI y1))) (fun w hw => by rw [upa_s, if_neg (by decide)]; exact hB w hw) (by omega) (hF.ua 3 _ _) (hR.stA hn1 (by omega)) (hW.stA hn1 hm1 hok1) (by rw [q2]; rfl) hp
              rw [nI_succ] at n2
              exact n2
            · have q3 := b2i_e0.mp q3
              simp only [q3, Bool.false_eq_true, if_false] at hp
              have T := hA.trial hF hB
              exact hp f2 a2 T.1 T.2
          · have q2 : ¬ ftI (aS A j) l (x + 3 * nI i) 3 = 0 := fun z => q2 (by rw [z]; rfl)
            have er : rdN (aS A j) l x (d + 1) i P = .inl (i, ftI (aS A j) l (x + 3 * nI i) 3, P) := by
              rw [rdN.eq_def]
              dsimp only
              rw [if_neg q2]
            rw [er] at hp
            exact k162 i _ P f2 a2 _ z9 z10 z11 hB hF hR hW hft rfl hp
      have K := key m 0 (aP A) f1 a1 0 none none none none hB1 (by omega) hF1 hR1 hO.1 rfl h
      rw [← ks] at K
      exact K
    · exact bad (by simp only [okR, decide_eq_false (fun (z : 0 ≤ n ∧ n ≤ 13) => d4 z.2), Bool.and_false])
  · exact h.elim
theorem shX4_read : ∀ As f a Q, sX4_read As f a Q → ∃ i r, As = .inr (.inr (4, i, 0)) :: r := by
  intro As f a Q h
  unfold sX4_read at h
  split at h
  · exact ⟨_, _, rfl⟩
  · exact h.elim
theorem mX4_read {g : Gm} (hg : GmOK g) : MetC g yX4_read cX4_read 12 (some .int) 3 sX4_read := by
  refine MetC_of hg eX4_read (eokX4_read hg) (by decide +kernel) (fun av f a post h => ?_) rX4_read
  unfold sX4_read at h
  split at h
  · exact Nat.le_of_ble_eq_true rfl
  · exact h.elim
end
section
/-! constants; runs -/
theorem cst_int {g : Gm} {own : String} {idx : Nat} {v : Int32} (h : Cond.constant own idx v ∈ WS) : CstOK g own idx (.inl v) := by
  intro p e R s m args below meth c cc Qg H locs ls pc len rest i hx hb hown hts hG hS hd hl hi k
  rcases hi with rfl | rfl
  · have hl : len = 2 := hl
    subst hl
    exact lv_ldc hx hb hown (hts _ h) hd k
  · have hl : len = 3 := hl
    subst hl
    exact lv_ldcw hx hb hown (hts _ h) hd k
theorem cst_long {g : Gm} {own : String} {idx : Nat} {v : Int64} (h : Cond.constantLong own idx v ∈ WS) : CstOK g own idx (.inr (.inl v)) := by
  intro p e R s m args below meth c cc Qg H locs ls pc len rest i hx hb hown hts hG hS hd hl hi k
  have hi : i = .ldc2_w idx := hi
  subst hi
  have hl : len = 3 := hl
  subst hl
  exact lv_ldc2 hx hb hown (hts _ h) hd k
theorem cst_str {g : Gm} (hg : GmOK g) (i : Nat) (hi : i < 4) : CstOK g RX3 (strI i) (.inr (.inr (9, i, 0))) := by
  intro p e R s m args below meth c cc Qg H locs ls pc len rest j hx hb hown hts hG hS hd hl hj k
  have hj : j = .ldc (strI i) := hj
  subst hj
  have hl : len = 2 := hl
  subst hl
  exact va_ldcS hx hb hown ((hg.2.2.2.2 s hG).2.2.2.1 i hi) hd k
theorem cstX4_237 {g : Gm} : CstOK g RX4 237 (.inl 1103515245) ∧ vld (.inl 1103515245) := ⟨cst_int (inWS 644 (by decide +kernel) rfl), trivial⟩
theorem cstX5_262 {g : Gm} : CstOK g RX5 262 (.inl 1103515245) ∧ vld (.inl 1103515245) := ⟨cst_int (inWS 1074 (by decide +kernel) rfl), trivial⟩
theorem cstX5_101 {g : Gm} : CstOK g RX5 101 (.inr (.inl 48)) ∧ vld (.inr (.inl 48)) := ⟨cst_long (inWS 835 (by decide +kernel) rfl), trivial⟩
theorem cstX5_103 {g : Gm} : CstOK g RX5 103 (.inr (.inl 57)) ∧ vld (.inr (.inl 57)) := ⟨cst_long (inWS 836 (by decide +kernel) rfl), trivial⟩
theorem cstX5_226 {g : Gm} : CstOK g RX5 226 (.inr (.inl 3)) ∧ vld (.inr (.inl 3)) := ⟨cst_long (inWS 982 (by decide +kernel) rfl), trivial⟩
theorem cstX5_231 {g : Gm} : CstOK g RX5 231 (.inr (.inl 2)) ∧ vld (.inr (.inl 2)) := ⟨cst_long (inWS 991 (by decide +kernel) rfl), trivial⟩
theorem cstX5_236 {g : Gm} : CstOK g RX5 236 (.inr (.inl 80)) ∧ vld (.inr (.inl 80)) := ⟨cst_long (inWS 1008 (by decide +kernel) rfl), trivial⟩
theorem cstX5_238 {g : Gm} : CstOK g RX5 238 (.inr (.inl 499)) ∧ vld (.inr (.inl 499)) := ⟨cst_long (inWS 1036 (by decide +kernel) rfl), trivial⟩
theorem cstX5_257 {g : Gm} : CstOK g RX5 257 (.inr (.inl 99)) ∧ vld (.inr (.inl 99)) := ⟨cst_long (inWS 1065 (by decide +kernel) rfl), trivial⟩
theorem cstX5_272 {g : Gm} : CstOK g RX5 272 (.inr (.inl 13)) ∧ vld (.inr (.inl 13)) := ⟨cst_long (inWS 1106 (by decide +kernel) rfl), trivial⟩
theorem cstX5_69 {g : Gm} : CstOK g RX5 69 (.inr (.inl 127)) ∧ vld (.inr (.inl 127)) := ⟨cst_long (inWS 813 (by decide +kernel) rfl), trivial⟩
theorem cstX5_97 {g : Gm} : CstOK g RX5 97 (.inr (.inl 97)) ∧ vld (.inr (.inl 97)) := ⟨cst_long (inWS 833 (by decide +kernel) rfl), trivial⟩
theorem cstX5_99 {g : Gm} : CstOK g RX5 99 (.inr (.inl 122)) ∧ vld (.inr (.inl 122)) := ⟨cst_long (inWS 834 (by decide +kernel) rfl), trivial⟩
theorem cstX3_28 {g : Gm} (hg : GmOK g) : CstOK g RX3 28 (.inr (.inr (9, 0, 0))) ∧ vld (.inr (.inr (9, 0, 0))) := ⟨cst_str hg 0 (by decide), Or.inr ⟨rfl, by decide, rfl⟩⟩
theorem cstX3_38 {g : Gm} (hg : GmOK g) : CstOK g RX3 38 (.inr (.inr (9, 1, 0))) ∧ vld (.inr (.inr (9, 1, 0))) := ⟨cst_str hg 1 (by decide), Or.inr ⟨rfl, by decide, rfl⟩⟩
theorem cstX3_92 {g : Gm} (hg : GmOK g) : CstOK g RX3 92 (.inr (.inr (9, 2, 0))) ∧ vld (.inr (.inr (9, 2, 0))) := ⟨cst_str hg 2 (by decide), Or.inr ⟨rfl, by decide, rfl⟩⟩
theorem cstX3_94 {g : Gm} (hg : GmOK g) : CstOK g RX3 94 (.inr (.inr (9, 3, 0))) ∧ vld (.inr (.inr (9, 3, 0))) := ⟨cst_str hg 3 (by decide), Or.inr ⟨rfl, by decide, rfl⟩⟩
/-! the calls that are made -/
def cntU (p : Nat → Bool) : Nat → Nat → Nat
  | 0, _ => 0
  | d + 1, i => (if p i then 1 else 0) + cntU p d (i + 1)
theorem cnt_U (p : Nat → Bool) : ∀ d i, cnt p (i + d) = cnt p i + cntU p d i
  | 0, i => rfl
  | d + 1, i => by
    rw [show i + (d + 1) = (i + 1) + d by omega, cnt_U p d (i + 1), cnt, cntU]
    omega
theorem nthU_ok (p : Nat → Bool) : ∀ d i k, k < cntU p d i → nthU p d i k < i + d ∧ p (nthU p d i k) = true
  | 0, i, k, h => absurd h (Nat.not_lt_zero k)
  | d + 1, i, k, h => by
    unfold nthU
    unfold cntU at h
    by_cases hp : p i = true
    · rw [if_pos hp] at h
      rw [if_pos hp]
      by_cases hk : k = 0
      · rw [if_pos hk]
        exact ⟨by omega, hp⟩
      · rw [if_neg hk]
        have := nthU_ok p d (i + 1) (k - 1) (by omega)
        exact ⟨by omega, this.2⟩
    · rw [if_neg hp] at h
      rw [if_neg hp]
      have := nthU_ok p d (i + 1) k (by omega)
      exact ⟨by omega, this.2⟩
theorem nth_ok {p : Nat → Bool} {n k : Nat} (h : k < cnt p n) : nthU p n 0 k < n ∧ p (nthU p n 0 k) = true := by
  have h1 := cnt_U p n 0
  rw [Nat.zero_add] at h1
  have h2 := nthU_ok p n 0 k (by rw [h1] at h; simpa [cnt] using h)
  rw [Nat.zero_add] at h2
  exact h2
def gotI (x : Int32) : Int32 := (x.toUInt32 >>> ((16 : Int32).toUInt32 &&& Int32.toUInt32 31)).toInt32 &&& 32767
theorem gotI_n (x : Int32) : ∃ j, j < 32768 ∧ gotI x = nI j := by
  obtain ⟨j, hj, h⟩ := pk_andE ((x.toUInt32 >>> ((16 : Int32).toUInt32 &&& Int32.toUInt32 31)).toInt32) (m := 32767) 15 (by decide)
  exact ⟨j, hj, h⟩
/-- from function n with values va, vb by a seed: how many calls, of at most d more -/
def rnU (P : Pg) : Nat → Nat → Nat → Nat → Int32 → Nat → Int32
  | 0, _, _, _, _, _ => -4
  | d + 1, n, va, vb, s, made => if cnt (mdB P n va vb) P.2.length = 0 then nI made else
      (fun (s1 : Int32) => (fun (c : Nat) => rnU P d (to P c) (worthN (ag P c 0) va vb) (worthN (ag P c 1) va vb) s1 (made + 1)) (nthU (mdB P n va vb) P.2.length 0 ((gotI s1).toNatClampNeg % cnt (mdB P n va vb) P.2.length))) (s * 1103515245 + 12345)
def okN (A : Ab) (n x y : Int32) : Bool := isF A n && (decide (0 ≤ x ∧ x ≤ 99) && (decide (0 ≤ y ∧ y ≤ 99) && (!(decide (ar (aP A) n.toNatClampNeg = 1)) || decide (y = 0))))
def anRun (A : Ab) (n x y s : Int32) : Int32 := if okN A n x y then rnU (aP A) 200 n.toNatClampNeg x.toNatClampNeg y.toNatClampNeg s 0 else -1
def sX4_run : SP := fun As f a Q => match As with
  | [.inr (.inr (4, 0, 0)), .inl n, .inl x, .inl y, .inl s] => ∃ A, RepC f a A ∧ OKA A ∧ ∀ f' a', RepC f' a' A → S5 f a f' a' → Q (some (.inl (anRun A n x y s))) f' a'
  | _ => False
def eX4_run : En := (tX4_run, [(108, false, 2, sX1_hasFunction), (234, false, 4, sX1_callsMade), (238, false, 5, sX1_callMade), (242, false, 5, sX1_worth)], fdX4, [(237, .inl 1103515245)], 0)
theorem eokX4_run {g : Gm} (hg : GmOK g) : EnvOK g 3 RX4 cX4_run (some .int) eX4_run := ⟨okX4_run, fun _ _ _ _ h => as2_all (P := fun i v => CallOK g 3 RX4 i v.1 v.2.1 v.2.2) (l := eX4_run.2.1) ⟨callV_ok (t := 1) hg (mX1_hasFunction hg) kX1_hasFunction mlX4_108 qX1_hasFunction.1 qX1_hasFunction.2 ⟨by decide, by decide⟩ ⟨_, _, rfl⟩ shX1_hasFunction, callV_ok (t := 1) hg (mX1_callsMade hg) kX1_callsMade mlX4_234 qX1_callsMade.1 qX1_callsMade.2 ⟨by decide, by decide⟩ ⟨_, _, rfl⟩ shX1_callsMade, callV_ok (t := 1) hg (mX1_callMade hg) kX1_callMade mlX4_238 qX1_callMade.1 qX1_callMade.2 ⟨by decide, by decide⟩ ⟨_, _, rfl⟩ shX1_callMade, callV_ok (t := 1) hg (mX1_worth hg) kX1_worth mlX4_242 qX1_worth.1 qX1_worth.2 ⟨by decide, by decide⟩ ⟨_, _, rfl⟩ shX1_worth, trivial⟩ h, fdX4_ok, fun _ _ h => as2_all (P := fun i v => CstOK g RX4 i v ∧ vld v) (l := eX4_run.2.2.2.1) ⟨cstX4_237, trivial⟩ h, rfl⟩
theorem okM_v {x va vb : Nat} (h : okM x va vb = true) (h1 : x / 100 = 1) : x % 10 ≤ valN x va vb := by
  unfold okM at h
  simp [h1] at h
  exact h
theorem okA_2 {n x : Nat} (h : okA n x = true) (h2 : x / 100 = 2) : 0 < x % 10 := by
  unfold okA at h
  simp [h2] at h
  omega
theorem worth_lt {x va vb : Nat} (hx : x < 500) (ha : va < 1000) (hb : vb < 1000) : worthN x va vb < 1000 := by
  have hv : valN x va vb < 1000 := by unfold valN; split <;> omega
  unfold worthN
  split
  · omega
  · split
    · have := Nat.div_le_self (valN x va vb) (x % 10); omega
    · split
      · omega
      · split
        · omega
        · omega
theorem allK_at {p : Nat → Bool} : ∀ {n k : Nat}, allK p n = true → k < n → p k = true
  | n + 1, k, h, hk => by
    unfold allK at h
    simp only [Bool.and_eq_true] at h
    rcases (show k < n ∨ k = n by omega) with z | rfl
    · exact allK_at h.1 z
    · exact h.2
/-- what worth() asks of an argument of a call that is made -/
theorem wrt {P : Pg} (hW : WF P) {c n va vb k : Nat} (hc : c < P.2.length) (hm : mdB P n va vb c = true) (hk : k < 2) : (ag P c k / 100 = 1 → ag P c k % 10 ≤ valN (ag P c k) va vb) ∧ (ag P c k / 100 = 2 → 0 < ag P c k % 10) := by
  unfold mdB madeB at hm
  simp only [Bool.and_eq_true] at hm
  have hat := hW.ar_to hc
  have hokc := hW.2.2.2 c hc
  by_cases hlt : k < ar P (to P c)
  · have h1 := allK_at hm.2 hlt
    refine ⟨fun h => okM_v h1 h, fun h => ?_⟩
    rcases (show k = 0 ∨ k = 1 by omega) with rfl | rfl
    · exact okA_2 hokc.2.2.1 h
    · have h2 := hokc.2.2.2
      have ea : ar P (cl P c).2.1 = ar P (to P c) := rfl
      rw [ea, if_pos (by omega)] at h2
      exact okA_2 h2 h
  · have hk1 : k = 1 := by omega
    have h2 := hokc.2.2.2
    have ea : ar P (cl P c).2.1 = ar P (to P c) := rfl
    rw [ea, if_neg (by omega)] at h2
    subst hk1
    have h0 : ag P c 1 = 0 := h2
    rw [h0]
    exact ⟨fun h => by omega, fun h => by omega⟩
theorem rX4_run (av : List AV) (f : FF) (a : AA) (post : PT) (h : sX4_run av f a post) (X : XT) (hX : Clo eX4_run post X) : X 0 (padL 13 (ent av)) [] f a := by
  unfold sX4_run at h
  split at h
  · rename_i n x y s
    obtain ⟨A, hA, hO, h⟩ := h
    have h := h f a hA (S5.rf f a)
    have h12 := hO.1.l12
    have h3 := hO.1.l3
    unfold anRun at h
    have bad : okN A n x y = false → post (some (.inl (-1))) f a := by
      intro hb
      simp only [hb, Bool.false_eq_true, if_false] at h
      exact h
    refine hX [52, 68] 90 _ _ _ _ _ ?_
    have eF : b2i (decide (0 ≤ n ∧ n < f 1 0 4)) = b2i (isF A n) := by rw [hA.1.1]; rfl
    refine ⟨fun d => ?_, fun d => ⟨fun d1 => ?_, fun d1 => ⟨fun d2 => ?_, fun d2 => ⟨fun d3 => ?_, fun d3 => ⟨fun d4 => ?_, fun d4 => ?_⟩⟩⟩⟩⟩
    · rw [eF] at d
      exact bad (by simp only [okN, b2i_e0.mp d, Bool.false_and])
    · exact bad (by simp only [okN, decide_eq_false (fun (z : 0 ≤ x ∧ x ≤ 99) => absurd z.1 (Int32.not_le.mpr d1)), Bool.false_and, Bool.and_false])
    · exact bad (by simp only [okN, decide_eq_false (fun (z : 0 ≤ x ∧ x ≤ 99) => absurd z.2 (Int32.not_le.mpr d2)), Bool.false_and, Bool.and_false])
    · exact bad (by simp only [okN, decide_eq_false (fun (z : 0 ≤ y ∧ y ≤ 99) => absurd z.1 (Int32.not_le.mpr d3)), Bool.false_and, Bool.and_false])
    · rw [eF] at d
      have d := b2i_n0.mp d
      obtain ⟨i, rfl, hi, hi3⟩ := isF_i hO d
      obtain ⟨va, hva, rfl⟩ := ge0 d1
      obtain ⟨vb, hvb, rfl⟩ := ge0 d3
      have hva9 : va ≤ 99 := (nI_leI (b := 99) hva (by decide)).mp (Int32.not_lt.mp d2)
      have hvb9 : vb ≤ 99 := (nI_leI (b := 99) hvb (by decide)).mp d4
      have ci : (nI i).toNatClampNeg = i := nI_clamp (by omega)
      have hai := hO.1.2.2.1 i hi
      refine ⟨inA 3 rfl rfl hi3 (by decide), ?_⟩
      have k52 : (ar (aP A) i = 1 → vb = 0) → X 52 [some (.inr (.inr (4, 0, 0))), some (.inl (nI i)), some (.inl (nI va)), some (.inl (nI vb)), some (.inl s), none, none, none, none, none, none, none, none] [] f a := by
        intro hcd
        have hok : okN A (nI i) (nI va) (nI vb) = true := by
          simp only [okN, d, decide_eq_true (And.intro (Int32.not_lt.mp d1) (Int32.not_lt.mp d2)), decide_eq_true (And.intro (Int32.not_lt.mp d3) d4), Bool.true_and, ci]
          by_cases ha1 : ar (aP A) i = 1
          · rw [hcd ha1]; simp; exact Or.inr rfl
          · simp [ha1]
        simp only [hok, if_true, ci, nI_clamp hva, nI_clamp hvb] at h
        refine hX [68] 90 _ _ _ _ _ ?_
        have key : ∀ (e at_ wa wb : Nat) (sd : Int32) (made : Nat) (z10 z11 z12 : Option AV), made + e = 200 → at_ < (aP A).1.length → wa < 1000 → wb < 1000 → post (some (.inl (rnU (aP A) e at_ wa wb sd made))) f a → X 68 [some (.inr (.inr (4, 0, 0))), some (.inl (nI i)), some (.inl (nI va)), some (.inl (nI vb)), some (.inl s), some (.inl (nI at_)), some (.inl (nI wa)), some (.inl (nI wb)), some (.inl sd), some (.inl (nI made)), z10, z11, z12] [] f a := by
          intro e
          induction e with
          | zero =>
            intro at_ wa wb sd made z10 z11 z12 hm hat hwa hwb h
            refine hX [68] 90 _ _ _ _ _ ?_
            refine ⟨fun q => h, fun q => absurd (nI_le (a := 200) (b := made) (by omega) (by omega)) q⟩
          | succ e ih =>
            intro at_ wa wb sd made z10 z11 z12 hm hat hwa hwb h
            have hcn : cnt (mdB (aP A) at_ wa wb) (aP A).2.length ≤ 12 := Nat.le_trans (cnt_le _ _) h12
            refine hX [68] 90 _ _ _ _ _ ?_
            refine ⟨fun q => absurd q (nI_ge (b := 200) (by omega) (by decide)), fun q => ?_⟩
            refine ⟨aP A, at_, wa, wb, hA.1, hO.1, rfl, by omega, rfl, hwa, rfl, hwb, ?_⟩
            unfold rnU at h
            refine ⟨fun q2 => ?_, fun q2 => ?_⟩
            · have q2 : ¬ cnt (mdB (aP A) at_ wa wb) (aP A).2.length = 0 := fun z => q2 (by rw [z]; rfl)
              rw [if_neg q2] at h
              dsimp only at h
              obtain ⟨j, hj, ej⟩ := gotI_n (sd * 1103515245 + 12345)
              have hmod : j % cnt (mdB (aP A) at_ wa wb) (aP A).2.length < cnt (mdB (aP A) at_ wa wb) (aP A).2.length := Nat.mod_lt _ (by omega)
              have hgot : (gotI (sd * 1103515245 + 12345)).toNatClampNeg = j := by rw [ej, nI_clamp (by omega)]
              rw [hgot] at h
              obtain ⟨hc, hmd⟩ := nth_ok hmod
              refine ⟨fun z => q2 ((i_eq (b := 0) rfl rfl (by omega) (by decide)).mp z), ?_⟩
              have ek : gotI (sd * 1103515245 + 12345) - gotI (sd * 1103515245 + 12345) / nI (cnt (mdB (aP A) at_ wa wb) (aP A).2.length) * nI (cnt (mdB (aP A) at_ wa wb) (aP A).2.length) = nI (j % cnt (mdB (aP A) at_ wa wb) (aP A).2.length) := by
                rw [ej]
                exact pk_rem (by omega) (by omega) (by omega)
              refine ⟨aP A, at_, wa, wb, j % cnt (mdB (aP A) at_ wa wb) (aP A).2.length, hA.1, hO.1, rfl, by omega, rfl, hwa, rfl, hwb, ek, by omega, ?_⟩
              have hag0 := hO.1.ag_lt (k := 0) hc
              have hag1 := hO.1.ag_lt (k := 1) hc
              have w0 := wrt hO.1 hc hmd (k := 0) (by decide)
              have w1 := wrt hO.1 hc hmd (k := 1) (by decide)
              refine ⟨ag (aP A) _ 0, _, 0, wa, wb, hA.1.arg hc (by decide), hag0, rfl, rfl, by omega, rfl, hwa, rfl, hwb, w0.1, w0.2, ?_⟩
              refine ⟨ag (aP A) _ 1, _, 1, wa, wb, hA.1.arg hc (by decide), hag1, rfl, rfl, by omega, rfl, hwa, rfl, hwb, w1.1, w1.2, ?_⟩
              refine ⟨inA 12 rfl rfl (by omega) (by decide), ?_⟩
              have n1 := ih (to (aP A) (nthU (mdB (aP A) at_ wa wb) (aP A).2.length 0 (j % cnt (mdB (aP A) at_ wa wb) (aP A).2.length))) _ _ _ (made + 1) (some (.inl (nI (cnt (mdB (aP A) at_ wa wb) (aP A).2.length)))) (some (.inl (nI (nthU (mdB (aP A) at_ wa wb) (aP A).2.length 0 (j % cnt (mdB (aP A) at_ wa wb) (aP A).2.length))))) (some (.inl (nI (worthN (ag (aP A) (nthU (mdB (aP A) at_ wa wb) (aP A).2.length 0 (j % cnt (mdB (aP A) at_ wa wb) (aP A).2.length)) 0) wa wb)))) (by omega) (hO.1.to_lt hc) (worth_lt hag0 hwa hwb) (worth_lt hag1 hwa hwb) h
              rw [nI_succ, ← hA.1.to_i hO.1 hc] at n1
              exact n1
            · have q2 : cnt (mdB (aP A) at_ wa wb) (aP A).2.length = 0 := (i_eq (b := 0) rfl rfl (by omega) (by decide)).mp q2
              rw [if_pos q2] at h
              exact h
        exact key 200 i va vb s 0 none none none (by omega) hi (by omega) (by omega) h
      refine ⟨fun q => ?_, fun q => ⟨fun q2 => ?_, fun q2 => ?_⟩⟩
      · rw [hA.1.ar_i hO.1 hi] at q
        exact k52 (fun z => absurd (by rw [z]; rfl) q)
      · have q2 := (i_eq (b := 0) rfl rfl hvb (by decide)).mp q2
        exact k52 (fun _ => q2)
      · rw [hA.1.ar_i hO.1 hi] at q
        have q := (i_eq (b := 1) rfl rfl (by omega) (by decide)).mp q
        exact bad (by simp only [okN, ci, q, decide_eq_false q2, decide_true, Bool.not_true, Bool.or_self, Bool.and_false])
    · exact bad (by simp only [okN, decide_eq_false (fun (z : 0 ≤ y ∧ y ≤ 99) => d4 z.2), Bool.false_and, Bool.and_false])
  · exact h.elim
theorem shX4_run : ∀ As f a Q, sX4_run As f a Q → ∃ i r, As = .inr (.inr (4, i, 0)) :: r := by
  intro As f a Q h
  unfold sX4_run at h
  split at h
  · exact ⟨_, _, rfl⟩
  · exact h.elim
theorem mX4_run {g : Gm} (hg : GmOK g) : MetC g yX4_run cX4_run 13 (some .int) 3 sX4_run := by
  refine MetC_of hg eX4_run (eokX4_run hg) (by decide +kernel) (fun av f a post h => ?_) rX4_run
  unfold sX4_run at h
  split at h
  · exact Nat.le_of_ble_eq_true rfl
  · exact h.elim
end
section
/-! what the closing finds: all that words of calls are, composed -/
abbrev K3 : Type := Nat × Nat × Nat
def InS (B : K3 → Prop) (k : K3) : Prop := ∀ S : K3 → Prop, (∀ b, B b → S b) → (∀ s b, S s → B b → b.1 = s.2.1 → S (s.1, b.2.1, compN s.2.2 b.2.2)) → S k
theorem InS.mono {B B' : K3 → Prop} (h : ∀ b, B b → B' b) {k : K3} (hk : InS B k) : InS B' k := fun S h1 h2 => hk S (fun b hb => h1 b (h b hb)) (fun s b hs hb => h2 s b hs (h b hb))
theorem InS.one {B : K3 → Prop} {b : K3} (h : B b) : InS B b := fun _ h1 _ => h1 b h
theorem InS.next {B : K3 → Prop} {s b : K3} (hs : InS B s) (hb : B b) (e : b.1 = s.2.1) : InS B (s.1, b.2.1, compN s.2.2 b.2.2) := fun S h1 h2 => h2 s b (hs S h1 h2) hb e
def Bk (K : Kf) (act : Nat → Bool) (n : Nat) : K3 → Prop := fun b => ∃ c, c < n ∧ act c = true ∧ K c = b
def ky (e : Gr) : K3 := (e.1, e.2.1, e.2.2.1)
/-- all entries are words; those without a call c are words without it -/
def SND (K : Kf) (n : Nat) (act : Nat → Bool) (L : List Gr) : Prop := ∀ g, g < L.length → InS (Bk K act n) (ky (ge L g)) ∧ ∀ c, c < n → (ge L g).2.2.2.2.2.2.testBit c = false → InS (Bk K (fun j => act j && decide (j ≠ c)) n) (ky (ge L g))
theorem SND_meet {K : Kf} {n : Nat} {act : Nat → Bool} {L : List Gr} (h : SND K n act L) {f t c la : Nat} {ah : Option Nat} (h1 : InS (Bk K act n) (f, t, c)) (h2 : ∀ j, j < n → (newE L f t c ah la).2.2.2.2.2.2.testBit j = false → InS (Bk K (fun i => act i && decide (i ≠ j)) n) (f, t, c)) : SND K n act (meetL L f t c ah la) := by
  unfold meetL
  split
  · exact h
  · intro g hg
    have hg : g < L.length ∨ g = L.length := by simp at hg; omega
    rcases hg with hg | rfl
    · rw [ge_app hg]
      exact h g hg
    · rw [ge_last]
      exact ⟨h1, h2⟩
theorem bit_one {la j : Nat} : (2 ^ la).testBit j = decide (la = j) := Nat.testBit_two_pow
theorem SND_ph1 {K : Kf} {n : Nat} {act : Nat → Bool} : ∀ m, m ≤ n → SND K n act (ph1 K act m)
  | 0, _ => fun g hg => absurd hg (Nat.not_lt_zero g)
  | m + 1, hm => by
    have ih := SND_ph1 (K := K) (n := n) (act := act) m (by omega)
    unfold ph1
    split
    · rename_i ha
      refine SND_meet ih (InS.one ⟨m, by omega, ha, rfl⟩) (fun j hj hb => InS.one ⟨m, by omega, ?_, rfl⟩)
      have hb : (2 ^ m ||| 0).testBit j = false := hb
      rw [Nat.or_zero, bit_one] at hb
      simp [ha]
      exact of_decide_eq_false hb
    · exact ih
theorem SND_inn {K : Kf} {n : Nat} {act : Nat → Bool} {L : List Gr} {g : Nat} (hg : g < L.length) (h : SND K n act L) : ∀ m, m ≤ n → SND K n act (inn K act L g m)
  | 0, _ => h
  | m + 1, hm => by
    have ih := SND_inn (K := K) (act := act) hg h m (by omega)
    obtain ⟨M, hM⟩ := inn_pre (K := K) (act := act) (L := L) (g := g) m
    have hge : ge (inn K act L g m) g = ge L g := by rw [hM, ge_app hg]
    unfold inn
    split
    · rename_i ha
      simp only [Bool.and_eq_true, decide_eq_true_eq] at ha
      have hq := h g hg
      refine SND_meet ih (InS.next hq.1 (b := K m) ⟨m, by omega, ha.1, rfl⟩ ha.2) (fun j hj hb => ?_)
      have hb : (2 ^ m ||| (ge (inn K act L g m) g).2.2.2.2.2.2).testBit j = false := hb
      rw [hge, Nat.testBit_or, bit_one] at hb
      simp only [Bool.or_eq_false_iff] at hb
      refine InS.next (hq.2 j hj hb.2) (b := K m) ⟨m, by omega, ?_, rfl⟩ ha.2
      simp [ha.1]
      exact of_decide_eq_false hb.1
    · exact ih
theorem SND_out {K : Kf} {n : Nat} {act : Nat → Bool} : ∀ (d : Nat) (L : List Gr) (g : Nat), SND K n act L → SND K n act (out K act n d L g)
  | 0, _, _, h => h
  | d + 1, L, g, h => by
    unfold out
    split
    · rename_i hg
      exact SND_out d _ _ (SND_inn hg h n (Nat.le_refl _))
    · exact h
theorem SND_clo (K : Kf) (act : Nat → Bool) (n : Nat) : SND K n act (cloG K act n) := SND_out 730 _ 0 (SND_ph1 n (Nat.le_refl _))
theorem ph1_has {K : Kf} {act : Nat → Bool} : ∀ {m c : Nat}, c < m → act c = true → ∃ g, fnd (ph1 K act m) (pl (K c).1 (K c).2.1 (K c).2.2) = some g
  | m + 1, c, hc, ha => by
    unfold ph1
    rcases (show c < m ∨ c = m by omega) with z | rfl
    · obtain ⟨g, hg⟩ := ph1_has (K := K) z ha
      split
      · obtain ⟨M, hM⟩ := meet_pre (ph1 K act m) (K m).1 (K m).2.1 (K m).2.2 none m
        exact ⟨g, by rw [hM]; exact fnd_pre hg⟩
      · exact ⟨g, hg⟩
    · rw [if_pos ha]
      exact meet_has _ _ _ _ _ _
/-- graph g has been composed with every call -/
def PRC (K : Kf) (act : Nat → Bool) (n : Nat) (L : List Gr) (g : Nat) : Prop := ∀ c, c < n → act c = true → (K c).1 = (ge L g).2.1 → ∃ h, fnd L (pl (ge L g).1 (K c).2.1 (compN (ge L g).2.2.1 (K c).2.2)) = some h
theorem inn_has {K : Kf} {act : Nat → Bool} {L : List Gr} {g : Nat} : ∀ {m c : Nat}, c < m → act c = true → (K c).1 = (ge L g).2.1 → ∃ h, fnd (inn K act L g m) (pl (ge L g).1 (K c).2.1 (compN (ge L g).2.2.1 (K c).2.2)) = some h
  | m + 1, c, hc, ha, he => by
    unfold inn
    rcases (show c < m ∨ c = m by omega) with z | rfl
    · obtain ⟨h, hh⟩ := inn_has (L := L) (g := g) z ha he
      split
      · obtain ⟨M, hM⟩ := meet_pre (inn K act L g m) (ge L g).1 (K m).2.1 (compN (ge L g).2.2.1 (K m).2.2) (some g) m
        exact ⟨h, by rw [hM]; exact fnd_pre hh⟩
      · exact ⟨h, hh⟩
    · rw [if_pos (by simp [ha, he])]
      exact meet_has _ _ _ _ _ _
theorem out_prc {K : Kf} {act : Nat → Bool} {n : Nat} (hK : okK K n) : ∀ (d : Nat) (L : List Gr) (g : Nat), g + d = 730 → WL L → (∀ g', g' < g → g' < L.length → PRC K act n L g') → ∀ g', g' < (out K act n d L g).length → PRC K act n (out K act n d L g) g'
  | 0, L, g, hd, hL, h, g', hg' => by
    have := WL_len hL
    have hg' : g' < L.length := hg'
    exact h g' (by omega) hg'
  | d + 1, L, g, hd, hL, h, g', hg' => by
    unfold out at hg' ⊢
    split at hg'
    · rename_i hg
      rw [if_pos hg]
      obtain ⟨M, hM⟩ := inn_pre (K := K) (act := act) (L := L) (g := g) n
      refine out_prc hK d _ (g + 1) (by omega) (inn_ok hK hL hg n (Nat.le_refl _)) (fun x hx hxl => ?_) g' hg'
      rcases (show x < g ∨ x = g by omega) with z | rfl
      · have hxl : x < L.length := by omega
        have hge : ge (inn K act L g n) x = ge L x := by rw [hM, ge_app hxl]
        intro c hc ha he
        rw [hge] at he ⊢
        obtain ⟨y, hy⟩ := h x z hxl c hc ha he
        exact ⟨y, by rw [hM]; exact fnd_pre hy⟩
      · have hge : ge (inn K act L x n) x = ge L x := by rw [hM, ge_app hg]
        intro c hc ha he
        rw [hge] at he ⊢
        exact inn_has hc ha he
    · rename_i hg
      rw [if_neg hg]
      exact h g' (by omega) hg'
theorem clo_in {K : Kf} {act : Nat → Bool} {n : Nat} (hK : okK K n) {k : K3} (hk : InS (Bk K act n) k) : ∃ g, g < (cloG K act n).length ∧ ky (ge (cloG K act n) g) = k := by
  have hW : WL (cloG K act n) := clo_ok hK
  have at' : ∀ (f t c g : Nat), t < 3 → c < 81 → fnd (cloG K act n) (pl f t c) = some g → ∃ g, g < (cloG K act n).length ∧ ky (ge (cloG K act n) g) = (f, t, c) := by
    intro f t c g ht hc hg
    obtain ⟨h1, h2⟩ := fnd_some hg
    have he := hW.1 g h1
    obtain ⟨e1, e2, e3⟩ := pl_inj he.2.1 he.2.2.1 ht hc h2
    exact ⟨g, h1, by unfold ky; rw [e1, e2, e3]⟩
  refine hk (fun k => ∃ g, g < (cloG K act n).length ∧ ky (ge (cloG K act n) g) = k) (fun b hb => ?_) (fun s b hs hb he => ?_)
  · obtain ⟨c, hc, ha, rfl⟩ := hb
    obtain ⟨g, hg⟩ := ph1_has (K := K) hc ha
    obtain ⟨M, hM⟩ := (out_ok (act := act) hK 730 (ph1 K act n) 0 (ph1_ok hK n (Nat.le_refl _))).2
    have hkk := hK.2 c hc
    exact at' (K c).1 (K c).2.1 (K c).2.2 g hkk.2.1 hkk.2.2 (by unfold cloG; rw [hM]; exact fnd_pre hg)
  · obtain ⟨g, hg, rfl⟩ := hs
    obtain ⟨c, hc, ha, rfl⟩ := hb
    have hkk := hK.2 c hc
    obtain ⟨y, hy⟩ := out_prc hK 730 (ph1 K act n) 0 (by omega) (ph1_ok hK n (Nat.le_refl _)) (fun x hx => absurd hx (Nat.not_lt_zero x)) g hg c hc ha he
    exact at' _ _ _ y hkk.2.1 (compN_lt _ _) hy
theorem cnt_zero {p : Nat → Bool} : ∀ {n : Nat}, cnt p n = 0 ↔ ∀ k, k < n → p k = false
  | 0 => ⟨fun _ k hk => absurd hk (Nat.not_lt_zero k), fun _ => rfl⟩
  | n + 1 => by
    unfold cnt
    constructor
    · intro h k hk
      rcases (show k < n ∨ k = n by omega) with z | rfl
      · exact cnt_zero.mp (by omega) k z
      · cases hp : p k with
        | false => rfl
        | true => rw [hp] at h; simp at h
    · intro h
      rw [cnt_zero.mpr (fun k hk => h k (by omega)), h n (by omega)]
      rfl
theorem loop_iff {K : Kf} {act : Nat → Bool} {n : Nat} (hK : okK K n) : loopC (cloG K act n) = 0 ↔ ∀ k, InS (Bk K act n) k → loopK k.1 k.2.1 k.2.2 = false := by
  unfold loopC
  rw [cnt_zero]
  constructor
  · intro h k hk
    obtain ⟨g, hg, rfl⟩ := clo_in hK hk
    exact h g hg
  · intro h g hg
    exact h _ ((SND_clo K act n) g hg).1
/-- a loop whose word has no call c is a loop without that call -/
theorem loop_without {P : Pg} (hW : WF P) {c g : Nat} (hc : c < P.2.length) (hg : g < (clo P).length) (hl : loopE (ge (clo P) g) = true) (hb : (ge (clo P) g).2.2.2.2.2.2.testBit c = false) {K : Kf} {act : Nat → Bool} {n : Nat} (hK : okK K n) (hB : ∀ j, j < P.2.length → j ≠ c → Bk K act n (kf P j)) : ¬ loopC (cloG K act n) = 0 := by
  intro h0
  have h1 := (SND_clo (kf P) (fun _ => true) P.2.length g hg).2 c hc hb
  have h2 : InS (Bk K act n) (ky (ge (clo P) g)) := h1.mono (fun b hb => by
    obtain ⟨j, hj, ha, rfl⟩ := hb
    simp at ha
    exact hB j hj ha)
  have h3 := (loop_iff hK).mp h0 _ h2
  have h4 : loopE (ge (clo P) g) = false := h3
  rw [hl] at h4
  cases h4
end
section
/-! spare, mend -/
theorem bt_1 : ∀ i, i < 32 → bt 1 i = decide (i = 0) := by decide +kernel
theorem zb_bt (x : Int32) {c : Nat} (hc : c < 32) : (x >>> (nI c &&& 31)) &&& 1 = 0 ↔ bt x c = false := by
  constructor
  · intro h
    have h1 : bt ((x >>> (nI c &&& 31)) &&& 1) 0 = bt 0 0 := by rw [h]
    rw [b_and, b_sshr c hc x (by decide), b_0, bt_1 0 (by decide)] at h1
    simpa [hc] using h1
  · intro h
    refine b_ext (fun i hi => ?_)
    rw [b_and, b_sshr c hc x hi, b_0, bt_1 i hi]
    by_cases h0 : i = 0
    · subst h0
      simp [hc, h]
    · simp [h0]
theorem bt_n {m i : Nat} (hi : i < 32) : bt (nI m) i = m.testBit i := by
  show (BitVec.ofNat 32 m).getLsbD i = _
  rw [BitVec.getLsbD_ofNat]
  simp [hi]
theorem comI_bit {L : List Gr} {c : Nat} (hc : c < 32) : ∀ n, bt (comI L n) c = false → loopC L = 0 ∨ ∃ g, g < n ∧ loopE (ge L g) = true ∧ (ge L g).2.2.2.2.2.2.testBit c = false
  | 0, h => by
    unfold comI at h
    by_cases h0 : loopC L = 0
    · exact Or.inl h0
    · rw [if_neg h0, b_m1 c hc] at h
      cases h
  | n + 1, h => by
    unfold comI at h
    split at h
    · rename_i hl
      rw [b_and, bt_n hc, Bool.and_eq_false_iff] at h
      rcases h with h | h
      · rcases comI_bit hc n h with q | ⟨g, q1, q2⟩
        · exact Or.inl q
        · exact Or.inr ⟨g, by omega, q2⟩
      · exact Or.inr ⟨n, by omega, hl, h⟩
    · rcases comI_bit hc n h with q | ⟨g, q1, q2⟩
      · exact Or.inl q
      · exact Or.inr ⟨g, by omega, q2⟩
def erP (P : Pg) (c : Nat) : Pg := (P.1, P.2.eraseIdx c)
theorem kf_er (P : Pg) (c j : Nat) : kf (erP P c) j = kf P (if j < c then j else j + 1) := by
  simp only [kf, codeN, relM, rel, fr, to, ag, erP, cl_er, ar]
  rfl
theorem WF.er {P : Pg} (h : WF P) {c : Nat} (hc : c < P.2.length) : WF (erP P c) := by
  refine ⟨h.1, ?_, h.2.2.1, fun j hj => ?_⟩
  · show (P.2.eraseIdx c).length ≤ 12
    rw [List.length_eraseIdx, if_pos hc]
    have := h.l12
    omega
  · have hj : j < (P.2.eraseIdx c).length := hj
    rw [List.length_eraseIdx, if_pos hc] at hj
    show okC (P.1, P.2.eraseIdx c) (cl (P.1, P.2.eraseIdx c) j)
    rw [cl_er]
    split
    · exact h.2.2.2 j (by omega)
    · exact h.2.2.2 (j + 1) (by omega)
theorem er_len {P : Pg} {c : Nat} (hc : c < P.2.length) : (erP P c).2.length = P.2.length - 1 := by
  show (P.2.eraseIdx c).length = _
  rw [List.length_eraseIdx, if_pos hc]
theorem Bk_er {P : Pg} {c j : Nat} (hc : c < P.2.length) (hj : j < P.2.length) (hn : j ≠ c) : Bk (kf (erP P c)) (fun _ => true) (erP P c).2.length (kf P j) := by
  by_cases h : j < c
  · exact ⟨j, by rw [er_len hc]; omega, rfl, by rw [kf_er, if_pos h]⟩
  · exact ⟨j - 1, by rw [er_len hc]; omega, rfl, by rw [kf_er, if_neg (by omega), show j - 1 + 1 = j by omega]⟩
/-- the first call without which there is no loop, if there is one now -/
def endsB (P : Pg) : Bool := decide (loopC (clo P) = 0)
def spN (P : Pg) : Option Nat := if endsB P then none else firstU (fun c => endsB (erP P c)) P.2.length 0
theorem RepC.stl {f f1 : FF} {a a1 : AA} {A : Ab} (h : RepC f a A) (h1 : ∀ t i, t ≠ 0 → t ≠ 4 → f1 t i = f t i ∧ a1 t i = a t i) (h2 : ∀ k, k ≠ 7 → f1 4 0 k = f 4 0 k) (h3 : a1 4 0 = a 4 0) (h4 : f1 4 0 7 = 1) : RepC f1 a1 A ∧ S5 f a f1 a1 := by
  refine ⟨⟨?_, ?_, ?_, ?_, ?_, Or.inl h4, fun p hp => by rw [(h1 1 p (by decide) (by decide)).2]; exact h.2.2.2.2.2.2 p hp⟩, h1 5 0 (by decide) (by decide)⟩
  · rw [(h1 1 0 (by decide) (by decide)).1, (h1 1 0 (by decide) (by decide)).2]; exact h.1
  · rw [(h1 3 0 (by decide) (by decide)).1, (h1 3 0 (by decide) (by decide)).2]; exact h.2.1
  · intro k hk
    rw [h3, (h1 1 (2 + k) (by decide) (by decide)).1, (h1 1 (2 + k) (by decide) (by decide)).2]
    exact h.2.2.1 k hk
  · intro k hk
    rw [(h1 2 k (by decide) (by decide)).1, (h1 2 k (by decide) (by decide)).2]
    exact h.2.2.2.1 k hk
  · rw [h2 8 (by decide)]; exact h.2.2.2.2.1
def sX4_spare : SP := fun As f a Q => match As with
  | [.inr (.inr (4, 0, 0))] => ∃ A, RepC f a A ∧ OKA A ∧ ∀ f' a', RepC f' a' A → S5 f a f' a' → Q (some (.inl (oN (spN (aP A))))) f' a'
  | _ => False
def eX4_spare : En := (tX4_spare, [(83, false, 1, sX4_fresh), (218, false, 1, sX0_callsOfEveryLoop), (73, false, 2, sX1_copy), (221, false, 2, sX1_removeCall), (224, false, 1, sX4_trialEnds)], fdX4, [], 0)
theorem eokX4_spare {g : Gm} (hg : GmOK g) : EnvOK g 6 RX4 cX4_spare (some .int) eX4_spare := ⟨okX4_spare, fun _ _ _ _ h => as2_all (P := fun i v => CallOK g 6 RX4 i v.1 v.2.1 v.2.2) (l := eX4_spare.2.1) ⟨callV_ok (t := 4) hg (mX4_fresh hg) kX4_fresh mlX4_83 qX4_fresh.1 qX4_fresh.2 ⟨by decide, by decide⟩ ⟨_, _, rfl⟩ shX4_fresh, callV_ok (t := 0) hg (mX0_callsOfEveryLoop hg) kX0_callsOfEveryLoop mlX4_218 qX0_callsOfEveryLoop.1 qX0_callsOfEveryLoop.2 ⟨by decide, by decide⟩ ⟨_, _, rfl⟩ shX0_callsOfEveryLoop, callV_ok (t := 1) hg (mX1_copy hg) kX1_copy mlX4_73 qX1_copy.1 qX1_copy.2 ⟨by decide, by decide⟩ ⟨_, _, rfl⟩ shX1_copy, callV_ok (t := 1) hg (mX1_removeCall hg) kX1_removeCall mlX4_221 qX1_removeCall.1 qX1_removeCall.2 ⟨by decide, by decide⟩ ⟨_, _, rfl⟩ shX1_removeCall, callV_ok (t := 4) hg (mX4_trialEnds hg) kX4_trialEnds mlX4_224 qX4_trialEnds.1 qX4_trialEnds.2 ⟨by decide, by decide⟩ ⟨_, _, rfl⟩ shX4_trialEnds, trivial⟩ h, fdX4_ok, (fun _ _ h => by cases h), rfl⟩
theorem first_none {p : Nat → Bool} : ∀ {d i : Nat}, (∀ k, i ≤ k → k < i + d → p k = false) → firstU p d i = none
  | 0, _, _ => rfl
  | d + 1, i, h => by
    unfold firstU
    rw [if_neg (by rw [h i (by omega) (by omega)]; decide)]
    exact first_none (fun k h1 h2 => h k (by omega) (by omega))
theorem rX4_spare (av : List AV) (f : FF) (a : AA) (post : PT) (h : sX4_spare av f a post) (X : XT) (hX : Clo eX4_spare post X) : X 0 (padL 3 (ent av)) [] f a := by
  unfold sX4_spare at h
  split at h
  · obtain ⟨A, hA, hO, h⟩ := h
    have hw := clo_w hO
    have h12 := hO.1.l12
    refine hX [10] 90 _ _ _ _ _ ?_
    refine ⟨A, hA, hO, fun f1 a1 hA1 hG1 hS1 => ⟨clo (aP A), hG1.1, hw, ?_⟩⟩
    have key : ∀ d c f2 a2, c + d = (aP A).2.length → RepC f2 a2 A → S5 f a f2 a2 → (∀ f' a', RepC f' a' A → S5 f a f' a' → post (some (.inl (oN (if endsB (aP A) then none else firstU (fun c => endsB (erP (aP A) c)) d c)))) f' a') → X 10 [some (.inr (.inr (4, 0, 0))), some (.inl (comI (clo (aP A)) (clo (aP A)).length)), some (.inl (nI c))] [] f2 a2 := by
      intro d
      induction d with
      | zero =>
        intro c f2 a2 hcd hA2 hS2 hp
        refine hX [10] 90 _ _ _ _ _ ?_
        refine ⟨fun q => ?_, fun q => ?_⟩
        · refine pI (hp f2 a2 hA2 hS2) ?_
          split <;> rfl
        · have q : ¬ f2 1 0 5 ≤ nI c := q
          rw [hA2.1.2.1] at q
          exact absurd (nI_le (by omega) (by omega)) q
      | succ d ih =>
        intro c f2 a2 hcd hA2 hS2 hp
        have hc : c < (aP A).2.length := by omega
        refine hX [10] 90 _ _ _ _ _ ?_
        refine ⟨fun q => ?_, fun q => ?_⟩
        · have q : f2 1 0 5 ≤ nI c := q
          rw [hA2.1.2.1] at q
          exact absurd q (nI_ge hc (by omega))
        · have skip : ∀ f3 a3, RepC f3 a3 A → S5 f a f3 a3 → (endsB (aP A) = false → endsB (erP (aP A) c) = false) → X 10 [some (.inr (.inr (4, 0, 0))), some (.inl (comI (clo (aP A)) (clo (aP A)).length)), some (.inl (nI c + 1))] [] f3 a3 := by
            intro f3 a3 hA3 hS3 he
            rw [← nI_succ]
            refine ih (c + 1) f3 a3 (by omega) hA3 hS3 (fun f' a' h1 h2 => pI (hp f' a' h1 h2) ?_)
            cases hb : endsB (aP A) with
            | true => rfl
            | false =>
              simp [firstU, he hb]
          refine ⟨fun q1 => ?_, fun q1 => ?_⟩
          · have q1 := (zb_bt _ (show c < 32 by omega)).mp q1
            refine skip f2 a2 hA2 hS2 (fun he => decide_eq_false ?_)
            rcases comI_bit (show c < 32 by omega) _ q1 with z | ⟨g, z1, z2, z3⟩
            · exact absurd z (of_decide_eq_false he)
            · exact loop_without hO.1 hc z1 z2 z3 (okK_P (hO.1.er hc)) (fun j hj hn => Bk_er hc hj hn)
          · refine ⟨by decide, fun f3 a3 hF3 hR3 hB3 => ?_⟩
            have hR3 := hR3 (aP A) hO.1 hA2.1
            have hB3 := hB3 (hA2.2.2.2.2.2.2 0 (by decide))
            have T3 := hA2.trial hF3 hB3
            refine ⟨aP A, c, hR3, hO.1, rfl, hc, fun f4 a4 hF4 hR4 h40 => ?_⟩
            have T4 := T3.1.trial hF4 (fun i hi => by rw [h40]; exact hB3 i hi)
            refine ⟨erP (aP A) c, hR4, hO.1.er hc, fun f5 a5 g1 g2 g3 g4 => ?_⟩
            have T5 := T4.1.stl g1 g2 g3 g4
            have S := ((hS2.tr T3.2).tr T4.2).tr T5.2
            refine ⟨fun q2 => ?_, fun q2 => ?_⟩
            · exact skip f5 a5 T5.1 S (fun _ => b2i_e0.mp q2)
            · have q2 : endsB (erP (aP A) c) = true := b2i_n0.mp q2
              refine pI (hp f5 a5 T5.1 S) ?_
              have hb : endsB (aP A) = false := by
                cases hb : endsB (aP A) with
                | false => rfl
                | true =>
                  have hb := of_decide_eq_true hb
                  exfalso
                  apply q1
                  refine (zb_bt _ (show c < 32 by omega)).mpr ?_
                  have : ∀ n, bt (comI (clo (aP A)) n) c = false := by
                    intro n
                    induction n with
                    | zero => rw [comI, if_pos hb, b_0]
                    | succ n ihn =>
                      rw [comI]
                      split
                      · rw [b_and, ihn, Bool.false_and]
                      · exact ihn
                  exact this _
              simp [hb, firstU, q2, oN]
    exact key (aP A).2.length 0 f1 a1 (by omega) hA1 hS1 h
  · exact h.elim
theorem shX4_spare : ∀ As f a Q, sX4_spare As f a Q → ∃ i r, As = .inr (.inr (4, i, 0)) :: r := by
  intro As f a Q h
  unfold sX4_spare at h
  split at h
  · exact ⟨_, _, rfl⟩
  · exact h.elim
theorem mX4_spare {g : Gm} (hg : GmOK g) : MetC g yX4_spare cX4_spare 3 (some .int) 6 sX4_spare := by
  refine MetC_of hg eX4_spare (eokX4_spare hg) (by decide +kernel) (fun av f a post h => ?_) rX4_spare
  unfold sX4_spare at h
  split at h
  · exact Nat.le_of_ble_eq_true rfl
  · exact h.elim
/-- the least place at which an argument that falls lets all end -/
def mnB (P : Pg) (n : Nat) : Bool := takesB P (nI (n / 100)) (nI (n / 10 % 10)) (nI (101 + 10 * (n % 10))) && endsB (setA P (n / 100) (n / 10 % 10) (101 + 10 * (n % 10)))
def mnN (P : Pg) : Option Nat := if endsB P then none else firstU (mnB P) (100 * P.2.length) 0
def sX4_mend : SP := fun As f a Q => match As with
  | [.inr (.inr (4, 0, 0))] => ∃ A, RepC f a A ∧ OKA A ∧ ∀ f' a', RepC f' a' A → S5 f a f' a' → Q (some (.inl (oN (mnN (aP A))))) f' a'
  | _ => False
def eX4_mend : En := (tX4_mend, [(83, false, 1, sX4_fresh), (218, false, 1, sX0_callsOfEveryLoop), (228, true, 3, sX4_argumentOf), (210, false, 4, sX1_takes), (73, false, 2, sX1_copy), (214, false, 4, sX1_putArgument), (224, false, 1, sX4_trialEnds)], fdX4, [], 0)
theorem eokX4_mend {g : Gm} (hg : GmOK g) : EnvOK g 6 RX4 cX4_mend (some .int) eX4_mend := ⟨okX4_mend, fun _ _ _ _ h => as2_all (P := fun i v => CallOK g 6 RX4 i v.1 v.2.1 v.2.2) (l := eX4_mend.2.1) ⟨callV_ok (t := 4) hg (mX4_fresh hg) kX4_fresh mlX4_83 qX4_fresh.1 qX4_fresh.2 ⟨by decide, by decide⟩ ⟨_, _, rfl⟩ shX4_fresh, callV_ok (t := 0) hg (mX0_callsOfEveryLoop hg) kX0_callsOfEveryLoop mlX4_218 qX0_callsOfEveryLoop.1 qX0_callsOfEveryLoop.2 ⟨by decide, by decide⟩ ⟨_, _, rfl⟩ shX0_callsOfEveryLoop, callS_ok hg (mX4_argumentOf hg) kX4_argumentOf mlX4_228 qX4_argumentOf ⟨by decide, by decide⟩, callV_ok (t := 1) hg (mX1_takes hg) kX1_takes mlX4_210 qX1_takes.1 qX1_takes.2 ⟨by decide, by decide⟩ ⟨_, _, rfl⟩ shX1_takes, callV_ok (t := 1) hg (mX1_copy hg) kX1_copy mlX4_73 qX1_copy.1 qX1_copy.2 ⟨by decide, by decide⟩ ⟨_, _, rfl⟩ shX1_copy, callV_ok (t := 1) hg (mX1_putArgument hg) kX1_putArgument mlX4_214 qX1_putArgument.1 qX1_putArgument.2 ⟨by decide, by decide⟩ ⟨_, _, rfl⟩ shX1_putArgument, callV_ok (t := 4) hg (mX4_trialEnds hg) kX4_trialEnds mlX4_224 qX4_trialEnds.1 qX4_trialEnds.2 ⟨by decide, by decide⟩ ⟨_, _, rfl⟩ shX4_trialEnds, trivial⟩ h, fdX4_ok, (fun _ _ h => by cases h), rfl⟩
theorem kf_set {P : Pg} {c k x j : Nat} (hc : c < P.2.length) (hk : k < 2) (hj : j ≠ c) : kf (setA P c k x) j = kf P j := by
  have e0 : cl (setA P c k x) j = cl P j := by rw [cl_setA hc, if_neg hj]
  have ea : ∀ i, ar (setA P c k x) i = ar P i := fun i => rfl
  simp only [kf, codeN, relM, rel, fr, to, ag, e0, ea]
  rfl
theorem rX4_mend (av : List AV) (f : FF) (a : AA) (post : PT) (h : sX4_mend av f a post) (X : XT) (hX : Clo eX4_mend post X) : X 0 (padL 6 (ent av)) [] f a := by
  unfold sX4_mend at h
  split at h
  · obtain ⟨A, hA, hO, h⟩ := h
    have hw := clo_w hO
    have h12 := hO.1.l12
    refine hX [10] 90 _ _ _ _ _ ?_
    refine ⟨A, hA, hO, fun f1 a1 hA1 hG1 hS1 => ⟨clo (aP A), hG1.1, hw, ?_⟩⟩
    have key : ∀ d n f2 a2 z3 z4 z5, n + d = 100 * (aP A).2.length → RepC f2 a2 A → S5 f a f2 a2 → (∀ f' a', RepC f' a' A → S5 f a f' a' → post (some (.inl (oN (if endsB (aP A) then none else firstU (mnB (aP A)) d n)))) f' a') → X 10 [some (.inr (.inr (4, 0, 0))), some (.inl (comI (clo (aP A)) (clo (aP A)).length)), some (.inl (nI n)), z3, z4, z5] [] f2 a2 := by
      intro d
      induction d with
      | zero =>
        intro n f2 a2 z3 z4 z5 hcd hA2 hS2 hp
        refine hX [10] 90 _ _ _ _ _ ?_
        refine ⟨fun q => ?_, fun q => ?_⟩
        · refine pI (hp f2 a2 hA2 hS2) ?_
          split <;> rfl
        · have q : ¬ 100 * f2 1 0 5 ≤ nI n := q
          rw [hA2.1.2.1, show (100 : Int32) = nI 100 from rfl, pk_mul] at q
          exact absurd (nI_le (by omega) (by omega)) q
      | succ d ih =>
        intro n f2 a2 z3 z4 z5 hcd hA2 hS2 hp
        have hn : n < 100 * (aP A).2.length := by omega
        have hc : n / 100 < (aP A).2.length := by omega
        have ec : nI n / 100 = nI (n / 100) := pk_div (d := 100) (by omega) (by decide) (by decide)
        have ek0 : nI n / 10 = nI (n / 10) := pk_div (d := 10) (by omega) (by decide) (by decide)
        have ek : nI n / 10 - nI n / 10 / 10 * 10 = nI (n / 10 % 10) := by
          rw [ek0]
          exact pk_rem (d := 10) (by omega) (by decide) (by decide)
        have ev : nI n - nI n / 10 * 10 = nI (n % 10) := pk_rem (d := 10) (by omega) (by decide) (by decide)
        have ex : 100 * 1 + 10 * nI (n % 10) + 1 = nI (101 + 10 * (n % 10)) := by
          rw [show (10 : Int32) = nI 10 from rfl, pk_mul, show (100 * 1 : Int32) = nI 100 from rfl, nI_add, show (1 : Int32) = nI 1 from rfl, nI_add]
          congr 1
          omega
        refine hX [10, 47] 90 _ _ _ _ _ ?_
        refine ⟨fun q => ?_, fun q => ?_⟩
        · have q : 100 * f2 1 0 5 ≤ nI n := q
          rw [hA2.1.2.1, show (100 : Int32) = nI 100 from rfl, pk_mul] at q
          exact absurd q (nI_ge hn (by omega))
        · refine ⟨by decide, by decide, by decide, by decide, ?_⟩
          dsimp only
          rw [ec, ek, ev]
          have skip : ∀ f3 a3, RepC f3 a3 A → S5 f a f3 a3 → (endsB (aP A) = false → mnB (aP A) n = false) → X 10 [some (.inr (.inr (4, 0, 0))), some (.inl (comI (clo (aP A)) (clo (aP A)).length)), some (.inl (nI n + 1)), some (.inl (nI (n / 100))), some (.inl (nI (n / 10 % 10))), some (.inl (nI (101 + 10 * (n % 10))))] [] f3 a3 := by
            intro f3 a3 hA3 hS3 he
            rw [← nI_succ]
            refine ih (n + 1) f3 a3 _ _ _ (by omega) hA3 hS3 (fun f' a' h1 h2 => pI (hp f' a' h1 h2) ?_)
            cases hb : endsB (aP A) with
            | true => rfl
            | false =>
              simp [firstU, he hb]
          suffices k47 : X 47 [some (.inr (.inr (4, 0, 0))), some (.inl (comI (clo (aP A)) (clo (aP A)).length)), some (.inl (nI n)), some (.inl (nI (n / 100))), some (.inl (nI (n / 10 % 10))), z5] [.inl (nI (101 + 10 * (n % 10)))] f2 a2 by
            rw [← ex] at k47
            exact k47
          refine hX [10] 90 _ _ _ _ _ ?_
          refine ⟨fun q1 => ?_, fun q1 => ?_⟩
          · have q1 := (zb_bt _ (show n / 100 < 32 by omega)).mp q1
            refine skip f2 a2 hA2 hS2 (fun he => ?_)
            unfold mnB
            cases ht : takesB (aP A) (nI (n / 100)) (nI (n / 10 % 10)) (nI (101 + 10 * (n % 10))) with
            | false => rfl
            | true =>
              obtain ⟨c', k', y', e1, hc', e2, hk', e3, hy', hok⟩ := takes_spec hO.1 ht
              have e1 := (nI_eq (by omega) (by omega)).mp e1
              have hat := hO.1.ar_to hc'
              have e2 := (nI_eq (by omega) (by omega)).mp e2
              have e3 := (nI_eq (by omega) (by omega)).mp e3
              rw [Bool.true_and]
              refine decide_eq_false ?_
              rcases comI_bit (show n / 100 < 32 by omega) _ q1 with z | ⟨g, z1, z2, z3⟩
              · exact absurd z (of_decide_eq_false he)
              · have hW' := hO.1.stA (x := 101 + 10 * (n % 10)) hc (show n / 10 % 10 < ar (aP A) (to (aP A) (n / 100)) by rw [e1, e2]; exact hk') (by rw [e3, e1]; exact hok)
                exact loop_without hO.1 hc z1 z2 z3 (okK_P hW') (fun j hj hn => ⟨j, by rw [len_setA]; exact hj, rfl, kf_set hc (by rw [e2]; omega) hn⟩)
          · refine ⟨aP A, hA2.1, hO.1, fun q2 => ?_, fun q2 => ?_⟩
            · exact skip f2 a2 hA2 hS2 (fun _ => by unfold mnB; rw [b2i_e0.mp q2, Bool.false_and])
            · have q2 := b2i_n0.mp q2
              obtain ⟨c', k', y', e1, hc', e2, hk', e3, hy', hok⟩ := takes_spec hO.1 q2
              have e1 := (nI_eq (by omega) (by omega)).mp e1
              have hat := hO.1.ar_to hc'
              have e2 := (nI_eq (by omega) (by omega)).mp e2
              have e3 := (nI_eq (by omega) (by omega)).mp e3
              have hk2 : n / 10 % 10 < ar (aP A) (to (aP A) (n / 100)) := by rw [e1, e2]; exact hk'
              have hk3 : n / 10 % 10 < 2 := by rw [e2]; omega
              have hW' := hO.1.stA (x := 101 + 10 * (n % 10)) hc hk2 (by rw [e3, e1]; exact hok)
              refine ⟨by decide, fun f3 a3 hF3 hR3 hB3 => ?_⟩
              have hR3 := hR3 (aP A) hO.1 hA2.1
              have hB3 := hB3 (hA2.2.2.2.2.2.2 0 (by decide))
              have T3 := hA2.trial hF3 hB3
              refine ⟨n / 100, n / 10 % 10, rfl, rfl, by omega, ?_⟩
              have T4 := T3.1.trial ((Fr.rf f3 a3 1 1).ua 3 (2 * (n / 100) + n / 10 % 10) (nI (101 + 10 * (n % 10)))) (fun i hi => by rw [upa_s, if_neg (by decide)]; exact hB3 i hi)
              refine ⟨setA (aP A) (n / 100) (n / 10 % 10) (101 + 10 * (n % 10)), hR3.stA hc hk3, hW', fun f5 a5 g1 g2 g3 g4 => ?_⟩
              have T5 := T4.1.stl g1 g2 g3 g4
              have S := ((hS2.tr T3.2).tr T4.2).tr T5.2
              refine ⟨fun q3 => ?_, fun q3 => ?_⟩
              · refine skip f5 a5 T5.1 S (fun _ => ?_)
                unfold mnB
                rw [show endsB _ = false from b2i_e0.mp q3, Bool.and_false]
              · have q3 : endsB (setA (aP A) (n / 100) (n / 10 % 10) (101 + 10 * (n % 10))) = true := b2i_n0.mp q3
                refine pI (hp f5 a5 T5.1 S) ?_
                have hb : endsB (aP A) = false := by
                  cases hb : endsB (aP A) with
                  | false => rfl
                  | true =>
                    have hb := of_decide_eq_true hb
                    exfalso
                    apply q1
                    refine (zb_bt _ (show n / 100 < 32 by omega)).mpr ?_
                    have : ∀ m, bt (comI (clo (aP A)) m) (n / 100) = false := by
                      intro m
                      induction m with
                      | zero => rw [comI, if_pos hb, b_0]
                      | succ m ihn =>
                        rw [comI]
                        split
                        · rw [b_and, ihn, Bool.false_and]
                        · exact ihn
                    exact this _
                have hm : mnB (aP A) n = true := by unfold mnB; rw [q2, q3]; rfl
                simp [hb, firstU, hm, oN]
    exact key (100 * (aP A).2.length) 0 f1 a1 none none none (by omega) hA1 hS1 h
  · exact h.elim
theorem shX4_mend : ∀ As f a Q, sX4_mend As f a Q → ∃ i r, As = .inr (.inr (4, i, 0)) :: r := by
  intro As f a Q h
  unfold sX4_mend at h
  split at h
  · exact ⟨_, _, rfl⟩
  · exact h.elim
theorem mX4_mend {g : Gm} (hg : GmOK g) : MetC g yX4_mend cX4_mend 6 (some .int) 6 sX4_mend := by
  refine MetC_of hg eX4_mend (eokX4_mend hg) (by decide +kernel) (fun av f a post h => ?_) rX4_mend
  unfold sX4_mend at h
  split at h
  · exact Nat.le_of_ble_eq_true rfl
  · exact h.elim
end
section
/-! the JDK's own: length and charAt of a text constant -/
theorem kJ0_length_8abf5 : LnkOK yJ0_length_8abf5 cJ0_length_8abf5 1 (some .int) 0 := ⟨inWS 281 (by decide +kernel) rfl, inWS 64 (by decide +kernel) rfl, by decide +kernel, by decide +kernel⟩
theorem qJ0_length_8abf5 : Cond.instanceMethod yJ0_length_8abf5 ∈ WS ∧ Cond.selects RJ0 yJ0_length_8abf5 yJ0_length_8abf5 ∈ WS := ⟨inWS 279 (by decide +kernel) rfl, inWS 280 (by decide +kernel) rfl⟩
theorem kJ0_coder_7d493 : LnkOK yJ0_coder_7d493 cJ0_coder_7d493 1 (some .byte) 0 := ⟨inWS 285 (by decide +kernel) rfl, inWS 64 (by decide +kernel) rfl, by decide +kernel, by decide +kernel⟩
theorem qJ0_coder_7d493 : Cond.instanceMethod yJ0_coder_7d493 ∈ WS ∧ Cond.selects RJ0 yJ0_coder_7d493 yJ0_coder_7d493 ∈ WS := ⟨inWS 283 (by decide +kernel) rfl, inWS 284 (by decide +kernel) rfl⟩
theorem kJ0_charAt_5068e : LnkOK yJ0_charAt_5068e cJ0_charAt_5068e 2 (some .char) 1 := ⟨inWS 291 (by decide +kernel) rfl, inWS 64 (by decide +kernel) rfl, by decide +kernel, by decide +kernel⟩
theorem qJ0_charAt_5068e : Cond.instanceMethod yJ0_charAt_5068e ∈ WS ∧ Cond.selects RJ0 yJ0_charAt_5068e yJ0_charAt_5068e ∈ WS := ⟨inWS 289 (by decide +kernel) rfl, inWS 290 (by decide +kernel) rfl⟩
theorem kJ0_isLatin1_aae02 : LnkOK yJ0_isLatin1_aae02 cJ0_isLatin1_aae02 1 (some .boolean) 0 := ⟨inWS 295 (by decide +kernel) rfl, inWS 64 (by decide +kernel) rfl, by decide +kernel, by decide +kernel⟩
theorem qJ0_isLatin1_aae02 : Cond.instanceMethod yJ0_isLatin1_aae02 ∈ WS ∧ Cond.selects RJ0 yJ0_isLatin1_aae02 yJ0_isLatin1_aae02 ∈ WS := ⟨inWS 293 (by decide +kernel) rfl, inWS 294 (by decide +kernel) rfl⟩
theorem kJ1_charAt_3b067 : LnkOK yJ1_charAt_3b067 cJ1_charAt_3b067 2 (some .char) 2 := ⟨inWS 298 (by decide +kernel) rfl, inWS 65 (by decide +kernel) rfl, by decide +kernel, by decide +kernel⟩
theorem qJ1_charAt_3b067 : Cond.static yJ1_charAt_3b067 ∈ WS := inWS 297 (by decide +kernel) rfl
theorem kJ0_checkIndex_df160 : LnkOK yJ0_checkIndex_df160 cJ0_checkIndex_df160 2 none 2 := ⟨inWS 301 (by decide +kernel) rfl, inWS 64 (by decide +kernel) rfl, by decide +kernel, by decide +kernel⟩
theorem qJ0_checkIndex_df160 : Cond.static yJ0_checkIndex_df160 ∈ WS := inWS 300 (by decide +kernel) rfl
theorem kJ3_checkIndex_8e157 : LnkOK yJ3_checkIndex_8e157 cJ3_checkIndex_8e157 3 (some .int) 3 := ⟨inWS 306 (by decide +kernel) rfl, inWS 66 (by decide +kernel) rfl, by decide +kernel, by decide +kernel⟩
theorem qJ3_checkIndex_8e157 : Cond.static yJ3_checkIndex_8e157 ∈ WS := inWS 305 (by decide +kernel) rfl
theorem mlJ0_335 : Cond.methodLink RJ0 335 yJ0_coder_7d493 ∈ WS := inWS 282 (by decide +kernel) rfl
theorem mlJ0_492 : Cond.methodLink RJ0 492 yJ0_isLatin1_aae02 ∈ WS := inWS 292 (by decide +kernel) rfl
theorem mlJ0_495 : Cond.methodLink RJ0 495 yJ1_charAt_3b067 ∈ WS := inWS 296 (by decide +kernel) rfl
theorem mlJ0_1059 : Cond.methodLink RJ0 1059 yJ3_checkIndex_8e157 ∈ WS := inWS 304 (by decide +kernel) rfl
theorem mlJ1_9 : Cond.methodLink RJ1 9 yJ0_checkIndex_df160 ∈ WS := inWS 299 (by decide +kernel) rfl
theorem flJ0_38 : Cond.fieldLink RJ0 38 "java/lang/String" "COMPACT_STRINGS" "Z" ∈ WS := inWS 286 (by decide +kernel) rfl
theorem flJ0_1053 : Cond.fieldLink RJ0 1053 "jdk/internal/util/Preconditions" "SIOOBE_FORMATTER" "Ljava/util/function/BiFunction;" ∈ WS := inWS 302 (by decide +kernel) rfl
theorem flJ0_9 : Cond.fieldLink RJ0 9 "java/lang/String" "value" "[B" ∈ WS := inWS 1124 (by decide +kernel) rfl
theorem flJ0_15 : Cond.fieldLink RJ0 15 "java/lang/String" "coder" "B" ∈ WS := inWS 1125 (by decide +kernel) rfl
def PreU (g : Gm) (vs : List Value) : Array Value → State → Prop := fun v U => v = vs.toArray ∧ gG g U
def PostU (r : Option Value) : Array Value → State → Outcome → State → Prop := fun _ st o t => o = .returned r ∧ t.heap = st.heap
def MetU (g : Gm) (y : MethodName) (cc : ByteArray) (maxL : Nat) (ret : Option FieldType) (lvl : Nat) (vs : List Value) (r : Option Value) : Prop := Met (gL g) y (Cond.code y cc maxL ret :: WS) (rmL lvl) (PreU g vs) (PostU r) 0 0 (fun _ => False)
theorem MetU.of {g : Gm} {y : MethodName} {cc : ByteArray} {maxL : Nat} {ret : Option FieldType} {lvl : Nat} {vs : List Value} {r : Option Value} (hy : plainName y.cls = true) (hsl : (lg_sl vs).length ≤ maxL)
    (h : ∀ (p : Program) (e : Env) (s : State) (m : MethodId) (below : List Frame) (meth : Method) (c : Code) (A : Array Slot), p.tables.exec = Jvm.exec → c.code = cc → meth.sig.returnType = ret → c.maxLocals = maxL → s.vm.findClass y.cls = some m.cls → (∀ w ∈ WS, w.before vs.toArray s = true) → gG g s → meth.locks = false → lv_has A maxL (lv_args 0 vs) →
      W p (gL g) e (rmL lvl) s m vs.toArray below meth c s.heap [] 0 0 (MQ below (PostU r) vs.toArray s 0 0 (fun _ => False)) (F0 m 0 A [])) : MetU g y cc maxL ret lvl vs r := by
  refine Met.ofW (cc := cc) (maxL := maxL) (ret := ret) hy rfl ?_
  intro p e s m args below meth c s₁ B hml hv
  obtain ⟨rfl, hG⟩ := hv
  have hts := atoms_spec (ws := Cond.code y cc maxL ret :: WS) B.pre
  have hl := lv_entry vs (n := maxL) hsl
  rw [lg_entry_eq]
  exact h p e s m below meth c _ B.exec B.bytes B.returns hml (findClass_of_methodNamed B.named) (fun w hw => hts w (List.mem_cons_of_mem _ hw)) hG B.notSynchronized hl
theorem PreU_blind {g : Gm} (hg : GmOK g) (vs : List Value) : FrameBlind (PreU g vs) := fun _ U fr mk q => ⟨q.1, hg.2.2.2.1 U (U.calling fr mk _) (State.WarmedH.refl U) (Nat.le_refl _) (fun _ _ _ => rfl) q.2⟩
theorem callU {g : Gm} {p : Program} {e : Env} {R : Room} {s : State} {m : MethodId} {args : Array Value} {below : List Frame} {meth : Method} {c : Code} {Qg : State → Prop} {H : Heap} {locs : List Loc} {ls : Array Slot} {pc : Nat} {st0 rest : List Value} {r : Option Value} {av : Array Value}
    (hr : va_Run p (gL g) e R s m args below meth c H locs 0 0 0 0 (F0 m pc ls st0) rest (PostU r av) (fun _ => False))
    (kk : W p (gL g) e R s m args below meth c H locs 0 0 Qg (F0 m (pc + 3) ls (r.toList ++ rest))) : W p (gL g) e R s m args below meth c H locs 0 0 Qg (F0 m pc ls st0) := by
  intro T hT X
  obtain ⟨v, st₀, t, T', L, h0, X', hL, e1, e2, ⟨hv, hh⟩, st⟩ := hr T hT X
  cases hv
  have hLn : L = [] := by
    cases L with
    | nil => rfl
    | cons q L => exact (hL q List.mem_cons_self).elim
  subst hLn
  rw [List.append_nil] at X'
  obtain ⟨t2, a1, b1⟩ := kk T' (by rw [e1, hh, h0]) X'
  exact ⟨t2, st t2 a1, b1⟩
theorem PreU_at {g : Gm} (hg : GmOK g) {s : State} {H : Heap} {locs : List Loc} (hG : gG g s) (hS : va_S (gA g) s.heap H locs) (vs : List Value) : ∀ U : State, U.heap = H → s.WarmedH U.vm → PreU g vs vs.toArray U := fun U hU hW => ⟨rfl, hg.2.2.2.1 s U hW (by rw [hU]; exact hS.1) (fun q h1 h2 => by rw [hU]; exact hS.2.1 q h1 h2) hG⟩
theorem mJ0_coder {g : Gm} (hg : GmOK g) {i : Nat} (hi : i < 4) : MetU g yJ0_coder_7d493 cJ0_coder_7d493 1 (some .byte) 0 [.ref (gAd g (9, i, 0))] (some (.int 0)) := by
  refine MetU.of (by decide +kernel) (Nat.le_of_ble_eq_true rfl) (fun p e s m below meth c A hx hb hr hml hown hts hG hlk hl => ?_)
  obtain ⟨-, -, ⟨adV, hE⟩, -, hZ, -⟩ := hg.2.2.2.2 s hG
  have hS : va_S (gA g) s.heap s.heap [] := va_S.rf
  refine va_gets hx hb hZ hS hown (hts _ flJ0_38) (fun _ q => q) (show decode cJ0_coder_7d493 0 = _ by decide +kernel) ?_
  refine lv_if_eq (tgt := 13) hx hb (show decode cJ0_coder_7d493 3 = .ok (.ifCond .eq 10, 3) by decide +kernel) (by decide) (fun q => absurd q (by decide)) (fun _ => ?_)
  refine lv_aload_n hx hb (show decode cJ0_coder_7d493 6 = .ok (.aload_n 0, 1) by decide +kernel) rfl (lv_at hl 0 rfl) ?_
  refine vk_getf hx hb (hE.1 i hi).2.1 hS hown (hts _ flJ0_15) (fun _ q => q) (show decode cJ0_coder_7d493 7 = _ by decide +kernel) ?_
  refine lv_goto (tgt := 14) hx hb (show decode cJ0_coder_7d493 10 = .ok (.goto 4, 3) by decide +kernel) (by decide) ?_
  exact W.zret hx hb hr (by decide +kernel) (fun t ht hW => ⟨rfl, ht⟩) (fun q h => by cases h) (show decode cJ0_coder_7d493 14 = _ by decide +kernel) hlk
theorem mJ0_isLatin1 {g : Gm} (hg : GmOK g) {i : Nat} (hi : i < 4) : MetU g yJ0_isLatin1_aae02 cJ0_isLatin1_aae02 1 (some .boolean) 0 [.ref (gAd g (9, i, 0))] (some (.int 1)) := by
  refine MetU.of (by decide +kernel) (Nat.le_of_ble_eq_true rfl) (fun p e s m below meth c A hx hb hr hml hown hts hG hlk hl => ?_)
  obtain ⟨-, -, ⟨adV, hE⟩, -, hZ, -⟩ := hg.2.2.2.2 s hG
  have hS : va_S (gA g) s.heap s.heap [] := va_S.rf
  refine va_gets hx hb hZ hS hown (hts _ flJ0_38) (fun _ q => q) (show decode cJ0_isLatin1_aae02 0 = _ by decide +kernel) ?_
  refine lv_if_eq (tgt := 17) hx hb (show decode cJ0_isLatin1_aae02 3 = .ok (.ifCond .eq 14, 3) by decide +kernel) (by decide) (fun q => absurd q (by decide)) (fun _ => ?_)
  refine lv_aload_n hx hb (show decode cJ0_isLatin1_aae02 6 = .ok (.aload_n 0, 1) by decide +kernel) rfl (lv_at hl 0 rfl) ?_
  refine vk_getf hx hb (hE.1 i hi).2.1 hS hown (hts _ flJ0_15) (fun _ q => q) (show decode cJ0_isLatin1_aae02 7 = _ by decide +kernel) ?_
  refine lv_if_ne (tgt := 17) hx hb (show decode cJ0_isLatin1_aae02 10 = .ok (.ifCond .ne 7, 3) by decide +kernel) (by decide) (fun q => absurd rfl q) (fun _ => ?_)
  refine lv_iconst (v := 1) hx hb (show decode cJ0_isLatin1_aae02 13 = .ok (.iconst 1, 1) by decide +kernel) (by decide) ?_
  refine lv_goto (tgt := 18) hx hb (show decode cJ0_isLatin1_aae02 14 = .ok (.goto 4, 3) by decide +kernel) (by decide) ?_
  exact W.zret hx hb hr (by decide +kernel) (fun t ht hW => ⟨rfl, ht⟩) (fun q h => by cases h) (show decode cJ0_isLatin1_aae02 18 = _ by decide +kernel) hlk
def strL (i : Nat) : Nat := [3, 4, 1, 1].getD i 0
theorem mJ0_length {g : Gm} (hg : GmOK g) {i : Nat} (hi : i < 4) : MetU g yJ0_length_8abf5 cJ0_length_8abf5 1 (some .int) 1 [.ref (gAd g (9, i, 0))] (some (.int (nI (strL i)))) := by
  refine MetU.of (by decide +kernel) (Nat.le_of_ble_eq_true rfl) (fun p e s m below meth c A hx hb hr hml hown hts hG hlk hl => ?_)
  obtain ⟨-, -, ⟨adV, hE⟩, -, hZ, -⟩ := hg.2.2.2.2 s hG
  have hS : va_S (gA g) s.heap s.heap [] := va_S.rf
  have hlen : strL i < 2 ^ 31 := by
    rcases (show i = 0 ∨ i = 1 ∨ i = 2 ∨ i = 3 by omega) with rfl | rfl | rfl | rfl <;> decide
  refine lv_aload_n hx hb (show decode cJ0_length_8abf5 0 = .ok (.aload_n 0, 1) by decide +kernel) rfl (lv_at hl 0 rfl) ?_
  refine vk_getf hx hb (hE.1 i hi).2.2.1 hS hown (hts _ flJ0_9) (fun _ q => q) (show decode cJ0_length_8abf5 1 = _ by decide +kernel) ?_
  refine va_tlen hx hb (hE.1 i hi).2.2.2 hS (v := nI (strL i)) rfl (show decode cJ0_length_8abf5 4 = _ by decide +kernel) ?_
  refine lv_aload_n hx hb (show decode cJ0_length_8abf5 5 = .ok (.aload_n 0, 1) by decide +kernel) rfl (lv_at hl 0 rfl) ?_
  refine callU (va_runV (As := []) (rest := [.int (nI (strL i))]) (C := RJ0) ⟨hx, hb, hml, hown, hts⟩ (mJ0_coder hg hi) ⟨callB_w (lvl := 1) (lvc := 0) kJ0_coder_7d493 hts mlJ0_335 ⟨by decide, by decide⟩, hts _ qJ0_coder_7d493.1, hts _ qJ0_coder_7d493.2⟩ ⟨PreU_blind hg _, vk_recv hE hi hS, PreU_at hg hG hS _⟩ rfl rfl hl.1 rfl (lv_room (Nat.le_of_ble_eq_true rfl)) (show decode cJ0_length_8abf5 6 = _ by decide +kernel) ⟨Nat.zero_le _, Nat.zero_le _⟩) ?_
  refine lv_ishr hx hb (show decode cJ0_length_8abf5 9 = _ by decide +kernel) ?_
  rw [sc_shr0 hlen]
  exact W.iret hx hb hr (fun t ht hW => ⟨rfl, ht⟩) (fun q h => by cases h) (show decode cJ0_length_8abf5 10 = _ by decide +kernel) hlk
theorem mJ3_check {g : Gm} (x : Value) (hx1 : x.category = 1) {k n : Nat} (hk : k < n) (hn : n < 2 ^ 31) : MetU g yJ3_checkIndex_8e157 cJ3_checkIndex_8e157 3 (some .int) 0 [.int (nI k), .int (nI n), x] (some (.int (nI k))) := by
  have hsl : (lg_sl [.int (nI k), .int (nI n), x]).length ≤ 3 := by
    cases x <;> first | exact Nat.le_of_ble_eq_true rfl | cases hx1
  refine MetU.of (by decide +kernel) hsl (fun p e s m below meth c A hx hb hr hml hown hts hG hlk hl => ?_)
  refine lv_iload_n hx hb (show decode cJ3_checkIndex_8e157 0 = .ok (.iload_n 0, 1) by decide +kernel) rfl (lv_at hl 0 rfl) ?_
  refine lv_if_lt (tgt := 9) hx hb (show decode cJ3_checkIndex_8e157 1 = .ok (.ifCond .lt 8, 3) by decide +kernel) (by decide) (fun q => absurd q (nI_pos (by omega))) (fun _ => ?_)
  refine lv_iload_n hx hb (show decode cJ3_checkIndex_8e157 4 = .ok (.iload_n 0, 1) by decide +kernel) rfl (lv_at hl 0 rfl) ?_
  refine lv_iload_n hx hb (show decode cJ3_checkIndex_8e157 5 = .ok (.iload_n 1, 1) by decide +kernel) rfl (lv_at hl 1 rfl) ?_
  refine lv_icmp_lt (tgt := 16) hx hb (show decode cJ3_checkIndex_8e157 6 = .ok (.if_icmp .lt 10, 3) by decide +kernel) (by decide) (fun _ => ?_) (fun q => absurd (nI_lt hk hn) q)
  refine lv_iload_n hx hb (show decode cJ3_checkIndex_8e157 16 = .ok (.iload_n 0, 1) by decide +kernel) rfl (lv_at hl 0 rfl) ?_
  exact W.iret hx hb hr (fun t ht hW => ⟨rfl, ht⟩) (fun q h => by cases h) (show decode cJ3_checkIndex_8e157 17 = _ by decide +kernel) hlk
theorem mJ0_check {g : Gm} (hg : GmOK g) {k n : Nat} (hk : k < n) (hn : n < 2 ^ 31) : MetU g yJ0_checkIndex_df160 cJ0_checkIndex_df160 2 none 1 [.int (nI k), .int (nI n)] none := by
  refine MetU.of (by decide +kernel) (Nat.le_of_ble_eq_true rfl) (fun p e s m below meth c A hx hb hr hml hown hts hG hlk hl => ?_)
  obtain ⟨-, -, -, -, -, hZ⟩ := hg.2.2.2.2 s hG
  have hS : va_S (gA g) s.heap s.heap [] := va_S.rf
  have hZ : ∃ x : Value, x.category = 1 ∧ va_Z "jdk/internal/util/Preconditions" "SIOOBE_FORMATTER" "Ljava/util/function/BiFunction;" x (gA g) s s.heap := hZ.elim (fun z => ⟨_, rfl, z⟩) (fun ⟨t, z⟩ => ⟨_, rfl, z⟩)
  obtain ⟨x, hx1, hZ⟩ := hZ
  refine lv_iload_n hx hb (show decode cJ0_checkIndex_df160 0 = .ok (.iload_n 0, 1) by decide +kernel) rfl (lv_at hl 0 rfl) ?_
  refine lv_iload_n hx hb (show decode cJ0_checkIndex_df160 1 = .ok (.iload_n 1, 1) by decide +kernel) rfl (lv_at hl 1 rfl) ?_
  refine va_gets hx hb hZ hS hown (hts _ flJ0_1053) (fun _ q => q) (show decode cJ0_checkIndex_df160 2 = _ by decide +kernel) ?_
  refine callU (va_runS (As := [.int (nI k), .int (nI n), x]) (rest := []) ⟨hx, hb, hml, hown, hts⟩ (mJ3_check (g := g) x hx1 hk hn) ⟨callB_w (lvl := 1) (lvc := 0) kJ3_checkIndex_8e157 hts mlJ0_1059 ⟨by decide, by decide⟩, hts _ qJ3_checkIndex_8e157⟩ ⟨PreU_blind hg _, PreU_at hg hG hS _⟩ rfl rfl hl.1 rfl (lv_room (Nat.le_of_ble_eq_true rfl)) (show decode cJ0_checkIndex_df160 5 = _ by decide +kernel) ⟨Nat.zero_le _, Nat.zero_le _⟩) ?_
  refine lv_pop hx hb (show decode cJ0_checkIndex_df160 8 = _ by decide +kernel) rfl ?_
  exact W.vret hx hb hr (fun t ht hW => ⟨rfl, ht⟩) (fun q h => by cases h) (show decode cJ0_checkIndex_df160 9 = _ by decide +kernel) hlk
def strC (i k : Nat) : Int32 := (strB.getD i []).getD k 0
theorem strC_ok : ∀ i, i < 4 → ∀ k, k < strL i → (strC i k &&& 255).toUInt32 % 65536 = (strC i k).toUInt32 ∧ narrow .char (.int (strC i k)) = .int (strC i k) := by decide +kernel
def PreT (g : Gm) (q i : Nat) (vs : List Value) : Array Value → State → Prop := fun v U => v = vs.toArray ∧ gG g U ∧ va_T .byte q (strL i) (fun j => .int (strC i j)) (gA g) U U.heap
theorem PreT_blind {g : Gm} (hg : GmOK g) (q i : Nat) (vs : List Value) : FrameBlind (PreT g q i vs) := fun _ U fr mk z => ⟨z.1, hg.2.2.2.1 U (U.calling fr mk _) (State.WarmedH.refl U) (Nat.le_refl _) (fun _ _ _ => rfl) z.2.1, va_T.moved (State.WarmedH.refl U).alike z.2.2⟩
theorem PreT_at {g : Gm} (hg : GmOK g) {s : State} {H : Heap} {locs : List Loc} {q i : Nat} (hG : gG g s) (hT : va_T .byte q (strL i) (fun j => .int (strC i j)) (gA g) s s.heap) (hS : va_S (gA g) s.heap H locs) (vs : List Value) : ∀ U : State, U.heap = H → s.WarmedH U.vm → PreT g q i vs vs.toArray U := fun U hU hW => ⟨rfl, hg.2.2.2.1 s U hW (by rw [hU]; exact hS.1) (fun q h1 h2 => by rw [hU]; exact hS.2.1 q h1 h2) hG, by rw [hU]; exact (va_T.moved hW.alike hT).kept hS.2.1⟩
theorem mJ1_charAt {g : Gm} (hg : GmOK g) {i k q : Nat} (hi : i < 4) (hk : k < strL i) : Met (gL g) yJ1_charAt_3b067 (Cond.code yJ1_charAt_3b067 cJ1_charAt_3b067 2 (some .char) :: WS) (rmL 2) (PreT g q i [.ref q, .int (nI k)]) (PostU (some (.int (strC i k)))) 0 0 (fun _ => False) := by
  refine Met.ofW (cc := cJ1_charAt_3b067) (maxL := 2) (ret := some .char) (by decide +kernel) rfl ?_
  intro p e s m args below meth c s₁ B hml hv
  obtain ⟨rfl, hG, hT⟩ := hv
  have hts0 := atoms_spec (ws := Cond.code yJ1_charAt_3b067 cJ1_charAt_3b067 2 (some .char) :: WS) B.pre
  have hl := lv_entry [.ref q, .int (nI k)] (n := 2) (Nat.le_of_ble_eq_true rfl)
  rw [lg_entry_eq]
  have hx := B.exec
  have hb := B.bytes
  have hr := B.returns
  have hown := findClass_of_methodNamed B.named
  have hlk := B.notSynchronized
  have hts : ∀ w ∈ WS, w.before ([.ref q, .int (nI k)] : List Value).toArray s = true := fun w hw => hts0 w (List.mem_cons_of_mem _ hw)
  have hS : va_S (gA g) s.heap s.heap [] := va_S.rf
  have hlen : strL i < 2 ^ 31 := by
    rcases (show i = 0 ∨ i = 1 ∨ i = 2 ∨ i = 3 by omega) with rfl | rfl | rfl | rfl <;> decide
  obtain ⟨c1, c2⟩ := strC_ok i hi k hk
  refine lv_iload_n hx hb (show decode cJ1_charAt_3b067 0 = .ok (.iload_n 1, 1) by decide +kernel) rfl (lv_at hl 1 rfl) ?_
  refine lv_aload_n hx hb (show decode cJ1_charAt_3b067 1 = .ok (.aload_n 0, 1) by decide +kernel) rfl (lv_at hl 0 rfl) ?_
  refine va_tlen hx hb hT hS (v := nI (strL i)) rfl (show decode cJ1_charAt_3b067 2 = _ by decide +kernel) ?_
  refine callU (va_runS (As := [.int (nI k), .int (nI (strL i))]) (rest := []) ⟨hx, hb, hml, hown, hts⟩ (mJ0_check hg hk hlen) ⟨callB_w (lvl := 2) (lvc := 1) kJ0_checkIndex_df160 hts mlJ1_9 ⟨by decide, by decide⟩, hts _ qJ0_checkIndex_df160⟩ ⟨PreU_blind hg _, PreU_at hg hG hS _⟩ rfl rfl hl.1 rfl (lv_room (Nat.le_of_ble_eq_true rfl)) (show decode cJ1_charAt_3b067 3 = _ by decide +kernel) ⟨Nat.zero_le _, Nat.zero_le _⟩) ?_
  refine lv_aload_n hx hb (show decode cJ1_charAt_3b067 6 = .ok (.aload_n 0, 1) by decide +kernel) rfl (lv_at hl 0 rfl) ?_
  refine lv_iload_n hx hb (show decode cJ1_charAt_3b067 7 = .ok (.iload_n 1, 1) by decide +kernel) rfl (lv_at hl 1 rfl) ?_
  refine va_tb hx hb hT hS (vp_in_nI hk hlen) rfl (show decode cJ1_charAt_3b067 8 = _ by decide +kernel) ?_
  rw [nI_clamp (show k < 2 ^ 31 by omega)]
  refine lv_sipush (v := 255) hx hb (show decode cJ1_charAt_3b067 9 = .ok (.sipush 255, 3) by decide +kernel) (by decide) ?_
  refine lv_iand hx hb (show decode cJ1_charAt_3b067 12 = _ by decide +kernel) ?_
  refine lv_i2c (v := strC i k) hx hb (show decode cJ1_charAt_3b067 13 = _ by decide +kernel) (by rw [c1]; rfl) ?_
  exact W.zret hx hb hr c2 (fun t ht hW => ⟨rfl, ht⟩) (fun q h => by cases h) (show decode cJ1_charAt_3b067 14 = _ by decide +kernel) hlk
theorem mJ0_charAt {g : Gm} (hg : GmOK g) {i k : Nat} (hi : i < 4) (hk : k < strL i) : MetU g yJ0_charAt_5068e cJ0_charAt_5068e 2 (some .char) 4 [.ref (gAd g (9, i, 0)), .int (nI k)] (some (.int (strC i k))) := by
  refine MetU.of (by decide +kernel) (Nat.le_of_ble_eq_true rfl) (fun p e s m below meth c A hx hb hr hml hown hts hG hlk hl => ?_)
  obtain ⟨-, -, ⟨adV, hE⟩, -, hZ, -⟩ := hg.2.2.2.2 s hG
  have hS : va_S (gA g) s.heap s.heap [] := va_S.rf
  have hT : va_T .byte (adV i) (strL i) (fun j => .int (strC i j)) (gA g) s s.heap := (hE.1 i hi).2.2.2
  refine lv_aload_n hx hb (show decode cJ0_charAt_5068e 0 = .ok (.aload_n 0, 1) by decide +kernel) rfl (lv_at hl 0 rfl) ?_
  refine callU (va_runV (As := []) (rest := []) (C := RJ0) ⟨hx, hb, hml, hown, hts⟩ (mJ0_isLatin1 hg hi) ⟨callB_w (lvl := 4) (lvc := 0) kJ0_isLatin1_aae02 hts mlJ0_492 ⟨by decide, by decide⟩, hts _ qJ0_isLatin1_aae02.1, hts _ qJ0_isLatin1_aae02.2⟩ ⟨PreU_blind hg _, vk_recv hE hi hS, PreU_at hg hG hS _⟩ rfl rfl hl.1 rfl (lv_room (Nat.le_of_ble_eq_true rfl)) (show decode cJ0_charAt_5068e 1 = _ by decide +kernel) ⟨Nat.zero_le _, Nat.zero_le _⟩) ?_
  refine lv_if_eq (tgt := 16) hx hb (show decode cJ0_charAt_5068e 4 = .ok (.ifCond .eq 12, 3) by decide +kernel) (by decide) (fun q => absurd q (by decide)) (fun _ => ?_)
  refine lv_aload_n hx hb (show decode cJ0_charAt_5068e 7 = .ok (.aload_n 0, 1) by decide +kernel) rfl (lv_at hl 0 rfl) ?_
  refine vk_getf hx hb (hE.1 i hi).2.2.1 hS hown (hts _ flJ0_9) (fun _ q => q) (show decode cJ0_charAt_5068e 8 = _ by decide +kernel) ?_
  refine lv_iload_n hx hb (show decode cJ0_charAt_5068e 11 = .ok (.iload_n 1, 1) by decide +kernel) rfl (lv_at hl 1 rfl) ?_
  refine callU (va_runS (As := [.ref (adV i), .int (nI k)]) (rest := []) ⟨hx, hb, hml, hown, hts⟩ (mJ1_charAt hg hi hk) ⟨callB_w (lvl := 4) (lvc := 2) kJ1_charAt_3b067 hts mlJ0_495 ⟨by decide, by decide⟩, hts _ qJ1_charAt_3b067⟩ ⟨PreT_blind hg _ _ _, PreT_at hg hG hT hS _⟩ rfl rfl hl.1 rfl (lv_room (Nat.le_of_ble_eq_true rfl)) (show decode cJ0_charAt_5068e 12 = _ by decide +kernel) ⟨Nat.zero_le _, Nat.zero_le _⟩) ?_
  exact W.zret hx hb hr (strC_ok i hi k hk).2 (fun t ht hW => ⟨rfl, ht⟩) (fun q h => by cases h) (show decode cJ0_charAt_5068e 15 = _ by decide +kernel) hlk
def sJ0_length : SP := fun As f a Q => match As with
  | [.inr (.inr (9, i, 0))] => i < 4 ∧ Q (some (.inl (nI (strL i)))) f a
  | _ => False
def sJ0_charAt : SP := fun As f a Q => match As with
  | [.inr (.inr (9, i, 0)), .inl x] => ∃ k, i < 4 ∧ x = nI k ∧ k < strL i ∧ Q (some (.inl (strC i k))) f a
  | _ => False
theorem callU2 {g : Gm} (hg : GmOK g) {lvl lvc idx n maxL : Nat} {y : MethodName} {cc : ByteArray} {ret : Option FieldType} {p : Program} {e : Env} {s : State} {m : MethodId} {args : Array Value} {below : List Frame} {meth : Method} {c : Code} {cc' : ByteArray} {nL : Nat} {Qg : State → Prop} {H : Heap} {locs : List Loc} {ls : Array Slot} {pc : Nat} {r rest : List AV} {f : FF} {a : AA} {i : Nat} {v : Int32}
    (hM : MetU g y cc maxL ret lvc ((.inr (.inr (9, i, 0)) :: r : List AV).map (cv (gAd g))) (some (.int v))) (hk : LnkOK y cc maxL ret n) (hl : Cond.methodLink RX3 idx y ∈ WS) (hi : Cond.instanceMethod y ∈ WS) (hs : Cond.selects RJ0 y y ∈ WS) (hR : lvc + 1 ≤ lvl ∧ maxL ≤ 16) (hi4 : i < 4)
    (hx : p.tables.exec = Jvm.exec) (hb : c.code = cc') (hml : c.maxLocals = nL) (hown : s.vm.findClass RX3 = some m.cls) (hts : ∀ w ∈ WS, w.before args s = true) (hG : gG g s) (hP : gW g f a H) (hS : va_S (gA g) s.heap H locs) (hsz : ls.size = nL) (hc : cats rest ≤ 8) (hlen : r.length = n)
    (hd : decode cc' pc = .ok (.invokevirtual idx, 3)) (hy : y.cls = "java/lang/String")
    (kk : W p (gL g) e (rmL lvl) s m args below meth c H locs 0 0 Qg (F0 m (pc + 3) ls ((.inl v :: rest).map (cv (gAd g))))) :
    W p (gL g) e (rmL lvl) s m args below meth c H locs 0 0 Qg (F0 m pc ls (((.inr (.inr (9, i, 0)) :: r : List AV).reverse ++ rest).map (cv (gAd g)))) := by
  obtain ⟨-, -, ⟨adV, hE⟩, -⟩ := hg.2.2.2.2 s hG
  have cw : CallW (rmL lvl) s args RX3 RJ0 idx y cc maxL ret (Cond.code y cc maxL ret :: WS) (rmL lvc) 0 0 n := ⟨callB_w hk hts hl hR, hts _ hi, hts _ hs⟩
  have hst : (F0 m pc ls ((((Sum.inr (Sum.inr (9, i, 0)) : AV) :: r).reverse ++ rest).map (cv (gAd g)))).stack = (r.map (cv (gAd g))).reverse ++ .ref (gAd g (9, i, 0)) :: rest.map (cv (gAd g)) := by
    show List.map (cv (gAd g)) ((((Sum.inr (Sum.inr (9, i, 0)) : AV) :: r).reverse ++ rest)) = _
    rw [List.reverse_cons, List.append_assoc, List.map_append, List.map_reverse]
    rfl
  exact callU (va_runV (As := r.map (cv (gAd g))) (rest := rest.map (cv (gAd g))) (C := RJ0) ⟨hx, hb, hml, hown, hts⟩ hM cw ⟨PreU_blind hg _, vk_recv hE hi4 hS, PreU_at hg hG hS _⟩ rfl (by rw [List.length_map]; exact hlen) hsz hst (lv_room (by rw [cats_sum]; exact hc)) hd ⟨Nat.zero_le _, Nat.zero_le _⟩) kk
theorem callJ0_length_X3_107 {g : Gm} (hg : GmOK g) {lvl : Nat} (hlv : 2 ≤ lvl) : CallOK g lvl RX3 107 false 1 sJ0_length := by
  intro p e s m args below meth c cc' nL Qg H locs ls pc As rest f a Q hx hb hml hown hts hG hP hS hsz hc hlen hV hd hq kk
  unfold sJ0_length at hq
  split at hq
  · exact callU2 hg (mJ0_length hg hq.1) kJ0_length_8abf5 mlX3_107 qJ0_length_8abf5.1 qJ0_length_8abf5.2 ⟨hlv, by decide⟩ hq.1 hx hb hml hown hts hG hP hS hsz hc rfl hd rfl (kk _ f a H locs hq.2 (fun v h => by cases h; trivial) hP hS)
  · exact hq.elim
theorem callJ0_charAt_X3_112 {g : Gm} (hg : GmOK g) {lvl : Nat} (hlv : 5 ≤ lvl) : CallOK g lvl RX3 112 false 2 sJ0_charAt := by
  intro p e s m args below meth c cc' nL Qg H locs ls pc As rest f a Q hx hb hml hown hts hG hP hS hsz hc hlen hV hd hq kk
  unfold sJ0_charAt at hq
  split at hq
  · obtain ⟨k, h1, rfl, h2, h3⟩ := hq
    exact callU2 hg (mJ0_charAt hg h1 h2) kJ0_charAt_5068e mlX3_112 qJ0_charAt_5068e.1 qJ0_charAt_5068e.2 ⟨hlv, by decide⟩ h1 hx hb hml hown hts hG hP hS hsz hc rfl hd rfl (kk _ f a H locs h3 (fun v h => by cases h; trivial) hP hS)
  · exact hq.elim
end
section
/-! the text's tokens -/
abbrev Lx : Type := Nat × Nat × Nat × Nat
def LX (u : Nat → Int32) (σ : Lx) : Prop := u 2 = nI σ.1 ∧ u 3 = nI σ.2.1 ∧ u 4 = nI σ.2.2.1 ∧ u 5 = nI σ.2.2.2
def OKT (T : List Nat) : Prop := T.length ≤ 160 ∧ ∀ i, i < T.length → T.getD i 0 < 128
def TP (u : Nat → Int32) (w : Nat → Nat → Int32) (T : List Nat) : Prop := u 1 = nI T.length ∧ ∀ i, i < T.length → w 0 i = nI (T.getD i 0)
def tkN (c : Nat) : Nat := if 97 ≤ c ∧ c ≤ 122 then 1 else if 48 ≤ c ∧ c ≤ 57 then 2 else if c = 45 ∨ c = 47 ∨ c = 43 ∨ c = 38 ∨ c = 59 then 3 else 0
theorem tkN_lt (c : Nat) : tkN c < 4 := by
  unfold tkN
  split
  · decide
  · split
    · decide
    · split <;> decide
/-- the first place at which p is false -/
def skU (p : Nat → Bool) : Nat → Nat → Nat
  | 0, i => i
  | d + 1, i => if p i then skU p d (i + 1) else i
theorem skU_le (p : Nat → Bool) : ∀ d i, i ≤ skU p d i ∧ skU p d i ≤ i + d
  | 0, i => ⟨Nat.le_refl i, Nat.le_refl i⟩
  | d + 1, i => by
    unfold skU
    have := skU_le p d (i + 1)
    split <;> omega
theorem skU_all (p : Nat → Bool) : ∀ d i j, i ≤ j → j < skU p d i → p j = true
  | 0, i, j, h1, h2 => absurd h1 (Nat.not_le.mpr h2)
  | d + 1, i, j, h1, h2 => by
    unfold skU at h2
    by_cases hp : p i = true
    · rw [if_pos hp] at h2
      by_cases h : j = i
      · rw [h]; exact hp
      · exact skU_all p d (i + 1) j (by omega) h2
    · rw [if_neg hp] at h2
      omega
def blB (T : List Nat) (i : Nat) : Bool := decide (T.getD i 0 = 32)
def tkB (T : List Nat) (k i : Nat) : Bool := decide (tkN (T.getD i 0) = k)
def stS (T : List Nat) (e : Nat) : Nat := skU (blB T) (T.length - e) e
def stE (T : List Nat) (s : Nat) : Nat := if tkN (T.getD s 0) = 3 then s + 1 else skU (tkB T (tkN (T.getD s 0))) (T.length - (s + 1)) (s + 1)
def stepN (T : List Nat) (σ : Lx) : Lx := if σ.1 ≠ 0 then σ else
  if T.length ≤ stS T σ.2.2.1 then (0, stS T σ.2.2.1, stS T σ.2.2.1, 0) else
  if tkN (T.getD (stS T σ.2.2.1) 0) = 0 ∨ (tkN (T.getD (stS T σ.2.2.1) 0) = 2 ∧ 2 < stE T (stS T σ.2.2.1) - stS T σ.2.2.1) then (1, stS T σ.2.2.1, stE T (stS T σ.2.2.1), 0)
  else (0, stS T σ.2.2.1, stE T (stS T σ.2.2.1), tkN (T.getD (stS T σ.2.2.1) 0))
def refN (x : Nat) (σ : Lx) : Lx := (if σ.1 = 0 then x else σ.1, σ.2.1, σ.2.2.1, 0)
/-- what is known of a token -/
def LOK (T : List Nat) (σ : Lx) : Prop := σ.1 < 10 ∧ σ.2.1 ≤ σ.2.2.1 ∧ σ.2.2.1 ≤ T.length ∧ σ.2.2.2 < 4 ∧ (σ.2.2.2 ≠ 0 → σ.1 = 0 ∧ σ.2.1 < σ.2.2.1 ∧ ∀ i, σ.2.1 ≤ i → i < σ.2.2.1 → tkN (T.getD i 0) = σ.2.2.2) ∧ (σ.2.2.2 = 2 → σ.2.2.1 ≤ σ.2.1 + 2) ∧ (σ.2.2.2 = 3 → σ.2.2.1 = σ.2.1 + 1)
theorem LOK.ref {T : List Nat} {σ : Lx} (h : LOK T σ) {x : Nat} (hx : x < 10) : LOK T (refN x σ) := by
  unfold refN LOK
  dsimp only
  refine ⟨?_, h.2.1, h.2.2.1, by decide, fun z => absurd rfl z, fun z => absurd z (by decide), fun z => absurd z (by decide)⟩
  split
  · exact hx
  · exact h.1
theorem stS_le {T : List Nat} {e : Nat} (h : e ≤ T.length) : e ≤ stS T e ∧ stS T e ≤ T.length := by
  have := skU_le (blB T) (T.length - e) e
  unfold stS
  omega
theorem stE_le {T : List Nat} {s : Nat} (h : s < T.length) : s < stE T s ∧ stE T s ≤ T.length := by
  have := skU_le (tkB T (tkN (T.getD s 0))) (T.length - (s + 1)) (s + 1)
  unfold stE
  split <;> omega
theorem stE_all {T : List Nat} {s : Nat} : ∀ i, s ≤ i → i < stE T s → tkN (T.getD i 0) = tkN (T.getD s 0) := by
  intro i h1 h2
  by_cases hi : i = s
  · rw [hi]
  · unfold stE at h2
    split at h2
    · omega
    · exact of_decide_eq_true (skU_all _ _ _ i (by omega) h2)
theorem LOK.step {T : List Nat} {σ : Lx} (h : LOK T σ) : LOK T (stepN T σ) := by
  unfold stepN
  by_cases h0 : σ.1 ≠ 0
  · rw [if_pos h0]
    exact h
  · rw [if_neg h0]
    have hs := stS_le h.2.2.1
    by_cases h1 : T.length ≤ stS T σ.2.2.1
    · rw [if_pos h1]
      exact ⟨by show 0 < 10; decide, Nat.le_refl _, hs.2, by show 0 < 4; decide, fun z => absurd rfl z, fun z => absurd z (by show ¬ 0 = 2; decide), fun z => absurd z (by show ¬ 0 = 3; decide)⟩
    · rw [if_neg h1]
      have he := stE_le (Nat.lt_of_not_le h1)
      split
      · exact ⟨by show 1 < 10; decide, Nat.le_of_lt he.1, he.2, by show 0 < 4; decide, fun z => absurd rfl z, fun z => absurd z (by show ¬ 0 = 2; decide), fun z => absurd z (by show ¬ 0 = 3; decide)⟩
      · rename_i hn
        refine ⟨by show 0 < 10; decide, Nat.le_of_lt he.1, he.2, tkN_lt _, fun _ => ⟨rfl, he.1, stE_all⟩, fun z => ?_, fun z => ?_⟩
        · have z : tkN (T.getD (stS T σ.2.2.1) 0) = 2 := z
          have : ¬ 2 < stE T (stS T σ.2.2.1) - stS T σ.2.2.1 := fun y => hn (Or.inr ⟨z, y⟩)
          show stE T (stS T σ.2.2.1) ≤ stS T σ.2.2.1 + 2
          omega
        · have z : tkN (T.getD (stS T σ.2.2.1) 0) = 3 := z
          show stE T (stS T σ.2.2.1) = stS T σ.2.2.1 + 1
          unfold stE
          rw [if_pos z]
def LOK0 (T : List Nat) (σ : Lx) : Prop := σ.1 < 10 ∧ σ.2.2.1 ≤ T.length
theorem LOK.l0 {T : List Nat} {σ : Lx} (h : LOK T σ) : LOK0 T σ := ⟨h.1, h.2.2.1⟩
theorem LOK0.step {T : List Nat} {σ : Lx} (h : LOK0 T σ) (h0 : σ.1 = 0) : LOK T (stepN T σ) := by
  have := @LOK.step T (0, σ.2.2.1, σ.2.2.1, 0) ⟨by show 0 < 10; decide, Nat.le_refl _, h.2, by show 0 < 4; decide, fun z => absurd rfl z, fun z => absurd z (by show ¬ 0 = 2; decide), fun z => absurd z (by show ¬ 0 = 3; decide)⟩
  have e : stepN T (0, σ.2.2.1, σ.2.2.1, 0) = stepN T σ := by
    unfold stepN
    rw [h0]
    rfl
  rw [e] at this
  exact this
/-- only the token's fields changed -/
def F3 (f f' : FF) : Prop := ∀ t i k, ¬ (t = 3 ∧ i = 0 ∧ 2 ≤ k) → f' t i k = f t i k
theorem F3.rf (f : FF) : F3 f f := fun _ _ _ _ => rfl
theorem F3.tr {f f' f'' : FF} (h : F3 f f') (h' : F3 f' f'') : F3 f f'' := fun t i k q => (h' t i k q).trans (h t i k q)
theorem F3.up {f f' : FF} (h : F3 f f') (j : Nat) (hj : 2 ≤ j) (x : Int32) : F3 f (upf f' 3 0 j x) := fun t i k q => by
  rw [upf_ne (fun z => q ⟨z.1, z.2.1, by rw [z.2.2]; exact hj⟩)]
  exact h t i k q
theorem F3.tp {f f' : FF} (h : F3 f f') {w : Nat → Nat → Int32} {T : List Nat} (hT : TP (f 3 0) w T) : TP (f' 3 0) w T := ⟨by rw [h 3 0 1 (fun z => absurd z.2.2 (by decide))]; exact hT.1, hT.2⟩
theorem F3.o {f f' : FF} (h : F3 f f') {t i : Nat} (q : ¬ (t = 3 ∧ i = 0)) : f' t i = f t i := by
  funext k
  exact h t i k (fun z => q ⟨z.1, z.2.1⟩)
def sX3_tokenOf : SP := fun As f a Q => match As with
  | [.inl x] => ∃ c, x = nI c ∧ c < 128 ∧ Q (some (.inl (nI (tkN c)))) f a
  | _ => False
def eX3_tokenOf : En := (tX3_tokenOf, [], fdX3, [], 0)
theorem eokX3_tokenOf {g : Gm} (hg : GmOK g) : EnvOK g 0 RX3 cX3_tokenOf (some .int) eX3_tokenOf := ⟨okX3_tokenOf, (fun _ _ _ _ h => by cases h), fdX3_ok, (fun _ _ h => by cases h), rfl⟩
theorem rX3_tokenOf (av : List AV) (f : FF) (a : AA) (post : PT) (h : sX3_tokenOf av f a post) (X : XT) (hX : Clo eX3_tokenOf post X) : X 0 (padL 1 (ent av)) [] f a := by
  unfold sX3_tokenOf at h
  split at h
  · obtain ⟨c, rfl, hc, h⟩ := h
    have l : ∀ n, n < 128 → (nI c < nI n ↔ c < n) := fun n hn => nI_ltI (by omega) (by omega)
    have e : ∀ n, n < 128 → (nI c = nI n ↔ c = n) := fun n hn => nI_eq (by omega) (by omega)
    have g : ∀ n, n < 128 → (nI n < nI c ↔ n < c) := fun n hn => nI_ltI (by omega) (by omega)
    have k3 : (c = 45 ∨ c = 47 ∨ c = 43 ∨ c = 38 ∨ c = 59) → nI (tkN c) = 3 := fun z => by
      rcases z with rfl | rfl | rfl | rfl | rfl <;> decide
    refine hX [14, 28, 58, 62] 40 _ _ _ _ _ ?_
    have h58 : (c = 45 ∨ c = 47 ∨ c = 43 ∨ c = 38 ∨ c = 59) → X 58 [some (.inl (nI c))] [] f a := fun z => hX [] 20 _ _ _ _ _ (pI h (k3 z))
    have h28 : ¬ (97 ≤ c ∧ c ≤ 122) → ¬ (48 ≤ c ∧ c ≤ 57) → X 28 [some (.inl (nI c))] [] f a := fun z1 z2 => by
      refine hX [58, 62] 40 _ _ _ _ _ ?_
      refine ⟨fun q => h58 (Or.inl ((e 45 (by decide)).mp q)), fun q => ?_⟩
      refine ⟨fun q2 => h58 (Or.inr (Or.inl ((e 47 (by decide)).mp q2))), fun q2 => ?_⟩
      refine ⟨fun q3 => h58 (Or.inr (Or.inr (Or.inl ((e 43 (by decide)).mp q3)))), fun q3 => ?_⟩
      refine ⟨fun q4 => h58 (Or.inr (Or.inr (Or.inr (Or.inl ((e 38 (by decide)).mp q4))))), fun q4 => ?_⟩
      refine ⟨fun q5 => ?_, fun q5 => h58 (Or.inr (Or.inr (Or.inr (Or.inr ((e 59 (by decide)).mp q5)))))⟩
      refine hX [] 20 _ _ _ _ _ (pI h ?_)
      unfold tkN
      rw [if_neg z1, if_neg z2, if_neg]
      · rfl
      · rintro (z | z | z | z | z)
        · exact q ((e 45 (by decide)).mpr z)
        · exact q2 ((e 47 (by decide)).mpr z)
        · exact q3 ((e 43 (by decide)).mpr z)
        · exact q4 ((e 38 (by decide)).mpr z)
        · exact q5 ((e 59 (by decide)).mpr z)
    have h14 : ¬ (97 ≤ c ∧ c ≤ 122) → X 14 [some (.inl (nI c))] [] f a := fun z1 => by
      refine hX [28] 40 _ _ _ _ _ ?_
      refine ⟨fun q => ?_, fun q => ⟨fun q2 => ?_, fun q2 => ?_⟩⟩
      · have := (l 48 (by decide)).mp q
        exact h28 z1 (by omega)
      · have := (g 57 (by decide)).mp q2
        exact h28 z1 (by omega)
      · have q2 : ¬ 57 < c := fun z => q2 ((g 57 (by decide)).mpr z)
        have q : ¬ c < 48 := fun z => q ((l 48 (by decide)).mpr z)
        refine pI h ?_
        unfold tkN
        rw [if_neg z1, if_pos (by omega)]
        rfl
    refine ⟨fun q => ?_, fun q => ⟨fun q2 => ?_, fun q2 => ?_⟩⟩
    · have := (l 97 (by decide)).mp q
      exact h14 (by omega)
    · have := (g 122 (by decide)).mp q2
      exact h14 (by omega)
    · have q2 : ¬ 122 < c := fun z => q2 ((g 122 (by decide)).mpr z)
      have q : ¬ c < 97 := fun z => q ((l 97 (by decide)).mpr z)
      refine pI h ?_
      unfold tkN
      rw [if_pos (by omega)]
      rfl
  · exact h.elim
theorem mX3_tokenOf {g : Gm} (hg : GmOK g) : MetC g yX3_tokenOf cX3_tokenOf 1 (some .int) 0 sX3_tokenOf := by
  refine MetC_of hg eX3_tokenOf (eokX3_tokenOf hg) (by decide +kernel) (fun av f a post h => ?_) rX3_tokenOf
  unfold sX3_tokenOf at h
  split at h
  · exact Nat.le_of_ble_eq_true rfl
  · exact h.elim
def sX3_refuse : SP := fun As f a Q => match As with
  | [.inr (.inr (3, 0, 0)), .inl x] => ∃ n σ, x = nI n ∧ LX (f 3 0) σ ∧ σ.1 < 10 ∧ ∀ f', F3 f f' → LX (f' 3 0) (refN n σ) → Q none f' a
  | _ => False
def eX3_refuse : En := (tX3_refuse, [], fdX3, [], 2)
theorem eokX3_refuse {g : Gm} (hg : GmOK g) : EnvOK g 0 RX3 cX3_refuse none eX3_refuse := ⟨okX3_refuse, (fun _ _ _ _ h => by cases h), fdX3_ok, (fun _ _ h => by cases h), rfl⟩
theorem rX3_refuse (av : List AV) (f : FF) (a : AA) (post : PT) (h : sX3_refuse av f a post) (X : XT) (hX : Clo eX3_refuse post X) : X 0 (padL 2 (ent av)) [] f a := by
  unfold sX3_refuse at h
  split at h
  · obtain ⟨n, σ, rfl, ⟨l1, l2, l3, l4⟩, ho, h⟩ := h
    have hz : f 3 0 2 = 0 ↔ σ.1 = 0 := i_eq l1 (show (0 : Int32) = nI 0 from rfl) (by omega) (by decide)
    refine hX [12] 40 _ _ _ _ _ ?_
    refine ⟨fun q => ?_, fun q => ?_⟩
    · refine hX [] 20 _ _ _ _ _ ?_
      refine h _ ((F3.rf f).up 5 (by decide) _) ?_
      have q : ¬ σ.1 = 0 := fun z => q (hz.mpr z)
      unfold LX refN
      rw [if_neg q]
      exact ⟨l1, l2, l3, rfl⟩
    · refine hX [] 20 _ _ _ _ _ ?_
      refine h _ (((F3.rf f).up 2 (by decide) _).up 5 (by decide) _) ?_
      have q : σ.1 = 0 := hz.mp q
      unfold LX refN
      rw [if_pos q]
      exact ⟨rfl, l2, l3, rfl⟩
  · exact h.elim
theorem shX3_refuse : ∀ As f a Q, sX3_refuse As f a Q → ∃ i r, As = .inr (.inr (3, i, 0)) :: r := by
  intro As f a Q h
  unfold sX3_refuse at h
  split at h
  · exact ⟨_, _, rfl⟩
  · exact h.elim
theorem mX3_refuse {g : Gm} (hg : GmOK g) : MetC g yX3_refuse cX3_refuse 2 none 0 sX3_refuse := by
  refine MetC_of hg eX3_refuse (eokX3_refuse hg) (by decide +kernel) (fun av f a post h => ?_) rX3_refuse
  unfold sX3_refuse at h
  split at h
  · exact Nat.le_of_ble_eq_true rfl
  · exact h.elim
def sX3_step : SP := fun As f a Q => match As with
  | [.inr (.inr (3, 0, 0))] => ∃ T σ, TP (f 3 0) (a 3 0) T ∧ OKT T ∧ LX (f 3 0) σ ∧ LOK0 T σ ∧ ∀ f', F3 f f' → LX (f' 3 0) (stepN T σ) → Q none f' a
  | _ => False
def eX3_step : En := (tX3_step, [(118, true, 1, sX3_tokenOf), (43, false, 2, sX3_refuse)], fdX3, [], 2)
theorem eokX3_step {g : Gm} (hg : GmOK g) : EnvOK g 1 RX3 cX3_step none eX3_step := ⟨okX3_step, fun _ _ _ _ h => as2_all (P := fun i v => CallOK g 1 RX3 i v.1 v.2.1 v.2.2) (l := eX3_step.2.1) ⟨callS_ok hg (mX3_tokenOf hg) kX3_tokenOf mlX3_118 qX3_tokenOf ⟨by decide, by decide⟩, callV_ok (t := 3) hg (mX3_refuse hg) kX3_refuse mlX3_43 qX3_refuse.1 qX3_refuse.2 ⟨by decide, by decide⟩ ⟨_, _, rfl⟩ shX3_refuse, trivial⟩ h, fdX3_ok, (fun _ _ h => by cases h), rfl⟩
theorem rX3_step (av : List AV) (f : FF) (a : AA) (post : PT) (h : sX3_step av f a post) (X : XT) (hX : Clo eX3_step post X) : X 0 (padL 1 (ent av)) [] f a := by
  unfold sX3_step at h
  split at h
  · obtain ⟨T, σ, hT, hO, ⟨l1, l2, l3, l4⟩, hL, h⟩ := h
    have hz : f 3 0 2 = 0 ↔ σ.1 = 0 := i_eq l1 (show (0 : Int32) = nI 0 from rfl) (by have := hL.1; omega) (by decide)
    have hlen := hO.1
    refine hX [16] 40 _ _ _ _ _ ?_
    refine ⟨fun q => ?_, fun q => h f (F3.rf f) (by unfold stepN; rw [if_pos (fun z => q (hz.mpr z))]; exact ⟨l1, l2, l3, l4⟩)⟩
    have q0 := hz.mp q
    have el : ∀ f1, F3 f f1 → f1 3 0 1 = nI T.length := fun f1 hF => (hF.tp hT).1
    have es : stepN T σ = if T.length ≤ stS T σ.2.2.1 then (0, stS T σ.2.2.1, stS T σ.2.2.1, 0) else
      if tkN (T.getD (stS T σ.2.2.1) 0) = 0 ∨ (tkN (T.getD (stS T σ.2.2.1) 0) = 2 ∧ 2 < stE T (stS T σ.2.2.1) - stS T σ.2.2.1) then (1, stS T σ.2.2.1, stE T (stS T σ.2.2.1), 0)
      else (0, stS T σ.2.2.1, stE T (stS T σ.2.2.1), tkN (T.getD (stS T σ.2.2.1) 0)) := by
      unfold stepN
      rw [if_neg (fun z => z q0)]
    rw [es] at h
    have hs := stS_le hL.2
    obtain ⟨S, hS⟩ : ∃ S, S = stS T σ.2.2.1 := ⟨_, rfl⟩
    rw [← hS] at h hs
    obtain ⟨E, hE⟩ : ∃ E, E = stE T S := ⟨_, rfl⟩
    rw [← hE] at h
    obtain ⟨k, hk⟩ : ∃ k, k = tkN (T.getD S 0) := ⟨_, rfl⟩
    rw [← hk] at h
    have hk4 : k < 4 := by rw [hk]; exact tkN_lt _
    have h156 : ∀ f1, F3 f f1 → f1 3 0 2 = 0 → f1 3 0 3 = nI S → f1 3 0 4 = nI E → f1 3 0 5 = nI k → S < T.length → X 156 [some (.inr (.inr (3, 0, 0)))] [] f1 a := by
      intro f1 hF e2 e3 e4 e5 hlt
      rw [if_neg (by omega)] at h
      have hEl : S < E ∧ E ≤ T.length := by rw [hE]; exact stE_le hlt
      have h184 : (k = 0 ∨ (k = 2 ∧ 2 < E - S)) → X 184 [some (.inr (.inr (3, 0, 0)))] [] f1 a := fun z => by
        rw [if_pos z] at h
        refine hX [] 40 _ _ _ _ _ ?_
        refine ⟨1, (0, S, E, k), rfl, ⟨e2, e3, e4, e5⟩, Nat.le_of_ble_eq_true rfl, fun f2 hF2 hL2 => ?_⟩
        exact h f2 (hF.tr hF2) hL2
      have h189 : ¬ (k = 0 ∨ (k = 2 ∧ 2 < E - S)) → X 189 [some (.inr (.inr (3, 0, 0)))] [] f1 a := fun z => by
        rw [if_neg z] at h
        refine hX [] 40 _ _ _ _ _ ?_
        exact h f1 hF ⟨e2, e3, e4, e5⟩
      refine hX [184, 189] 40 _ _ _ _ _ ?_
      refine ⟨fun d => ?_, fun d => ⟨fun d2 => ?_, fun d2 => ⟨fun d3 => ?_, fun d3 => ?_⟩⟩⟩
      · exact h184 (Or.inl ((i_eq e5 (show (0 : Int32) = nI 0 from rfl) (by omega) (by decide)).mp d))
      · have d : ¬ k = 0 := fun z => d ((i_eq e5 (show (0 : Int32) = nI 0 from rfl) (by omega) (by decide)).mpr z)
        have d2 : ¬ k = 2 := fun z => d2 ((i_eq e5 (show (2 : Int32) = nI 2 from rfl) (by omega) (by decide)).mpr z)
        exact h189 (by omega)
      · have d2 : k = 2 := (i_eq e5 (show (2 : Int32) = nI 2 from rfl) (by omega) (by decide)).mp d2
        have d3 : f1 3 0 4 - f1 3 0 3 ≤ 2 := d3
        rw [e4, e3, pk_sub (by omega)] at d3
        have d3 := (nI_leI (b := 2) (by omega) (by decide)).mp d3
        exact h189 (by omega)
      · have d2 : k = 2 := (i_eq e5 (show (2 : Int32) = nI 2 from rfl) (by omega) (by decide)).mp d2
        have d3 : ¬ f1 3 0 4 - f1 3 0 3 ≤ 2 := d3
        rw [e4, e3, pk_sub (by omega)] at d3
        have d3 : ¬ E - S ≤ 2 := fun z => d3 ((nI_leI (b := 2) (by omega) (by decide)).mpr z)
        exact h184 (by omega)
    have h105 : S < T.length → ∀ d e f1, F3 f f1 → f1 3 0 2 = 0 → f1 3 0 3 = nI S → f1 3 0 4 = nI e → f1 3 0 5 = nI k → e + d = T.length → E = (if k = 3 then e else skU (tkB T k) d e) → X 105 [some (.inr (.inr (3, 0, 0)))] [] f1 a := by
      intro hlt d
      induction d with
      | zero =>
        intro e f1 hF e2 e3 e4 e5 hd hEe
        have hEe : E = e := by rw [hEe]; split <;> rfl
        refine hX [156] 40 _ _ _ _ _ ?_
        refine ⟨fun _ => h156 f1 hF e2 e3 (by rw [hEe]; exact e4) e5 hlt, fun _ => ⟨fun _ => h156 f1 hF e2 e3 (by rw [hEe]; exact e4) e5 hlt, fun d => ?_⟩⟩
        exact absurd ((i_le (el f1 hF) e4 (by omega) (by omega)).mpr (by omega)) d
      | succ d ih =>
        intro e f1 hF e2 e3 e4 e5 hd hEe
        have he : e < T.length := by omega
        refine hX [105, 156] 40 _ _ _ _ _ ?_
        refine ⟨fun d => ?_, fun d1 => ?_⟩
        · have d : k = 3 := (i_eq e5 (show (3 : Int32) = nI 3 from rfl) (by omega) (by decide)).mp d
          rw [if_pos d] at hEe
          exact h156 f1 hF e2 e3 (by rw [hEe]; exact e4) e5 hlt
        · have d1 : ¬ k = 3 := fun z => d1 ((i_eq e5 (show (3 : Int32) = nI 3 from rfl) (by omega) (by decide)).mpr z)
          rw [if_neg d1] at hEe
          unfold skU at hEe
          refine ⟨fun d2 => absurd ((i_le (el f1 hF) e4 (by omega) (by omega)).mp d2) (by omega), fun d2 => ?_⟩
          refine ⟨inA 160 e4 rfl (by omega) (by decide), T.getD e 0, ?_, hO.2 e he, ?_⟩
          · show a 3 0 0 (f1 3 0 4).toNatClampNeg = _
            rw [e4, nI_clamp (by omega), hT.2 e he]
          · refine ⟨fun d3 => ?_, fun d3 => ?_⟩
            · have d3 : ¬ tkN (T.getD e 0) = k := fun z => d3 ((i_eq rfl e5 (by have := tkN_lt (T.getD e 0); omega) (by omega)).mpr z)
              rw [if_neg (fun (z : tkB T k e = true) => d3 (of_decide_eq_true z))] at hEe
              exact h156 f1 hF e2 e3 (by rw [hEe]; exact e4) e5 hlt
            · have d3 : tkN (T.getD e 0) = k := (i_eq rfl e5 (by have := tkN_lt (T.getD e 0); omega) (by omega)).mp d3
              rw [if_pos (show tkB T k e = true from decide_eq_true d3)] at hEe
              refine ih (e + 1) _ (hF.up 4 (by decide) _) e2 e3 ?_ e5 (by omega) (by rw [if_neg d1]; exact hEe)
              show f1 3 0 4 + 1 = _
              rw [e4, nI_1]
    have h54 : ∀ f1, F3 f f1 → f1 3 0 2 = 0 → f1 3 0 3 = nI S → X 54 [some (.inr (.inr (3, 0, 0)))] [] f1 a := by
      intro f1 hF e2 e3
      refine hX [105] 60 _ _ _ _ _ ?_
      have hF1 := (hF.up 4 (by decide) (f1 3 0 3)).up 5 (by decide) 0
      refine ⟨fun d => ?_, fun d => ?_⟩
      · have hlt : S < T.length := (i_lt e3 (el f1 hF) (by omega) (by omega)).mp d
        refine ⟨inA 160 e3 rfl (by omega) (by decide), T.getD S 0, ?_, hO.2 S hlt, ?_⟩
        · show a 3 0 0 (f1 3 0 3).toNatClampNeg = _
          rw [e3, nI_clamp (by omega), hT.2 S hlt]
        · refine h105 hlt (T.length - (S + 1)) (S + 1) _ ((hF1.up 5 (by decide) _).up 4 (by decide) _) e2 e3 ?_ (by rw [hk]; rfl) (by omega) (by rw [hE]; unfold stE; rw [← hk])
          show f1 3 0 3 + 1 = _
          rw [e3, nI_1]
      · have hlt : ¬ S < T.length := fun z => d ((i_lt e3 (el f1 hF) (by omega) (by omega)).mpr z)
        rw [if_pos (by omega)] at h
        exact h _ hF1 ⟨e2, e3, e3, rfl⟩
    have h16 : ∀ d i f1, F3 f f1 → f1 3 0 2 = 0 → f1 3 0 3 = nI i → i + d = T.length → S = skU (blB T) d i → X 16 [some (.inr (.inr (3, 0, 0)))] [] f1 a := by
      intro d
      induction d with
      | zero =>
        intro i f1 hF e2 e3 hd hSi
        refine hX [54] 40 _ _ _ _ _ ?_
        refine ⟨fun _ => h54 f1 hF e2 (by rw [hSi]; exact e3), fun d => ?_⟩
        exact absurd ((i_le (el f1 hF) e3 (by omega) (by omega)).mpr (by omega)) d
      | succ d ih =>
        intro i f1 hF e2 e3 hd hSi
        have hi : i < T.length := by omega
        unfold skU at hSi
        refine hX [16, 54] 40 _ _ _ _ _ ?_
        refine ⟨fun d2 => absurd ((i_le (el f1 hF) e3 (by omega) (by omega)).mp d2) (by omega), fun d2 => ?_⟩
        have et : a 3 0 0 (f1 3 0 3).toNatClampNeg = nI (T.getD i 0) := by rw [e3, nI_clamp (by omega), hT.2 i hi]
        have h128 := hO.2 i hi
        have hb : a 3 0 0 (f1 3 0 3).toNatClampNeg = 32 ↔ T.getD i 0 = 32 := i_eq et (show (32 : Int32) = nI 32 from rfl) (by omega) (by decide)
        refine ⟨inA 160 e3 rfl (by omega) (by decide), ⟨fun d3 => ?_, fun d3 => ?_⟩⟩
        · have d3 : ¬ T.getD i 0 = 32 := fun z => d3 (hb.mpr z)
          rw [if_neg (fun (z : blB T i = true) => d3 (of_decide_eq_true z))] at hSi
          exact h54 f1 hF e2 (by rw [hSi]; exact e3)
        · have d3 : T.getD i 0 = 32 := hb.mp d3
          rw [if_pos (show blB T i = true from decide_eq_true d3)] at hSi
          refine ih (i + 1) _ (hF.up 3 (by decide) _) e2 ?_ (by omega) hSi
          show f1 3 0 3 + 1 = _
          rw [e3, nI_1]
    have hel := hL.2
    exact h16 (T.length - σ.2.2.1) σ.2.2.1 _ ((F3.rf f).up 3 (by decide) _) q l3 (by omega) hS
  · exact h.elim
theorem shX3_step : ∀ As f a Q, sX3_step As f a Q → ∃ i r, As = .inr (.inr (3, i, 0)) :: r := by
  intro As f a Q h
  unfold sX3_step at h
  split at h
  · exact ⟨_, _, rfl⟩
  · exact h.elim
theorem mX3_step {g : Gm} (hg : GmOK g) : MetC g yX3_step cX3_step 1 none 1 sX3_step := by
  refine MetC_of hg eX3_step (eokX3_step hg) (by decide +kernel) (fun av f a post h => ?_) rX3_step
  unfold sX3_step at h
  split at h
  · exact Nat.le_of_ble_eq_true rfl
  · exact h.elim
end
section
/-! names, signs and numbers of the text -/
def strM (i j : Nat) : Nat := (strC i j).toNatClampNeg
theorem strM_ok : ∀ i, i < 4 → ∀ j, j < strL i → strC i j = nI (strM i j) ∧ strM i j < 128 := by decide +kernel
theorem strL_ok : ∀ i, i < 4 → strL i < 5 := by decide
def sgB (T : List Nat) (σ : Lx) (c : Nat) : Bool := decide (σ.2.2.2 = 3) && decide (T.getD σ.2.1 0 = c)
def nmB (T : List Nat) (σ : Lx) (i : Nat) : Bool := decide (σ.2.2.2 = 1) && (decide (σ.2.2.1 - σ.2.1 = strL i) && allK (fun j => decide (T.getD (σ.2.1 + j) 0 = strM i j)) (strL i))
def nuU (T : List Nat) : Nat → Nat → Nat → Nat
  | 0, _, x => x
  | d + 1, i, x => nuU T d (i + 1) (10 * x + T.getD i 0 - 48)
def nuN (T : List Nat) (σ : Lx) : Nat := nuU T (σ.2.2.1 - σ.2.1) σ.2.1 0
theorem tkN_2 {c : Nat} (h : tkN c = 2) : 48 ≤ c ∧ c ≤ 57 := by
  unfold tkN at h
  split at h
  · exact absurd h (by decide)
  · split at h
    · assumption
    · split at h <;> exact absurd h (by decide)
theorem nuN_lt {T : List Nat} {σ : Lx} (h : LOK T σ) (hk : σ.2.2.2 = 2) : nuN T σ < 100 := by
  have h1 := h.2.2.2.2.1 (by rw [hk]; decide)
  have h2 := h.2.2.2.2.2.1 hk
  unfold nuN
  rcases (show σ.2.2.1 - σ.2.1 = 1 ∨ σ.2.2.1 - σ.2.1 = 2 by omega) with e | e
  · have a1 := tkN_2 ((h1.2.2 σ.2.1 (Nat.le_refl _) (by omega)).trans hk)
    rw [e]
    show 10 * 0 + T.getD σ.2.1 0 - 48 < 100
    omega
  · have a1 := tkN_2 ((h1.2.2 σ.2.1 (Nat.le_refl _) (by omega)).trans hk)
    have a2 := tkN_2 ((h1.2.2 (σ.2.1 + 1) (by omega) (by omega)).trans hk)
    rw [e]
    show 10 * (10 * 0 + T.getD σ.2.1 0 - 48) + T.getD (σ.2.1 + 1) 0 - 48 < 100
    omega
/-- the text and the token that it stands at -/
def LT (f : FF) (a : AA) (T : List Nat) (σ : Lx) : Prop := TP (f 3 0) (a 3 0) T ∧ OKT T ∧ LX (f 3 0) σ ∧ LOK T σ
theorem LT.k {f : FF} {a : AA} {T : List Nat} {σ : Lx} (h : LT f a T σ) {n : Nat} (hn : n < 100) {x : Int32} (hx : x = nI n) : f 3 0 5 = x ↔ σ.2.2.2 = n := i_eq h.2.2.1.2.2.2 hx (by have := h.2.2.2.2.2.2.1; omega) (by omega)
theorem LT.ref {f f' : FF} {a : AA} {T : List Nat} {σ : Lx} (h : LT f a T σ) {x : Nat} (hx : x < 10) (hF : F3 f f') (hL : LX (f' 3 0) (refN x σ)) : LT f' a T (refN x σ) := ⟨hF.tp h.1, h.2.1, hL, h.2.2.2.ref hx⟩
theorem LT.stp {f f' : FF} {a : AA} {T : List Nat} {σ : Lx} (h : LT f a T σ) (hF : F3 f f') (hL : LX (f' 3 0) (stepN T σ)) : LT f' a T (stepN T σ) := ⟨hF.tp h.1, h.2.1, hL, h.2.2.2.step⟩
def sX3_isSign : SP := fun As f a Q => match As with
  | [.inr (.inr (3, 0, 0)), .inl x] => ∃ T σ c, x = nI c ∧ c < 128 ∧ LT f a T σ ∧ Q (some (.inl (b2i (sgB T σ c)))) f a
  | _ => False
def eX3_isSign : En := (tX3_isSign, [], fdX3, [], 1)
theorem eokX3_isSign {g : Gm} (hg : GmOK g) : EnvOK g 0 RX3 cX3_isSign (some .boolean) eX3_isSign := ⟨okX3_isSign, (fun _ _ _ _ h => by cases h), fdX3_ok, (fun _ _ h => by cases h), rfl⟩
theorem rX3_isSign (av : List AV) (f : FF) (a : AA) (post : PT) (h : sX3_isSign av f a post) (X : XT) (hX : Clo eX3_isSign post X) : X 0 (padL 2 (ent av)) [] f a := by
  unfold sX3_isSign at h
  split at h
  · obtain ⟨T, σ, c, rfl, hc, hL, h⟩ := h
    have hk := hL.k (n := 3) (by decide) rfl
    have hO := hL.2.2.2
    have hT := hL.2.1.1
    unfold sgB at h
    refine hX [] 60 _ _ _ _ _ ?_
    refine ⟨fun d => ?_, fun d => ?_⟩
    · exact pF h (by rw [decide_eq_false (fun z => d (hk.mpr z)), Bool.false_and])
    · have d := hk.mp d
      have h1 := hO.2.2.2.2.1 (by rw [d]; decide)
      have hs : σ.2.1 < T.length := by have := hO.2.2.1; omega
      have et : a 3 0 0 (f 3 0 3).toNatClampNeg = nI (T.getD σ.2.1 0) := by rw [hL.2.2.1.2.1, nI_clamp (by omega), hL.1.2 _ hs]
      have h128 := hL.2.1.2 _ hs
      have hb : a 3 0 0 (f 3 0 3).toNatClampNeg = nI c ↔ T.getD σ.2.1 0 = c := i_eq et rfl (by omega) (by omega)
      refine ⟨inA 160 hL.2.2.1.2.1 rfl (by omega) (by decide), ⟨fun d2 => ?_, fun d2 => ?_⟩⟩
      · exact pF h (by rw [decide_eq_true d, Bool.true_and, decide_eq_false (fun z => d2 (hb.mpr z))])
      · exact pT h (by rw [decide_eq_true d, Bool.true_and, decide_eq_true (hb.mp d2)])
  · exact h.elim
theorem shX3_isSign : ∀ As f a Q, sX3_isSign As f a Q → ∃ i r, As = .inr (.inr (3, i, 0)) :: r := by
  intro As f a Q h
  unfold sX3_isSign at h
  split at h
  · exact ⟨_, _, rfl⟩
  · exact h.elim
theorem mX3_isSign {g : Gm} (hg : GmOK g) : MetC g yX3_isSign cX3_isSign 2 (some .boolean) 0 sX3_isSign := by
  refine MetC_of hg eX3_isSign (eokX3_isSign hg) (by decide +kernel) (fun av f a post h => ?_) rX3_isSign
  unfold sX3_isSign at h
  split at h
  · exact Nat.le_of_ble_eq_true rfl
  · exact h.elim
def sX3_numberRead : SP := fun As f a Q => match As with
  | [.inr (.inr (3, 0, 0))] => ∃ T σ, LT f a T σ ∧ σ.2.2.2 = 2 ∧ Q (some (.inl (nI (nuN T σ)))) f a
  | _ => False
def eX3_numberRead : En := (tX3_numberRead, [], fdX3, [], 0)
theorem eokX3_numberRead {g : Gm} (hg : GmOK g) : EnvOK g 0 RX3 cX3_numberRead (some .int) eX3_numberRead := ⟨okX3_numberRead, (fun _ _ _ _ h => by cases h), fdX3_ok, (fun _ _ h => by cases h), rfl⟩
theorem nI_mul (a b : Nat) : nI a * nI b = nI (a * b) := (Int32.ofNat_mul a b).symm
theorem rX3_numberRead (av : List AV) (f : FF) (a : AA) (post : PT) (h : sX3_numberRead av f a post) (X : XT) (hX : Clo eX3_numberRead post X) : X 0 (padL 3 (ent av)) [] f a := by
  unfold sX3_numberRead at h
  split at h
  · obtain ⟨T, σ, hL, hk, h⟩ := h
    have hO := hL.2.2.2
    have hT := hL.2.1.1
    have h1 := hO.2.2.2.2.1 (by rw [hk]; decide)
    have he := hO.2.2.1
    have key : ∀ d i x, i + d = σ.2.2.1 → σ.2.1 ≤ i → nuN T σ = nuU T d i x → X 7 [some (.inr (.inr (3, 0, 0))), some (.inl (nI x)), some (.inl (nI i))] [] f a := by
      intro d
      induction d with
      | zero =>
        intro i x hd hi hn
        refine hX [] 60 _ _ _ _ _ ?_
        refine ⟨fun _ => pI h (by rw [hn]; rfl), fun q => absurd ((i_le hL.2.2.1.2.2.1 rfl (by omega) (by omega)).mpr (by omega)) q⟩
      | succ d ih =>
        intro i x hd hi hn
        refine hX [7] 60 _ _ _ _ _ ?_
        refine ⟨fun q => absurd ((i_le hL.2.2.1.2.2.1 rfl (by omega) (by omega)).mp q) (by omega), fun q => ?_⟩
        refine ⟨inA 160 rfl rfl (by omega) (by decide), ?_⟩
        have a1 := tkN_2 ((h1.2.2 i hi (by omega)).trans hk)
        have e1 : 10 * nI x + a 3 0 0 (nI i).toNatClampNeg - 48 = nI (10 * x + T.getD i 0 - 48) := by
          rw [nI_clamp (by omega), hL.1.2 i (by omega), show (10 : Int32) = nI 10 from rfl, nI_mul, nI_add, show (48 : Int32) = nI 48 from rfl, pk_sub (by omega)]
        have K := ih (i + 1) (10 * x + T.getD i 0 - 48) (by omega) (by omega) hn
        rw [← e1, ← nI_1] at K
        exact K
    exact hX [7] 20 _ _ _ _ _ (show X 7 [some (.inr (.inr (3, 0, 0))), some (.inl (nI 0)), some (.inl (f 3 0 3))] [] f a by
      rw [hL.2.2.1.2.1]
      exact key (σ.2.2.1 - σ.2.1) σ.2.1 0 (by omega) (Nat.le_refl _) rfl)
  · exact h.elim
theorem shX3_numberRead : ∀ As f a Q, sX3_numberRead As f a Q → ∃ i r, As = .inr (.inr (3, i, 0)) :: r := by
  intro As f a Q h
  unfold sX3_numberRead at h
  split at h
  · exact ⟨_, _, rfl⟩
  · exact h.elim
theorem mX3_numberRead {g : Gm} (hg : GmOK g) : MetC g yX3_numberRead cX3_numberRead 3 (some .int) 0 sX3_numberRead := by
  refine MetC_of hg eX3_numberRead (eokX3_numberRead hg) (by decide +kernel) (fun av f a post h => ?_) rX3_numberRead
  unfold sX3_numberRead at h
  split at h
  · exact Nat.le_of_ble_eq_true rfl
  · exact h.elim
end
section
/-! what is taken of the text -/
def sX3_isName : SP := fun As f a Q => match As with
  | [.inr (.inr (3, 0, 0)), .inr (.inr (9, i, 0))] => ∃ T σ, i < 4 ∧ LT f a T σ ∧ Q (some (.inl (b2i (nmB T σ i)))) f a
  | _ => False
def eX3_isName : En := (tX3_isName, [(107, false, 1, sJ0_length), (112, false, 2, sJ0_charAt)], fdX3, [], 1)
theorem eokX3_isName {g : Gm} (hg : GmOK g) : EnvOK g 5 RX3 cX3_isName (some .boolean) eX3_isName := ⟨okX3_isName, fun _ _ _ _ h => as2_all (P := fun i v => CallOK g 5 RX3 i v.1 v.2.1 v.2.2) (l := eX3_isName.2.1) ⟨callJ0_length_X3_107 hg (by decide), callJ0_charAt_X3_112 hg (by decide), trivial⟩ h, fdX3_ok, (fun _ _ h => by cases h), rfl⟩
theorem rX3_isName (av : List AV) (f : FF) (a : AA) (post : PT) (h : sX3_isName av f a post) (X : XT) (hX : Clo eX3_isName post X) : X 0 (padL 3 (ent av)) [] f a := by
  unfold sX3_isName at h
  split at h
  · rename_i i
    obtain ⟨T, σ, hi, hL, h⟩ := h
    have hO := hL.2.2.2
    have hT := hL.2.1.1
    have hk := hL.k (n := 1) (by decide) rfl
    have hl5 := strL_ok i hi
    unfold nmB at h
    have h24 : (decide (σ.2.2.2 = 1) && (decide (σ.2.2.1 - σ.2.1 = strL i) && allK (fun j => decide (T.getD (σ.2.1 + j) 0 = strM i j)) (strL i))) = false → X 24 [some (.inr (.inr (3, 0, 0))), some (.inr (.inr (9, i, 0))), none] [] f a := fun z => hX [] 20 _ _ _ _ _ (pF h z)
    refine hX [24, 28] 60 _ _ _ _ _ ?_
    refine ⟨fun d => h24 (by rw [decide_eq_false (fun z => d (hk.mpr z)), Bool.false_and]), fun d => ⟨hi, ?_⟩⟩
    have d := hk.mp d
    have h1 := hO.2.2.2.2.1 (by rw [d]; decide)
    have he := hO.2.2.1
    have hd : f 3 0 4 - f 3 0 3 = nI (strL i) ↔ σ.2.2.1 - σ.2.1 = strL i := i_eq (by rw [hL.2.2.1.2.2.1, hL.2.2.1.2.1, pk_sub (by omega)]) rfl (by omega) (by omega)
    refine ⟨fun d2 => ?_, fun d2 => h24 (by rw [decide_eq_true d, Bool.true_and, decide_eq_false (fun z => d2 (hd.mpr z)), Bool.false_and])⟩
    have d2 := hd.mp d2
    rw [decide_eq_true d, Bool.true_and, decide_eq_true d2, Bool.true_and] at h
    refine forUp (n := strL i) (Pr := fun j => (∀ m, m < j → T.getD (σ.2.1 + m) 0 = strM i m) → X 28 [some (.inr (.inr (3, 0, 0))), some (.inr (.inr (9, i, 0))), some (.inl (nI j))] [] f a) ?_ ?_ 0 (Nat.zero_le _) (fun m hm => absurd hm (Nat.not_lt_zero m))
    · intro j hj ih hp
      refine hX [28] 60 _ _ _ _ _ ?_
      refine ⟨hi, ⟨fun q => absurd ((i_le rfl rfl (by omega) (by omega)).mp q) (by omega), fun q => ?_⟩⟩
      have e3 : f 3 0 3 + nI j = nI (σ.2.1 + j) := by rw [hL.2.2.1.2.1, nI_add]
      have hs : σ.2.1 + j < T.length := by omega
      have et : a 3 0 0 (f 3 0 3 + nI j).toNatClampNeg = nI (T.getD (σ.2.1 + j) 0) := by rw [e3, nI_clamp (by omega), hL.1.2 _ hs]
      have h128 := hL.2.1.2 _ hs
      have hM := strM_ok i hi j hj
      have hb : a 3 0 0 (f 3 0 3 + nI j).toNatClampNeg = strC i j ↔ T.getD (σ.2.1 + j) 0 = strM i j := i_eq et hM.1 (by omega) (by omega)
      refine ⟨inA 160 e3 rfl (by omega) (by decide), j, hi, rfl, hj, ⟨fun q2 => ?_, fun q2 => ?_⟩⟩
      · have K := ih (fun m hm => by
          rcases (show m < j ∨ m = j by omega) with z | rfl
          · exact hp m z
          · exact hb.mp q2)
        rw [← nI_1] at K
        exact K
      · exact pF h (allK_false hj (decide_eq_false (fun z => q2 (hb.mpr z))))
    · intro hp
      refine hX [] 60 _ _ _ _ _ ?_
      refine ⟨hi, ⟨fun q => pT h (allK_true (fun m hm => decide_eq_true (hp m hm))), fun q => absurd (Int32.le_refl (nI (strL i))) q⟩⟩
  · exact h.elim
theorem shX3_isName : ∀ As f a Q, sX3_isName As f a Q → ∃ i r, As = .inr (.inr (3, i, 0)) :: r := by
  intro As f a Q h
  unfold sX3_isName at h
  split at h
  · exact ⟨_, _, rfl⟩
  · exact h.elim
theorem mX3_isName {g : Gm} (hg : GmOK g) : MetC g yX3_isName cX3_isName 3 (some .boolean) 5 sX3_isName := by
  refine MetC_of hg eX3_isName (eokX3_isName hg) (by decide +kernel) (fun av f a post h => ?_) rX3_isName
  unfold sX3_isName at h
  split at h
  · exact Nat.le_of_ble_eq_true rfl
  · exact h.elim
def tlS (T : List Nat) (σ : Lx) : Lx := if sgB T σ 59 then stepN T σ else refN 2 σ
def sX3_takeLineEnd : SP := fun As f a Q => match As with
  | [.inr (.inr (3, 0, 0))] => ∃ T σ, LT f a T σ ∧ ∀ f', F3 f f' → LT f' a T (tlS T σ) → Q none f' a
  | _ => False
def eX3_takeLineEnd : En := (tX3_takeLineEnd, [(88, false, 2, sX3_isSign), (22, false, 1, sX3_step), (43, false, 2, sX3_refuse)], fdX3, [], 2)
theorem eokX3_takeLineEnd {g : Gm} (hg : GmOK g) : EnvOK g 2 RX3 cX3_takeLineEnd none eX3_takeLineEnd := ⟨okX3_takeLineEnd, fun _ _ _ _ h => as2_all (P := fun i v => CallOK g 2 RX3 i v.1 v.2.1 v.2.2) (l := eX3_takeLineEnd.2.1) ⟨callV_ok (t := 3) hg (mX3_isSign hg) kX3_isSign mlX3_88 qX3_isSign.1 qX3_isSign.2 ⟨by decide, by decide⟩ ⟨_, _, rfl⟩ shX3_isSign, callV_ok (t := 3) hg (mX3_step hg) kX3_step mlX3_22 qX3_step.1 qX3_step.2 ⟨by decide, by decide⟩ ⟨_, _, rfl⟩ shX3_step, callV_ok (t := 3) hg (mX3_refuse hg) kX3_refuse mlX3_43 qX3_refuse.1 qX3_refuse.2 ⟨by decide, by decide⟩ ⟨_, _, rfl⟩ shX3_refuse, trivial⟩ h, fdX3_ok, (fun _ _ h => by cases h), rfl⟩
theorem rX3_takeLineEnd (av : List AV) (f : FF) (a : AA) (post : PT) (h : sX3_takeLineEnd av f a post) (X : XT) (hX : Clo eX3_takeLineEnd post X) : X 0 (padL 1 (ent av)) [] f a := by
  unfold sX3_takeLineEnd at h
  split at h
  · obtain ⟨T, σ, hL, h⟩ := h
    unfold tlS at h
    refine hX [] 60 _ _ _ _ _ ?_
    refine ⟨T, σ, 59, rfl, by decide, hL, ⟨fun d => ?_, fun d => ?_⟩⟩
    · have d := b2i_e0.mp d
      simp only [d, Bool.false_eq_true, if_false] at h
      exact ⟨2, σ, rfl, hL.2.2.1, hL.2.2.2.1, fun f1 hF h1 => h f1 hF (hL.ref (by decide) hF h1)⟩
    · have d := b2i_n0.mp d
      simp only [d, if_true] at h
      exact ⟨T, σ, hL.1, hL.2.1, hL.2.2.1, hL.2.2.2.l0, fun f1 hF h1 => h f1 hF (hL.stp hF h1)⟩
  · exact h.elim
theorem shX3_takeLineEnd : ∀ As f a Q, sX3_takeLineEnd As f a Q → ∃ i r, As = .inr (.inr (3, i, 0)) :: r := by
  intro As f a Q h
  unfold sX3_takeLineEnd at h
  split at h
  · exact ⟨_, _, rfl⟩
  · exact h.elim
theorem mX3_takeLineEnd {g : Gm} (hg : GmOK g) : MetC g yX3_takeLineEnd cX3_takeLineEnd 1 none 2 sX3_takeLineEnd := by
  refine MetC_of hg eX3_takeLineEnd (eokX3_takeLineEnd hg) (by decide +kernel) (fun av f a post h => ?_) rX3_takeLineEnd
  unfold sX3_takeLineEnd at h
  split at h
  · exact Nat.le_of_ble_eq_true rfl
  · exact h.elim
def tnB (T : List Nat) (lo hi : Nat) (σ : Lx) : Bool := decide (σ.2.2.2 = 2) && (decide (lo ≤ nuN T σ) && decide (nuN T σ < hi))
def tnV (T : List Nat) (lo hi : Nat) (σ : Lx) : Nat := if tnB T lo hi σ then nuN T σ else lo
def tnS (T : List Nat) (lo hi : Nat) (σ : Lx) : Lx := if tnB T lo hi σ then stepN T σ else refN (if σ.2.2.2 = 2 then 3 else 2) σ
def sX3_takeNumber : SP := fun As f a Q => match As with
  | [.inr (.inr (3, 0, 0)), .inl x, .inl y] => ∃ T σ lo hi, x = nI lo ∧ y = nI hi - 1 ∧ lo < 100 ∧ hi < 100 ∧ LT f a T σ ∧ ∀ f', F3 f f' → LT f' a T (tnS T lo hi σ) → Q (some (.inl (nI (tnV T lo hi σ)))) f' a
  | _ => False
def eX3_takeNumber : En := (tX3_takeNumber, [(43, false, 2, sX3_refuse), (100, false, 1, sX3_numberRead), (22, false, 1, sX3_step)], fdX3, [], 0)
theorem eokX3_takeNumber {g : Gm} (hg : GmOK g) : EnvOK g 2 RX3 cX3_takeNumber (some .int) eX3_takeNumber := ⟨okX3_takeNumber, fun _ _ _ _ h => as2_all (P := fun i v => CallOK g 2 RX3 i v.1 v.2.1 v.2.2) (l := eX3_takeNumber.2.1) ⟨callV_ok (t := 3) hg (mX3_refuse hg) kX3_refuse mlX3_43 qX3_refuse.1 qX3_refuse.2 ⟨by decide, by decide⟩ ⟨_, _, rfl⟩ shX3_refuse, callV_ok (t := 3) hg (mX3_numberRead hg) kX3_numberRead mlX3_100 qX3_numberRead.1 qX3_numberRead.2 ⟨by decide, by decide⟩ ⟨_, _, rfl⟩ shX3_numberRead, callV_ok (t := 3) hg (mX3_step hg) kX3_step mlX3_22 qX3_step.1 qX3_step.2 ⟨by decide, by decide⟩ ⟨_, _, rfl⟩ shX3_step, trivial⟩ h, fdX3_ok, (fun _ _ h => by cases h), rfl⟩
theorem rX3_takeNumber (av : List AV) (f : FF) (a : AA) (post : PT) (h : sX3_takeNumber av f a post) (X : XT) (hX : Clo eX3_takeNumber post X) : X 0 (padL 4 (ent av)) [] f a := by
  unfold sX3_takeNumber at h
  split at h
  · obtain ⟨T, σ, lo, hi, rfl, rfl, hlo, hhi, hL, h⟩ := h
    have hk := hL.k (n := 2) (by decide) rfl
    unfold tnV tnS at h
    refine hX [30] 60 _ _ _ _ _ ?_
    refine ⟨fun d => ?_, fun d => ?_⟩
    · have d := hk.mp d
      have hn := nuN_lt hL.2.2.2 d
      have h30 : ∀ z, tnB T lo hi σ = false → X 30 [some (.inr (.inr (3, 0, 0))), some (.inl (nI lo)), some (.inl (nI hi - 1)), z] [] f a := fun z e => by
        refine hX [] 40 _ _ _ _ _ ?_
        simp only [e, Bool.false_eq_true, if_false, if_pos d] at h
        exact ⟨3, σ, rfl, hL.2.2.1, hL.2.2.2.1, fun f1 hF h1 => h f1 hF (hL.ref (by decide) hF h1)⟩
      have c1 : nI (nuN T σ) < nI lo ↔ nuN T σ < lo := nI_ltI (by omega) (by omega)
      have c2 : nI (nuN T σ) ≤ nI hi - 1 ↔ nuN T σ < hi := by
        rw [← Int32.not_lt, show nI hi - 1 < nI (nuN T σ) ↔ hi < nuN T σ + 1 from sub_lt (n := hi) (by omega) (by omega) 1 (by decide)]
        omega
      have eB : tnB T lo hi σ = (decide (lo ≤ nuN T σ) && decide (nuN T σ < hi)) := by
        unfold tnB
        rw [decide_eq_true d, Bool.true_and]
      refine ⟨T, σ, hL, d, ⟨fun q => ?_, fun q => ⟨fun q2 => ?_, fun q2 => ?_⟩⟩⟩
      · have q := c1.mp q
        exact h30 _ (by rw [eB, decide_eq_false (by omega), Bool.false_and])
      · have q : ¬ nuN T σ < lo := fun z => q (c1.mpr z)
        have q2 := c2.mp q2
        have e : tnB T lo hi σ = true := by rw [eB, decide_eq_true (by omega), decide_eq_true q2]; rfl
        simp only [e, if_true] at h
        exact ⟨T, σ, hL.1, hL.2.1, hL.2.2.1, hL.2.2.2.l0, fun f1 hF h1 => h f1 hF (hL.stp hF h1)⟩
      · exact h30 _ (by rw [eB, decide_eq_false (fun z => q2 (c2.mpr z)), Bool.and_false])
    · have d : ¬ σ.2.2.2 = 2 := fun z => d (hk.mpr z)
      have e : tnB T lo hi σ = false := by
        unfold tnB
        rw [decide_eq_false d, Bool.false_and]
      simp only [e, Bool.false_eq_true, if_false, if_neg d] at h
      exact ⟨2, σ, rfl, hL.2.2.1, hL.2.2.2.1, fun f1 hF h1 => h f1 hF (hL.ref (by decide) hF h1)⟩
  · exact h.elim
theorem shX3_takeNumber : ∀ As f a Q, sX3_takeNumber As f a Q → ∃ i r, As = .inr (.inr (3, i, 0)) :: r := by
  intro As f a Q h
  unfold sX3_takeNumber at h
  split at h
  · exact ⟨_, _, rfl⟩
  · exact h.elim
theorem mX3_takeNumber {g : Gm} (hg : GmOK g) : MetC g yX3_takeNumber cX3_takeNumber 4 (some .int) 2 sX3_takeNumber := by
  refine MetC_of hg eX3_takeNumber (eokX3_takeNumber hg) (by decide +kernel) (fun av f a post h => ?_) rX3_takeNumber
  unfold sX3_takeNumber at h
  split at h
  · exact Nat.le_of_ble_eq_true rfl
  · exact h.elim
def tvV (T : List Nat) (σ : Lx) : Nat := if nmB T σ 2 then 1 else 0
def tvS (T : List Nat) (n : Nat) (σ : Lx) : Lx := if nmB T σ 2 then (if n < 2 then refN 3 σ else stepN T σ) else if nmB T σ 3 then stepN T σ else refN 2 σ
def sX3_takeValue : SP := fun As f a Q => match As with
  | [.inr (.inr (3, 0, 0)), .inl x] => ∃ T σ n, x = nI n ∧ n < 3 ∧ LT f a T σ ∧ ∀ f', F3 f f' → LT f' a T (tvS T n σ) → Q (some (.inl (nI (tvV T σ)))) f' a
  | _ => False
def eX3_takeValue : En := (tX3_takeValue, [(30, false, 2, sX3_isName), (43, false, 2, sX3_refuse), (22, false, 1, sX3_step), (96, true, 1, sX4_bit)], fdX3, [(92, .inr (.inr (9, 2, 0))), (94, .inr (.inr (9, 3, 0)))], 0)
theorem eokX3_takeValue {g : Gm} (hg : GmOK g) : EnvOK g 6 RX3 cX3_takeValue (some .int) eX3_takeValue := ⟨okX3_takeValue, fun _ _ _ _ h => as2_all (P := fun i v => CallOK g 6 RX3 i v.1 v.2.1 v.2.2) (l := eX3_takeValue.2.1) ⟨callV_ok (t := 3) hg (mX3_isName hg) kX3_isName mlX3_30 qX3_isName.1 qX3_isName.2 ⟨by decide, by decide⟩ ⟨_, _, rfl⟩ shX3_isName, callV_ok (t := 3) hg (mX3_refuse hg) kX3_refuse mlX3_43 qX3_refuse.1 qX3_refuse.2 ⟨by decide, by decide⟩ ⟨_, _, rfl⟩ shX3_refuse, callV_ok (t := 3) hg (mX3_step hg) kX3_step mlX3_22 qX3_step.1 qX3_step.2 ⟨by decide, by decide⟩ ⟨_, _, rfl⟩ shX3_step, callN_ok (host := "FallingCalls") hg (mX4_bit hg) kX4_bit (nxX3_96 hg) qX4_bit ⟨by decide, by decide⟩, trivial⟩ h, fdX3_ok, fun _ _ h => as2_all (P := fun i v => CstOK g RX3 i v ∧ vld v) (l := eX3_takeValue.2.2.2.1) ⟨cstX3_92 hg, cstX3_94 hg, trivial⟩ h, rfl⟩
theorem rX3_takeValue (av : List AV) (f : FF) (a : AA) (post : PT) (h : sX3_takeValue av f a post) (X : XT) (hX : Clo eX3_takeValue post X) : X 0 (padL 3 (ent av)) [] f a := by
  unfold sX3_takeValue at h
  split at h
  · obtain ⟨T, σ, n, rfl, hn, hL, h⟩ := h
    have c2 : (2 : Int32) ≤ nI n ↔ 2 ≤ n := i_le (show (2 : Int32) = nI 2 from rfl) rfl (by decide) (by omega)
    unfold tvV tvS at h
    refine hX [49] 60 _ _ _ _ _ ?_
    have h49 : ∀ f1, post (some (.inl (nI (if nmB T σ 2 then 1 else 0)))) f1 a → X 49 [some (.inr (.inr (3, 0, 0))), some (.inl (nI n)), some (.inl (b2i (nmB T σ 2)))] [] f1 a := fun f1 K => by
      refine hX [] 20 _ _ _ _ _ ?_
      refine pI K ?_
      cases nmB T σ 2 <;> rfl
    refine ⟨T, σ, by decide, hL, ⟨fun d => ?_, fun d => ?_⟩⟩
    · have d := b2i_n0.mp d
      refine ⟨fun z => absurd d (by rw [b2i_e0.mp z]; decide), fun _ => ⟨fun q => ?_, fun q => ?_⟩⟩
      · have q := c2.mp q
        refine ⟨T, σ, hL.1, hL.2.1, hL.2.2.1, hL.2.2.2.l0, fun f1 hF h1 => h49 f1 (h f1 hF ?_)⟩
        rw [if_pos d, if_neg (by omega)]
        exact hL.stp hF h1
      · have q : ¬ 2 ≤ n := fun z => q (c2.mpr z)
        refine ⟨3, σ, rfl, hL.2.2.1, hL.2.2.2.1, fun f1 hF h1 => h49 f1 (h f1 hF ?_)⟩
        rw [if_pos d, if_pos (by omega)]
        exact hL.ref (by decide) hF h1
    · have d0 : nmB T σ 2 = false := b2i_e0.mp d
      have dn : ¬ nmB T σ 2 = true := by rw [d0]; decide
      refine ⟨T, σ, by decide, hL, ⟨fun q => ?_, fun q => ?_⟩⟩
      · have q := b2i_n0.mp q
        refine ⟨fun _ => ?_, fun z => absurd (b2i_f d0) z⟩
        refine ⟨T, σ, hL.1, hL.2.1, hL.2.2.1, hL.2.2.2.l0, fun f1 hF h1 => h49 f1 (h f1 hF ?_)⟩
        rw [if_neg dn, if_pos q]
        exact hL.stp hF h1
      · have q : ¬ nmB T σ 3 = true := by rw [b2i_e0.mp q]; decide
        refine ⟨2, σ, rfl, hL.2.2.1, hL.2.2.2.1, fun f1 hF h1 => h49 f1 (h f1 hF ?_)⟩
        rw [if_neg dn, if_neg q]
        exact hL.ref (by decide) hF h1
  · exact h.elim
theorem shX3_takeValue : ∀ As f a Q, sX3_takeValue As f a Q → ∃ i r, As = .inr (.inr (3, i, 0)) :: r := by
  intro As f a Q h
  unfold sX3_takeValue at h
  split at h
  · exact ⟨_, _, rfl⟩
  · exact h.elim
theorem mX3_takeValue {g : Gm} (hg : GmOK g) : MetC g yX3_takeValue cX3_takeValue 3 (some .int) 6 sX3_takeValue := by
  refine MetC_of hg eX3_takeValue (eokX3_takeValue hg) (by decide +kernel) (fun av f a post h => ?_) rX3_takeValue
  unfold sX3_takeValue at h
  split at h
  · exact Nat.le_of_ble_eq_true rfl
  · exact h.elim
theorem tvV_lt (T : List Nat) (σ : Lx) : tvV T σ < 2 := by
  unfold tvV
  split <;> decide
/-- an argument: how it is told, and the token behind it -/
def taN (T : List Nat) (n : Nat) (σ : Lx) : Nat × Lx := if σ.2.2.2 = 2 then (tnV T 0 10 σ, tnS T 0 10 σ) else
  if sgB T (tvS T n σ) 45 then (100 + 10 * tvV T σ + tnV T 0 10 (stepN T (tvS T n σ)), tnS T 0 10 (stepN T (tvS T n σ))) else
  if sgB T (tvS T n σ) 47 then (200 + 10 * tvV T σ + tnV T 1 10 (stepN T (tvS T n σ)), tnS T 1 10 (stepN T (tvS T n σ))) else
  if sgB T (tvS T n σ) 43 then (300 + 10 * tvV T σ + tnV T 0 10 (stepN T (tvS T n σ)), tnS T 0 10 (stepN T (tvS T n σ))) else
  if sgB T (tvS T n σ) 38 then (if tvV T (stepN T (tvS T n σ)) = tvV T σ then 100 + 10 * tvV T σ else 400, tvS T n (stepN T (tvS T n σ))) else
  (100 + 10 * tvV T σ, tvS T n σ)
def sX3_takeArgument : SP := fun As f a Q => match As with
  | [.inr (.inr (3, 0, 0)), .inl x] => ∃ T σ n, x = nI n ∧ n < 3 ∧ LT f a T σ ∧ ∀ f', F3 f f' → LT f' a T (taN T n σ).2 → Q (some (.inl (nI (taN T n σ).1))) f' a
  | _ => False
def eX3_takeArgument : En := (tX3_takeArgument, [(52, false, 3, sX3_takeNumber), (81, true, 3, sX4_argumentOf), (85, false, 2, sX3_takeValue), (88, false, 2, sX3_isSign), (22, false, 1, sX3_step)], fdX3, [], 0)
theorem eokX3_takeArgument {g : Gm} (hg : GmOK g) : EnvOK g 7 RX3 cX3_takeArgument (some .int) eX3_takeArgument := ⟨okX3_takeArgument, fun _ _ _ _ h => as2_all (P := fun i v => CallOK g 7 RX3 i v.1 v.2.1 v.2.2) (l := eX3_takeArgument.2.1) ⟨callV_ok (t := 3) hg (mX3_takeNumber hg) kX3_takeNumber mlX3_52 qX3_takeNumber.1 qX3_takeNumber.2 ⟨by decide, by decide⟩ ⟨_, _, rfl⟩ shX3_takeNumber, callN_ok (host := "FallingCalls") hg (mX4_argumentOf hg) kX4_argumentOf (nxX3_81 hg) qX4_argumentOf ⟨by decide, by decide⟩, callV_ok (t := 3) hg (mX3_takeValue hg) kX3_takeValue mlX3_85 qX3_takeValue.1 qX3_takeValue.2 ⟨by decide, by decide⟩ ⟨_, _, rfl⟩ shX3_takeValue, callV_ok (t := 3) hg (mX3_isSign hg) kX3_isSign mlX3_88 qX3_isSign.1 qX3_isSign.2 ⟨by decide, by decide⟩ ⟨_, _, rfl⟩ shX3_isSign, callV_ok (t := 3) hg (mX3_step hg) kX3_step mlX3_22 qX3_step.1 qX3_step.2 ⟨by decide, by decide⟩ ⟨_, _, rfl⟩ shX3_step, trivial⟩ h, fdX3_ok, (fun _ _ h => by cases h), rfl⟩
theorem arg3 (x y z : Nat) : 100 * nI x + 10 * nI y + nI z = nI (100 * x + 10 * y + z) := by
  rw [show (100 : Int32) = nI 100 from rfl, show (10 : Int32) = nI 10 from rfl, nI_mul, nI_mul, nI_add, nI_add]
theorem rX3_takeArgument (av : List AV) (f : FF) (a : AA) (post : PT) (h : sX3_takeArgument av f a post) (X : XT) (hX : Clo eX3_takeArgument post X) : X 0 (padL 3 (ent av)) [] f a := by
  unfold sX3_takeArgument at h
  split at h
  · obtain ⟨T, σ, n, rfl, hn, hL, h⟩ := h
    have hk := hL.k (n := 2) (by decide) rfl
    unfold taN at h
    refine hX [21] 60 _ _ _ _ _ ?_
    refine ⟨fun d => ?_, fun d => ?_⟩
    · have d : ¬ σ.2.2.2 = 2 := fun z => d (hk.mpr z)
      simp only [if_neg d] at h
      obtain ⟨σ1, e1⟩ : ∃ σ1, σ1 = tvS T n σ := ⟨_, rfl⟩
      obtain ⟨v, ev⟩ : ∃ v, v = tvV T σ := ⟨_, rfl⟩
      have hv2 := tvV_lt T σ
      rw [← ev] at hv2
      simp only [← e1, ← ev] at h
      refine hX [134] 90 _ _ _ _ _ ?_
      refine ⟨T, σ, n, rfl, hn, hL, fun f1 hF hL1 => ?_⟩
      rw [← e1] at hL1
      have num : ∀ (k lo : Nat), lo < 2 → (∀ f', F3 f f' → LT f' a T (tnS T lo 10 (stepN T σ1)) → post (some (.inl (nI (100 * k + 10 * v + tnV T lo 10 (stepN T σ1))))) f' a) →
          ∀ f2, F3 f f2 → LT f2 a T (tnS T lo 10 (stepN T σ1)) → post (some (.inl (100 * nI k + 10 * nI v + nI (tnV T lo 10 (stepN T σ1))))) f2 a := fun k lo _ K f2 hF2 hL2 => pI (K f2 hF2 hL2) (arg3 _ _ _).symm
      refine ⟨T, σ1, 45, rfl, by decide, hL1, ⟨fun q1 => ?_, fun q1 => ?_⟩⟩
      · have q1 := b2i_e0.mp q1
        refine ⟨T, σ1, 47, rfl, by decide, hL1, ⟨fun q2 => ?_, fun q2 => ?_⟩⟩
        · have q2 := b2i_e0.mp q2
          refine ⟨T, σ1, 43, rfl, by decide, hL1, ⟨fun q3 => ?_, fun q3 => ?_⟩⟩
          · have q3 := b2i_e0.mp q3
            refine ⟨T, σ1, 38, rfl, by decide, hL1, ⟨fun q4 => ?_, fun q4 => ?_⟩⟩
            · have q4 := b2i_e0.mp q4
              simp only [q1, q2, q3, q4, Bool.false_eq_true, if_false] at h
              rw [← ev]
              exact hX [] 20 _ _ _ _ _ (pI (h f1 hF hL1) (by rw [show (1 : Int32) = nI 1 from rfl, show (0 : Int32) = nI 0 from rfl, arg3]; rfl))
            · have q4 := b2i_n0.mp q4
              simp only [q1, q2, q3, q4, Bool.false_eq_true, if_false, if_true] at h
              refine ⟨T, σ1, hL1.1, hL1.2.1, hL1.2.2.1, hL1.2.2.2.l0, fun f2 hF2 h2 => ?_⟩
              have hL2 := hL1.stp hF2 h2
              refine ⟨T, stepN T σ1, n, rfl, hn, hL2, fun f3 hF3 hL3 => ?_⟩
              have hw2 := tvV_lt T (stepN T σ1)
              have hE : nI (tvV T (stepN T σ1)) = nI (tvV T σ) ↔ tvV T (stepN T σ1) = tvV T σ := nI_eq (by omega) (by omega)
              have K := h f3 ((hF.tr hF2).tr hF3) hL3
              rw [ev] at K
              refine ⟨fun q5 => ?_, fun q5 => ?_⟩
              · rw [if_pos (hE.mp q5)] at K
                exact hX [] 20 _ _ _ _ _ (pI K (by rw [show (1 : Int32) = nI 1 from rfl, show (0 : Int32) = nI 0 from rfl, arg3]; rfl))
              · rw [if_neg (fun z => q5 (hE.mpr z))] at K
                exact pI K rfl
          · have q3 := b2i_n0.mp q3
            simp only [q1, q2, q3, Bool.false_eq_true, if_false, if_true] at h
            refine ⟨T, σ1, hL1.1, hL1.2.1, hL1.2.2.1, hL1.2.2.2.l0, fun f2 hF2 h2 => ?_⟩
            refine ⟨T, stepN T σ1, 0, 10, rfl, rfl, by decide, by decide, hL1.stp hF2 h2, fun f3 hF3 hL3 => ?_⟩
            rw [← ev]
            exact num 3 0 (by decide) h f3 ((hF.tr hF2).tr hF3) hL3
        · have q2 := b2i_n0.mp q2
          simp only [q1, q2, Bool.false_eq_true, if_false, if_true] at h
          refine ⟨T, σ1, hL1.1, hL1.2.1, hL1.2.2.1, hL1.2.2.2.l0, fun f2 hF2 h2 => ?_⟩
          refine ⟨T, stepN T σ1, 1, 10, rfl, rfl, by decide, by decide, hL1.stp hF2 h2, fun f3 hF3 hL3 => ?_⟩
          rw [← ev]
          exact num 2 1 (by decide) h f3 ((hF.tr hF2).tr hF3) hL3
      · have q1 := b2i_n0.mp q1
        simp only [q1, if_true] at h
        refine ⟨T, σ1, hL1.1, hL1.2.1, hL1.2.2.1, hL1.2.2.2.l0, fun f2 hF2 h2 => ?_⟩
        refine ⟨T, stepN T σ1, 0, 10, rfl, rfl, by decide, by decide, hL1.stp hF2 h2, fun f3 hF3 hL3 => ?_⟩
        rw [← ev]
        exact num 1 0 (by decide) h f3 ((hF.tr hF2).tr hF3) hL3
    · have d := hk.mp d
      simp only [if_pos d] at h
      refine ⟨T, σ, 0, 10, rfl, rfl, by decide, by decide, hL, fun f1 hF hL1 => ?_⟩
      exact pI (h f1 hF hL1) (by rw [show (0 : Int32) = nI 0 from rfl, arg3]; congr 1; omega)
  · exact h.elim
theorem shX3_takeArgument : ∀ As f a Q, sX3_takeArgument As f a Q → ∃ i r, As = .inr (.inr (3, i, 0)) :: r := by
  intro As f a Q h
  unfold sX3_takeArgument at h
  split at h
  · exact ⟨_, _, rfl⟩
  · exact h.elim
theorem mX3_takeArgument {g : Gm} (hg : GmOK g) : MetC g yX3_takeArgument cX3_takeArgument 3 (some .int) 7 sX3_takeArgument := by
  refine MetC_of hg eX3_takeArgument (eokX3_takeArgument hg) (by decide +kernel) (fun av f a post h => ?_) rX3_takeArgument
  unfold sX3_takeArgument at h
  split at h
  · exact Nat.le_of_ble_eq_true rfl
  · exact h.elim
end
section
/-! lines of the text -/
theorem ar_opn {P : Pg} {n i : Nat} (hi : i < P.1.length) : ar (P.1 ++ [n], P.2) i = ar P i := by
  show (P.1 ++ [n]).getD i 0 = P.1.getD i 0
  rw [List.getD_eq_getElem?_getD, List.getD_eq_getElem?_getD, List.getElem?_append_left hi]
theorem ar_opn2 {P : Pg} {n : Nat} : ar (P.1 ++ [n], P.2) P.1.length = n := by
  show (P.1 ++ [n]).getD P.1.length 0 = n
  rw [List.getD_eq_getElem?_getD, List.getElem?_append_right (Nat.le_refl _), Nat.sub_self]
  rfl
theorem WF.opn {P : Pg} {n : Nat} (h : WF P) (hl : P.1.length < 3) (hn : n = 1 ∨ n = 2) : WF (P.1 ++ [n], P.2) := by
  have el : (P.1 ++ [n], P.2).1.length = P.1.length + 1 := by show (P.1 ++ [n]).length = _; rw [List.length_append]; rfl
  refine ⟨by rw [el]; omega, h.2.1, fun i hi => ?_, fun c hc => ?_⟩
  · rw [el] at hi
    rcases (show i < P.1.length ∨ i = P.1.length by omega) with z | z
    · rw [ar_opn z]
      exact h.2.2.1 i z
    · rw [z, ar_opn2]
      exact hn
  · have := h.2.2.2 c hc
    show okC _ (cl P c)
    unfold okC at this ⊢
    rw [el, ar_opn this.1, ar_opn this.2.1]
    exact ⟨by omega, by omega, this.2.2⟩
theorem cl_app {P : Pg} {q : Nat × Nat × Nat × Nat} {c : Nat} : cl (P.1, P.2 ++ [q]) c = if c < P.2.length then cl P c else if c = P.2.length then q else (0, 0, 0, 0) := by
  show (P.2 ++ [q]).getD c (0, 0, 0, 0) = _
  rw [List.getD_eq_getElem?_getD]
  by_cases h : c < P.2.length
  · rw [if_pos h, List.getElem?_append_left h, ← List.getD_eq_getElem?_getD]
    rfl
  · rw [if_neg h, List.getElem?_append_right (by omega)]
    by_cases h2 : c = P.2.length
    · rw [if_pos h2, h2, Nat.sub_self]
      rfl
    · rw [if_neg h2, List.getElem?_eq_none (by show [q].length ≤ _; simp; omega)]
      rfl
theorem WF.app {P : Pg} {q : Nat × Nat × Nat × Nat} (h : WF P) (hl : P.2.length < 12) (hq : okC P q) : WF (P.1, P.2 ++ [q]) := by
  have el : (P.1, P.2 ++ [q]).2.length = P.2.length + 1 := by show (P.2 ++ [q]).length = _; rw [List.length_append]; rfl
  refine ⟨h.1, by rw [el]; omega, h.2.2.1, fun c hc => ?_⟩
  rw [el] at hc
  rw [cl_app]
  by_cases h1 : c < P.2.length
  · rw [if_pos h1]
    exact h.2.2.2 c h1
  · rw [if_neg h1, if_pos (by omega)]
    exact hq
theorem set_app {P : Pg} {x y u : Nat} : setA (P.1, P.2 ++ [(x, y, 0, 0)]) P.2.length 0 u = (P.1, P.2 ++ [(x, y, u, 0)]) := by
  unfold setA
  rw [cl_app, if_neg (Nat.lt_irrefl _), if_pos rfl, if_pos rfl]
  show (P.1, (P.2 ++ [(x, y, 0, 0)]).set P.2.length _) = _
  rw [List.set_append_right _ _ (Nat.le_refl _), Nat.sub_self]
  rfl
theorem set_app2 {P : Pg} {x y u w : Nat} : setA (P.1, P.2 ++ [(x, y, u, 0)]) P.2.length 1 w = (P.1, P.2 ++ [(x, y, u, w)]) := by
  unfold setA
  rw [cl_app, if_neg (Nat.lt_irrefl _), if_pos rfl, if_neg (by decide)]
  show (P.1, (P.2 ++ [(x, y, u, 0)]).set P.2.length _) = _
  rw [List.set_append_right _ _ (Nat.le_refl _), Nat.sub_self]
  rfl
/-! behind a fault nothing is read -/
theorem LOK.k0 {T : List Nat} {σ : Lx} (h : LOK T σ) (hf : σ.1 ≠ 0) : σ.2.2.2 = 0 := by
  by_cases z : σ.2.2.2 = 0
  · exact z
  · exact absurd (h.2.2.2.2.1 z).1 hf
theorem ref_id {T : List Nat} {σ : Lx} (h : LOK T σ) (hf : σ.1 ≠ 0) (x : Nat) : refN x σ = σ := by
  have := h.k0 hf
  unfold refN
  rw [if_neg hf, ← this]
theorem ref_f {x : Nat} (hx : x ≠ 0) (σ : Lx) : (refN x σ).1 ≠ 0 := by
  unfold refN
  dsimp only
  split
  · exact hx
  · assumption
theorem step_id {T : List Nat} {σ : Lx} (hf : σ.1 ≠ 0) : stepN T σ = σ := by
  unfold stepN
  rw [if_pos hf]
theorem sg_f {T : List Nat} {σ : Lx} (h : LOK T σ) (hf : σ.1 ≠ 0) (c : Nat) : sgB T σ c = false := by
  unfold sgB
  rw [h.k0 hf]
  rfl
theorem nm_f {T : List Nat} {σ : Lx} (h : LOK T σ) (hf : σ.1 ≠ 0) (c : Nat) : nmB T σ c = false := by
  unfold nmB
  rw [h.k0 hf]
  rfl
theorem tn_f {T : List Nat} {σ : Lx} (h : LOK T σ) (hf : σ.1 ≠ 0) (lo hi : Nat) : tnB T lo hi σ = false := by
  unfold tnB
  rw [h.k0 hf]
  rfl
theorem tnS_id {T : List Nat} {σ : Lx} (h : LOK T σ) (hf : σ.1 ≠ 0) (lo hi : Nat) : tnS T lo hi σ = σ := by
  unfold tnS
  rw [tn_f h hf]
  exact ref_id h hf _
theorem tvS_id {T : List Nat} {σ : Lx} (h : LOK T σ) (hf : σ.1 ≠ 0) (n : Nat) : tvS T n σ = σ := by
  unfold tvS
  rw [nm_f h hf, nm_f h hf]
  exact ref_id h hf _
theorem tlS_id {T : List Nat} {σ : Lx} (h : LOK T σ) (hf : σ.1 ≠ 0) : tlS T σ = σ := by
  unfold tlS
  rw [sg_f h hf]
  exact ref_id h hf _
theorem taN_id {T : List Nat} {σ : Lx} (h : LOK T σ) (hf : σ.1 ≠ 0) (n : Nat) : (taN T n σ).2 = σ := by
  unfold taN
  rw [if_neg (by rw [h.k0 hf]; decide), tvS_id h hf, sg_f h hf, sg_f h hf, sg_f h hf, sg_f h hf]
  rfl
theorem tnS_0 {T : List Nat} {σ : Lx} {lo hi : Nat} (h : (tnS T lo hi σ).1 = 0) : tnB T lo hi σ = true := by
  cases e : tnB T lo hi σ with
  | true => rfl
  | false =>
    unfold tnS at h
    rw [e] at h
    exact absurd h (ref_f (by split <;> decide) σ)
theorem tnV_in {T : List Nat} {σ : Lx} {lo hi : Nat} (h : (tnS T lo hi σ).1 = 0) : lo ≤ tnV T lo hi σ ∧ tnV T lo hi σ < hi := by
  have e := tnS_0 h
  unfold tnV
  rw [if_pos e]
  unfold tnB at e
  have e2 := (Bool.and_eq_true _ _ ▸ e : _ ∧ _).2
  exact ⟨of_decide_eq_true (Bool.and_eq_true _ _ ▸ e2 : _ ∧ _).1, of_decide_eq_true (Bool.and_eq_true _ _ ▸ e2 : _ ∧ _).2⟩
theorem tnV_le {T : List Nat} {σ : Lx} {lo hi : Nat} : tnV T lo hi σ = lo ∨ (lo ≤ tnV T lo hi σ ∧ tnV T lo hi σ < hi) := by
  cases e : tnB T lo hi σ with
  | true =>
    refine Or.inr ?_
    unfold tnV
    rw [if_pos e]
    unfold tnB at e
    have e2 := (Bool.and_eq_true _ _ ▸ e : _ ∧ _).2
    exact ⟨of_decide_eq_true (Bool.and_eq_true _ _ ▸ e2 : _ ∧ _).1, of_decide_eq_true (Bool.and_eq_true _ _ ▸ e2 : _ ∧ _).2⟩
  | false =>
    refine Or.inl ?_
    unfold tnV
    rw [e]
    rfl
theorem stk {T : List Nat} {σ τ : Lx} (h : σ.1 ≠ 0 → τ = σ) (h0 : τ.1 = 0) : σ.1 = 0 := by
  by_cases z : σ.1 = 0
  · exact z
  · rw [h z] at h0
    exact h0
theorem tvS_0 {T : List Nat} {σ : Lx} {n : Nat} (h : (tvS T n σ).1 = 0) : tvV T σ = 0 ∨ (tvV T σ = 1 ∧ 2 ≤ n) := by
  unfold tvS at h
  unfold tvV
  by_cases e : nmB T σ 2 = true
  · rw [if_pos e] at h ⊢
    refine Or.inr ⟨rfl, ?_⟩
    by_cases hn : n < 2
    · rw [if_pos hn] at h
      exact absurd h (ref_f (by decide) σ)
    · omega
  · rw [if_neg e]
    exact Or.inl rfl
theorem LOK.tv {T : List Nat} {σ : Lx} (h : LOK T σ) (n : Nat) : LOK T (tvS T n σ) := by
  unfold tvS
  split
  · split
    · exact h.ref (by decide)
    · exact h.step
  · split
    · exact h.step
    · exact h.ref (by decide)
theorem LOK.tn {T : List Nat} {σ : Lx} (h : LOK T σ) (lo hi : Nat) : LOK T (tnS T lo hi σ) := by
  unfold tnS
  split
  · exact h.step
  · exact h.ref (by split <;> decide)
theorem LOK.tl {T : List Nat} {σ : Lx} (h : LOK T σ) : LOK T (tlS T σ) := by
  unfold tlS
  split
  · exact h.step
  · exact h.ref (by decide)
theorem LOK.ta {T : List Nat} {σ : Lx} (h : LOK T σ) (n : Nat) : LOK T (taN T n σ).2 := by
  unfold taN
  repeat' split
  · exact h.tn _ _
  · exact (h.tv n).step.tn _ _
  · exact (h.tv n).step.tn _ _
  · exact (h.tv n).step.tn _ _
  · exact (h.tv n).step.tv _
  · exact (h.tv n).step.tv _
  · exact h.tv n
theorem ok0 : ∀ n, n < 3 → ∀ z, z < 10 → okA n z = true := by decide
theorem ok1 : ∀ n, n < 3 → ∀ v, v < n → ∀ z, z < 10 → okA n (100 + 10 * v + z) = true := by decide
theorem ok2 : ∀ n, n < 3 → ∀ v, v < n → ∀ z, z < 10 → 1 ≤ z → okA n (200 + 10 * v + z) = true := by decide
theorem ok3 : ∀ n, n < 3 → ∀ v, v < n → ∀ z, z < 10 → okA n (300 + 10 * v + z) = true := by decide
theorem taN_ok {T : List Nat} {σ : Lx} {n : Nat} (hL : LOK T σ) (hn : n = 1 ∨ n = 2) (h : (taN T n σ).2.1 = 0) : okA n (taN T n σ).1 = true := by
  have hv := tvV_lt T σ
  have hn3 : n < 3 := by omega
  have s1 : (tvS T n σ).1 = 0 → tvV T σ < n := fun z => by have := tvS_0 z; omega
  have s2 : (stepN T (tvS T n σ)).1 = 0 → (tvS T n σ).1 = 0 := stk (T := T) (fun z => step_id z)
  have s3 : ∀ lo, (tnS T lo 10 (stepN T (tvS T n σ))).1 = 0 → tvV T σ < n := fun lo z => s1 (s2 (stk (T := T) (fun y => tnS_id (hL.tv n).step y lo 10) z))
  unfold taN at h ⊢
  by_cases h2 : σ.2.2.2 = 2
  · rw [if_pos h2] at h ⊢
    exact ok0 n hn3 _ (tnV_in h).2
  · rw [if_neg h2] at h ⊢
    by_cases c1 : sgB T (tvS T n σ) 45 = true
    · rw [if_pos c1] at h ⊢
      exact ok1 n hn3 _ (s3 _ h) _ (tnV_in h).2
    · rw [if_neg c1] at h ⊢
      by_cases c2 : sgB T (tvS T n σ) 47 = true
      · rw [if_pos c2] at h ⊢
        exact ok2 n hn3 _ (s3 _ h) _ (tnV_in h).2 (tnV_in h).1
      · rw [if_neg c2] at h ⊢
        by_cases c3 : sgB T (tvS T n σ) 43 = true
        · rw [if_pos c3] at h ⊢
          exact ok3 n hn3 _ (s3 _ h) _ (tnV_in h).2
        · rw [if_neg c3] at h ⊢
          by_cases c4 : sgB T (tvS T n σ) 38 = true
          · rw [if_pos c4] at h ⊢
            have h : (tvS T n (stepN T (tvS T n σ))).1 = 0 := h
            have w0 := tvS_0 h
            have w1 := s1 (s2 (stk (T := T) (fun y => tvS_id (hL.tv n).step y n) h))
            dsimp only
            by_cases c5 : tvV T (stepN T (tvS T n σ)) = tvV T σ
            · rw [if_pos c5]
              exact ok1 n hn3 _ w1 0 (by decide)
            · rw [if_neg c5]
              have e2 : n = 2 := by omega
              rw [e2]
              rfl
          · rw [if_neg c4] at h ⊢
            exact ok1 n hn3 _ (s1 h) 0 (by decide)
/-! a line -/
def tfN (T : List Nat) (σ : Lx) (P : Pg) : Lx × Pg := if 3 ≤ P.1.length then (refN 5 σ, P) else (tlS T (tnS T 1 3 (stepN T σ)), (P.1 ++ [tnV T 1 3 (stepN T σ)], P.2))
def tcN (T : List Nat) (σ : Lx) (P : Pg) : Lx × Pg := if 12 ≤ P.2.length then (refN 5 σ, P) else
  if (tnS T 0 P.1.length (tnS T 0 P.1.length (stepN T σ))).1 ≠ 0 then (tnS T 0 P.1.length (tnS T 0 P.1.length (stepN T σ)), P) else
  let x := tnV T 0 P.1.length (stepN T σ)
  let y := tnV T 0 P.1.length (tnS T 0 P.1.length (stepN T σ))
  let r := taN T (ar P x) (tnS T 0 P.1.length (tnS T 0 P.1.length (stepN T σ)))
  let w := if ar P y = 2 then taN T (ar P x) r.2 else (0, r.2)
  (tlS T w.2, (P.1, P.2 ++ [(x, y, r.1, w.1)]))
def lnN (T : List Nat) (σ : Lx) (P : Pg) : Lx × Pg := if nmB T σ 0 then tfN T σ P else if nmB T σ 1 then tcN T σ P else (refN 2 σ, P)
/-- the draft: behind a fault only its bounds are known -/
def DR (f : FF) (a : AA) (P : Pg) (σ : Lx) : Prop := AB (a 1 1) ∧ (∃ m n, f 1 1 4 = nI m ∧ m ≤ 3 ∧ f 1 1 5 = nI n ∧ n ≤ 12) ∧ (σ.1 = 0 → RC (f 1 1) (a 1 1) P ∧ WF P)
def FD (f : FF) (a : AA) (f' : FF) (a' : AA) : Prop := (∀ t i k, ¬ (t = 1 ∧ i = 1) → ¬ (t = 3 ∧ i = 0 ∧ 2 ≤ k) → f' t i k = f t i k) ∧ ∀ t i, ¬ (t = 1 ∧ i = 1) → a' t i = a t i
theorem FD.rf (f : FF) (a : AA) : FD f a f a := ⟨fun _ _ _ _ _ => rfl, fun _ _ _ => rfl⟩
theorem FD.tr {f f' f'' : FF} {a a' a'' : AA} (h : FD f a f' a') (h' : FD f' a' f'' a'') : FD f a f'' a'' := ⟨fun t i k p q => (h'.1 t i k p q).trans (h.1 t i k p q), fun t i p => (h'.2 t i p).trans (h.2 t i p)⟩
theorem FD.f3 {f f' f'' : FF} {a a' : AA} (h : FD f a f' a') (h' : F3 f' f'') : FD f a f'' a' := ⟨fun t i k p q => (h' t i k q).trans (h.1 t i k p q), h.2⟩
theorem FD.uf {f f' : FF} {a a' : AA} (h : FD f a f' a') (k : Nat) (x : Int32) : FD f a (upf f' 1 1 k x) a' := ⟨fun t i j p q => by rw [upf_o _ _ p]; exact h.1 t i j p q, h.2⟩
theorem FD.ua {f f' : FF} {a a' : AA} (h : FD f a f' a') (k n : Nat) (x : Int32) : FD f a f' (upa a' 1 1 k n x) := ⟨h.1, fun t i p => by rw [upa_o _ _ p]; exact h.2 t i p⟩
theorem LT.of {f f' : FF} {a a' : AA} {T : List Nat} {σ : Lx} (h : LT f a T σ) (e1 : f' 3 0 = f 3 0) (e2 : a' 3 0 = a 3 0) : LT f' a' T σ := by
  unfold LT
  rw [e1, e2]
  exact h
theorem DR.f3 {f f' : FF} {a : AA} {P : Pg} {σ τ : Lx} (h : DR f a P σ) (hF : F3 f f') (hs : τ.1 = 0 → σ.1 = 0) : DR f' a P τ := by
  unfold DR
  rw [hF.o (by decide)]
  exact ⟨h.1, h.2.1, fun z => h.2.2 (hs z)⟩
def sX3_tellFunction : SP := fun As f a Q => match As with
  | [.inr (.inr (3, 0, 0)), .inr (.inr (1, 1, 0))] => ∃ T σ P, LT f a T σ ∧ σ.1 = 0 ∧ DR f a P σ ∧ ∀ f' a', FD f a f' a' → LT f' a' T (tfN T σ P).1 → DR f' a' (tfN T σ P).2 (tfN T σ P).1 → Q none f' a'
  | _ => False
def eX3_tellFunction : En := (tX3_tellFunction, [(43, false, 2, sX3_refuse), (22, false, 1, sX3_step), (52, false, 3, sX3_takeNumber), (56, false, 1, sX3_takeLineEnd), (59, false, 2, sX1_appendFunction)], fdX3, [], 2)
theorem eokX3_tellFunction {g : Gm} (hg : GmOK g) : EnvOK g 3 RX3 cX3_tellFunction none eX3_tellFunction := ⟨okX3_tellFunction, fun _ _ _ _ h => as2_all (P := fun i v => CallOK g 3 RX3 i v.1 v.2.1 v.2.2) (l := eX3_tellFunction.2.1) ⟨callV_ok (t := 3) hg (mX3_refuse hg) kX3_refuse mlX3_43 qX3_refuse.1 qX3_refuse.2 ⟨by decide, by decide⟩ ⟨_, _, rfl⟩ shX3_refuse, callV_ok (t := 3) hg (mX3_step hg) kX3_step mlX3_22 qX3_step.1 qX3_step.2 ⟨by decide, by decide⟩ ⟨_, _, rfl⟩ shX3_step, callV_ok (t := 3) hg (mX3_takeNumber hg) kX3_takeNumber mlX3_52 qX3_takeNumber.1 qX3_takeNumber.2 ⟨by decide, by decide⟩ ⟨_, _, rfl⟩ shX3_takeNumber, callV_ok (t := 3) hg (mX3_takeLineEnd hg) kX3_takeLineEnd mlX3_56 qX3_takeLineEnd.1 qX3_takeLineEnd.2 ⟨by decide, by decide⟩ ⟨_, _, rfl⟩ shX3_takeLineEnd, callV_ok (t := 1) hg (mX1_appendFunction hg) kX1_appendFunction mlX3_59 qX1_appendFunction.1 qX1_appendFunction.2 ⟨by decide, by decide⟩ ⟨_, _, rfl⟩ shX1_appendFunction, trivial⟩ h, fdX3_ok, (fun _ _ h => by cases h), rfl⟩
theorem rX3_tellFunction (av : List AV) (f : FF) (a : AA) (post : PT) (h : sX3_tellFunction av f a post) (X : XT) (hX : Clo eX3_tellFunction post X) : X 0 (padL 3 (ent av)) [] f a := by
  unfold sX3_tellFunction at h
  split at h
  · obtain ⟨T, σ, P, hL, h0, hD, h⟩ := h
    obtain ⟨hR, hW⟩ := hD.2.2 h0
    have hl3 := hW.1
    have c1 : f 1 1 4 < 3 ↔ P.1.length < 3 := i_lt hR.1 (show (3 : Int32) = nI 3 from rfl) (by omega) (by decide)
    unfold tfN at h
    refine hX [] 60 _ _ _ _ _ ?_
    refine ⟨fun d => ?_, fun d => ?_⟩
    · have d := c1.mp d
      simp only [if_neg (Nat.not_le.mpr d)] at h
      refine ⟨T, σ, hL.1, hL.2.1, hL.2.2.1, hL.2.2.2.l0, fun f1 hF1 h1 => ?_⟩
      have hL1 := hL.stp hF1 h1
      obtain ⟨σ1, e1⟩ : ∃ σ1, σ1 = stepN T σ := ⟨_, rfl⟩
      rw [← e1] at hL1 h
      refine ⟨T, σ1, 1, 3, rfl, rfl, by decide, by decide, hL1, fun f2 hF2 hL2 => ?_⟩
      refine ⟨T, _, hL2, fun f3 hF3 hL3 => ?_⟩
      have hF := (hF1.tr hF2).tr hF3
      have e11 : f3 1 1 = f 1 1 := hF.o (by decide)
      refine ⟨P.1.length, by rw [e11]; exact hR.1, d, ?_⟩
      have hv : tnV T 1 3 σ1 = 1 ∨ tnV T 1 3 σ1 = 2 := by
        have := @tnV_le T σ1 1 3
        omega
      have hR3 : RC (f3 1 1) (a 1 1) P := by rw [e11]; exact hR
      have K := hR3.opn (tnV T 1 3 σ1)
      refine h _ _ (((FD.rf f a).f3 hF).uf 4 _ |>.ua 0 _ _) (hL3.of (upf_o _ _ (by decide)) (upa_o _ _ (by decide))) ⟨?_, ⟨P.1.length + 1, P.2.length, by rw [upf_s, if_pos rfl], by omega, ?_, hW.2.1⟩, fun _ => ⟨K, hW.opn d hv⟩⟩
      · intro i hi
        rw [upa_s, if_pos rfl, upd_s]
        by_cases z : i = P.1.length
        · rw [if_pos z]
          exact ⟨_, by omega, rfl⟩
        · rw [if_neg z]
          exact hD.1 i hi
      · exact K.2.1
    · have d : ¬ P.1.length < 3 := fun z => d (c1.mpr z)
      simp only [if_pos (Nat.not_lt.mp d)] at h
      refine ⟨5, σ, rfl, hL.2.2.1, hL.2.2.2.1, fun f1 hF h1 => ?_⟩
      exact h f1 a ((FD.rf f a).f3 hF) (hL.ref (by decide) hF h1) (hD.f3 hF (fun _ => h0))
  · exact h.elim
theorem shX3_tellFunction : ∀ As f a Q, sX3_tellFunction As f a Q → ∃ i r, As = .inr (.inr (3, i, 0)) :: r := by
  intro As f a Q h
  unfold sX3_tellFunction at h
  split at h
  · exact ⟨_, _, rfl⟩
  · exact h.elim
theorem mX3_tellFunction {g : Gm} (hg : GmOK g) : MetC g yX3_tellFunction cX3_tellFunction 3 none 3 sX3_tellFunction := by
  refine MetC_of hg eX3_tellFunction (eokX3_tellFunction hg) (by decide +kernel) (fun av f a post h => ?_) rX3_tellFunction
  unfold sX3_tellFunction at h
  split at h
  · exact Nat.le_of_ble_eq_true rfl
  · exact h.elim
end
section
/-! a call's line, the text -/
def sX3_tellCall : SP := fun As f a Q => match As with
  | [.inr (.inr (3, 0, 0)), .inr (.inr (1, 1, 0))] => ∃ T σ P, LT f a T σ ∧ σ.1 = 0 ∧ DR f a P σ ∧ ∀ f' a', FD f a f' a' → LT f' a' T (tcN T σ P).1 → DR f' a' (tcN T σ P).2 (tcN T σ P).1 → Q none f' a'
  | _ => False
def eX3_tellCall : En := (tX3_tellCall, [(43, false, 2, sX3_refuse), (22, false, 1, sX3_step), (52, false, 3, sX3_takeNumber), (65, false, 3, sX1_appendCall), (73, false, 2, sX3_takeArgument), (77, false, 4, sX1_putArgument), (56, false, 1, sX3_takeLineEnd)], fdX3, [], 2)
theorem eokX3_tellCall {g : Gm} (hg : GmOK g) : EnvOK g 8 RX3 cX3_tellCall none eX3_tellCall := ⟨okX3_tellCall, fun _ _ _ _ h => as2_all (P := fun i v => CallOK g 8 RX3 i v.1 v.2.1 v.2.2) (l := eX3_tellCall.2.1) ⟨callV_ok (t := 3) hg (mX3_refuse hg) kX3_refuse mlX3_43 qX3_refuse.1 qX3_refuse.2 ⟨by decide, by decide⟩ ⟨_, _, rfl⟩ shX3_refuse, callV_ok (t := 3) hg (mX3_step hg) kX3_step mlX3_22 qX3_step.1 qX3_step.2 ⟨by decide, by decide⟩ ⟨_, _, rfl⟩ shX3_step, callV_ok (t := 3) hg (mX3_takeNumber hg) kX3_takeNumber mlX3_52 qX3_takeNumber.1 qX3_takeNumber.2 ⟨by decide, by decide⟩ ⟨_, _, rfl⟩ shX3_takeNumber, callV_ok (t := 1) hg (mX1_appendCall hg) kX1_appendCall mlX3_65 qX1_appendCall.1 qX1_appendCall.2 ⟨by decide, by decide⟩ ⟨_, _, rfl⟩ shX1_appendCall, callV_ok (t := 3) hg (mX3_takeArgument hg) kX3_takeArgument mlX3_73 qX3_takeArgument.1 qX3_takeArgument.2 ⟨by decide, by decide⟩ ⟨_, _, rfl⟩ shX3_takeArgument, callV_ok (t := 1) hg (mX1_putArgument hg) kX1_putArgument mlX3_77 qX1_putArgument.1 qX1_putArgument.2 ⟨by decide, by decide⟩ ⟨_, _, rfl⟩ shX1_putArgument, callV_ok (t := 3) hg (mX3_takeLineEnd hg) kX3_takeLineEnd mlX3_56 qX3_takeLineEnd.1 qX3_takeLineEnd.2 ⟨by decide, by decide⟩ ⟨_, _, rfl⟩ shX3_takeLineEnd, trivial⟩ h, fdX3_ok, (fun _ _ h => by cases h), rfl⟩
theorem AB.u3 {a : AA} (h : AB (a 1 1)) (n : Nat) (x : Int32) : AB (upa a 1 1 3 n x 1 1) := by
  intro i hi
  rw [upa_s, if_neg (by decide)]
  exact h i hi
theorem AB.ap {a : AA} (h : AB (a 1 1)) (n : Nat) (x y : Int32) : AB (apC a 1 n x y 1 1) := by
  intro i hi
  unfold apC
  rw [upa_s, if_neg (by decide), upa_s, if_neg (by decide), upa_s, if_neg (by decide), upa_s, if_neg (by decide)]
  exact h i hi
theorem FD.ap {f f' : FF} {a a' : AA} (h : FD f a f' a') (n : Nat) (x y : Int32) : FD f a f' (apC a' 1 n x y) := (((h.ua 1 n x).ua 2 n y).ua 3 _ 0).ua 3 _ 0
theorem FD.at3 {f f' : FF} {a a' : AA} (h : FD f a f' a') : a' 3 0 = a 3 0 := h.2 3 0 (by decide)
theorem rX3_tellCall (av : List AV) (f : FF) (a : AA) (post : PT) (h : sX3_tellCall av f a post) (X : XT) (hX : Clo eX3_tellCall post X) : X 0 (padL 6 (ent av)) [] f a := by
  unfold sX3_tellCall at h
  split at h
  · obtain ⟨T, σ, P, hL, h0, hD, h⟩ := h
    obtain ⟨hR, hW⟩ := hD.2.2 h0
    have hl3 := hW.1
    have hl12 := hW.2.1
    have c1 : f 1 1 5 < 12 ↔ P.2.length < 12 := i_lt hR.2.1 (show (12 : Int32) = nI 12 from rfl) (by omega) (by decide)
    refine hX [58] 90 _ _ _ _ _ ?_
    refine ⟨fun d => ?_, fun d => ?_⟩
    · have d := c1.mp d
      refine ⟨T, σ, hL.1, hL.2.1, hL.2.2.1, hL.2.2.2.l0, fun f1 hF1 h1 => ?_⟩
      have hL1 := hL.stp hF1 h1
      have e4 : ∀ f', F3 f f' → f' 1 1 = f 1 1 := fun f' hF => hF.o (by decide)
      refine ⟨T, stepN T σ, 0, P.1.length, rfl, ?_, by decide, by omega, hL1, fun f2 hF2 hL2 => ?_⟩
      · show f1 1 1 4 - 1 = _
        rw [e4 f1 hF1, hR.1]
      refine ⟨T, _, 0, P.1.length, rfl, ?_, by decide, by omega, hL2, fun f3 hF3 hL3 => ?_⟩
      · show f2 1 1 4 - 1 = _
        rw [e4 f2 (hF1.tr hF2), hR.1]
      have hF := (hF1.tr hF2).tr hF3
      have e11 := e4 f3 hF
      obtain ⟨x, ex⟩ : ∃ x, x = tnV T 0 P.1.length (stepN T σ) := ⟨_, rfl⟩
      obtain ⟨y, ey⟩ : ∃ y, y = tnV T 0 P.1.length (tnS T 0 P.1.length (stepN T σ)) := ⟨_, rfl⟩
      obtain ⟨τ, eτ⟩ : ∃ τ, τ = tnS T 0 P.1.length (tnS T 0 P.1.length (stepN T σ)) := ⟨_, rfl⟩
      have hx3 : x < 3 := by
        have := @tnV_le T (stepN T σ) 0 P.1.length
        omega
      have hy3 : y < 3 := by
        have := @tnV_le T (tnS T 0 P.1.length (stepN T σ)) 0 P.1.length
        omega
      have hx0 : τ.1 = 0 → x < P.1.length := fun z => by
        rw [ex]
        rw [eτ] at z
        exact (tnV_in (stk (T := T) (fun q => tnS_id (hL1.2.2.2.tn _ _) q _ _) z)).2
      have hy0 : τ.1 = 0 → y < P.1.length := fun z => by
        rw [ey]
        rw [eτ] at z
        exact (tnV_in z).2
      unfold tcN at h
      simp only [if_neg (Nat.not_le.mpr d), ← ex, ← ey, ← eτ] at h
      rw [← eτ] at hL3
      rw [← ex, ← ey]
      obtain ⟨my, hmy, emy⟩ := hD.1 y hy3
      obtain ⟨mx, hmx, emx⟩ := hD.1 x hx3
      have it : ∀ (k : Nat) (g : FF) (b : AA) (ρ : Lx), k < my → b 1 1 0 = a 1 1 0 → LT g b T ρ → (∀ g', F3 g g' → LT g' (upa b 1 1 3 (2 * P.2.length + k) (nI (taN T mx ρ).1)) T (taN T mx ρ).2 → X 58 [some (.inr (.inr (3, 0, 0))), some (.inr (.inr (1, 1, 0))), some (.inl (nI x)), some (.inl (nI y)), some (.inl (nI P.2.length)), some (.inl (nI (k + 1)))] [] g' (upa b 1 1 3 (2 * P.2.length + k) (nI (taN T mx ρ).1))) →
          X 58 [some (.inr (.inr (3, 0, 0))), some (.inr (.inr (1, 1, 0))), some (.inl (nI x)), some (.inl (nI y)), some (.inl (nI P.2.length)), some (.inl (nI k))] [] g b := by
        intro k g b ρ hk eb hLg K
        refine hX [58] 60 _ _ _ _ _ ?_
        have ey' : b 1 1 0 (nI y).toNatClampNeg = nI my := by rw [eb, nI_clamp (by omega)]; exact emy
        have ex' : b 1 1 0 (nI x).toNatClampNeg = nI mx := by rw [eb, nI_clamp (by omega)]; exact emx
        refine ⟨inA 3 rfl rfl hy3 (by decide), ⟨fun q => absurd ((i_le ey' rfl (by omega) (by omega)).mp q) (by omega), fun q => ?_⟩⟩
        refine ⟨inA 3 rfl rfl hx3 (by decide), T, ρ, mx, ex', hmx, hLg, fun g1 hF1 hLg1 => ?_⟩
        refine ⟨P.2.length, k, rfl, rfl, by omega, ?_⟩
        have := K g1 hF1 (hLg1.of rfl (upa_o _ _ (by decide)))
        rw [← nI_1] at this
        exact this
      have ot : ∀ (g : FF) (b : AA) (ρ : Lx), b 1 1 0 = a 1 1 0 → LT g b T ρ → (∀ g', F3 g g' → LT g' b T (tlS T ρ) → post none g' b) →
          X 58 [some (.inr (.inr (3, 0, 0))), some (.inr (.inr (1, 1, 0))), some (.inl (nI x)), some (.inl (nI y)), some (.inl (nI P.2.length)), some (.inl (nI my))] [] g b := by
        intro g b ρ eb hLg K
        refine hX [] 60 _ _ _ _ _ ?_
        have ey' : b 1 1 0 (nI y).toNatClampNeg = nI my := by rw [eb, nI_clamp (by omega)]; exact emy
        refine ⟨inA 3 rfl rfl hy3 (by decide), ⟨fun q => ?_, fun q => absurd ((i_le ey' rfl (by omega) (by omega)).mpr (Nat.le_refl _)) q⟩⟩
        exact ⟨T, ρ, hLg, fun g1 hF1 hLg1 => K g1 hF1 hLg1⟩
      have e5 : f3 1 1 5 = nI P.2.length := by rw [e11]; exact hR.2.1
      refine ⟨P.2.length, e5, d, ?_⟩
      have hFD : FD f a (upf f3 1 1 5 (nI (P.2.length + 1))) (apC a 1 P.2.length (nI x) (nI y)) := (((FD.rf f a).f3 hF).uf 5 _).ap _ _ _
      have hLA : LT (upf f3 1 1 5 (nI (P.2.length + 1))) (apC a 1 P.2.length (nI x) (nI y)) T τ := hL3.of (upf_o _ _ (by decide)) hFD.at3
      have e0 : apC a 1 P.2.length (nI x) (nI y) 1 1 0 = a 1 1 0 := by
        unfold apC
        rw [upa_s, if_neg (by decide), upa_s, if_neg (by decide), upa_s, if_neg (by decide), upa_s, if_neg (by decide)]
      have hR3 : RC (f3 1 1) (a 1 1) P := by rw [e11]; exact hR
      have hRA := hR3.app (x := x) (y := y)
      obtain ⟨g0, eg0⟩ : ∃ g0, g0 = upf f3 1 1 5 (nI (P.2.length + 1)) := ⟨_, rfl⟩
      obtain ⟨b0, eb0⟩ : ∃ b0, b0 = apC a 1 P.2.length (nI x) (nI y) := ⟨_, rfl⟩
      rw [← eg0, ← eb0] at hFD hLA hRA
      rw [← eb0] at e0
      have go : X 58 [some (.inr (.inr (3, 0, 0))), some (.inr (.inr (1, 1, 0))), some (.inl (nI x)), some (.inl (nI y)), some (.inl (nI P.2.length)), some (.inl (nI 0))] [] g0 b0 := by
        by_cases hτ : τ.1 = 0
        · rw [if_neg (fun z => z hτ)] at h
          have hxl := hx0 hτ
          have hyl := hy0 hτ
          have ax := hW.2.2.1 x hxl
          have ay := hW.2.2.1 y hyl
          have dx : mx = ar P x := (nI_eq (by omega) (by omega)).mp (emx.symm.trans (hR.2.2.1 x hxl))
          have dy : my = ar P y := (nI_eq (by omega) (by omega)).mp (emy.symm.trans (hR.2.2.1 y hyl))
          rw [← dx, ← dy] at h
          rw [← dx] at ax
          rw [← dy] at ay
          obtain ⟨r, er⟩ : ∃ r, r = taN T mx τ := ⟨_, rfl⟩
          rw [← er] at h
          have la : ∀ q : Nat × Nat × Nat × Nat, P.2.length < (P.1, P.2 ++ [q]).2.length := fun q => by
            show _ < (P.2 ++ [q]).length
            rw [List.length_append]
            exact Nat.lt_succ_self _
          refine it 0 g0 b0 τ (by omega) e0 hLA (fun g1 hF1 hL1 => ?_)
          rw [← er] at hL1 ⊢
          have b1 : upa b0 1 1 3 (2 * P.2.length + 0) (nI r.1) 1 1 0 = a 1 1 0 := by rw [upa_s, if_neg (by decide)]; exact e0
          have hR1 : RC (g1 1 1) (upa b0 1 1 3 (2 * P.2.length + 0) (nI r.1) 1 1) (P.1, P.2 ++ [(x, y, r.1, 0)]) := by
            have := hRA.stA (c := P.2.length) (k := 0) (x := r.1) (la _) (by decide)
            rw [set_app] at this
            rw [hF1.o (by decide)]
            exact this
          have hG1 : FD f a g1 (upa b0 1 1 3 (2 * P.2.length + 0) (nI r.1)) := (hFD.f3 hF1).ua 3 _ _
          have ct : ∀ g, F3 g1 g → ∃ m n, g 1 1 4 = nI m ∧ m ≤ 3 ∧ g 1 1 5 = nI n ∧ n ≤ 12 := fun g hg => ⟨P.1.length, P.2.length + 1, by rw [hg.o (by decide), hF1.o (by decide), eg0, upf_s, if_neg (by decide)]; exact hR3.1, hl3, by rw [hg.o (by decide), hF1.o (by decide), eg0, upf_s, if_pos rfl], by omega⟩
          have okr : r.2.1 = 0 → okA mx r.1 = true := fun z => by
            rw [er] at z ⊢
            exact taN_ok hLA.2.2.2 ax z
          rcases ay with ay | ay
          · have K := ot g1 _ r.2 b1 hL1 (fun g2 hF2 hL2 => by
              rw [if_neg (by omega)] at h
              refine h g2 _ (hG1.f3 hF2) hL2 ⟨fun i hi => by rw [b1]; exact hD.1 i hi, ct g2 hF2, fun z => ⟨?_, ?_⟩⟩
              · rw [hF2.o (by decide)]
                exact hR1
              · have z0 : r.2.1 = 0 := stk (T := T) (fun q => tlS_id hL1.2.2.2 q) z
                refine hW.app d ⟨hxl, hyl, ?_, ?_⟩
                · show okA (ar P x) r.1 = true
                  rw [← dx]
                  exact okr z0
                · show if ar P y = 2 then _ else (0 : Nat) = 0
                  rw [← dy, if_neg (by omega)])
            rw [ay] at K
            exact K
          · refine it 1 g1 _ r.2 (by omega) b1 hL1 (fun g2 hF2 hL2 => ?_)
            obtain ⟨w, ew⟩ : ∃ w, w = taN T mx r.2 := ⟨_, rfl⟩
            rw [← ew] at hL2 ⊢
            rw [if_pos ay, ← ew] at h
            have b2 : upa (upa b0 1 1 3 (2 * P.2.length + 0) (nI r.1)) 1 1 3 (2 * P.2.length + 1) (nI w.1) 1 1 0 = a 1 1 0 := by rw [upa_s, if_neg (by decide)]; exact b1
            have K := ot g2 _ w.2 b2 hL2 (fun g3 hF3 hL3 => by
              refine h g3 _ (((hG1.f3 hF2).ua 3 _ _).f3 hF3) hL3 ⟨fun i hi => by rw [b2]; exact hD.1 i hi, ct g3 (hF2.tr hF3), fun z => ⟨?_, ?_⟩⟩
              · have := hR1.stA (c := P.2.length) (k := 1) (x := w.1) (la _) (by decide)
                rw [set_app2] at this
                rw [hF3.o (by decide), hF2.o (by decide)]
                exact this
              · have z0 : w.2.1 = 0 := stk (T := T) (fun q => tlS_id hL2.2.2.2 q) z
                have okw : okA mx w.1 = true := by
                  rw [ew] at z0 ⊢
                  exact taN_ok hL1.2.2.2 ax z0
                have z1 : r.2.1 = 0 := stk (T := T) (fun q => by rw [ew]; exact taN_id hL1.2.2.2 q mx) z0
                refine hW.app d ⟨hxl, hyl, ?_, ?_⟩
                · show okA (ar P x) r.1 = true
                  rw [← dx]
                  exact okr z1
                · show if ar P y = 2 then okA (ar P x) w.1 = true else w.1 = 0
                  rw [← dy, if_pos ay, ← dx]
                  exact okw)
            rw [ay] at K
            exact K
        · rw [if_pos hτ] at h
          have key : ∀ d k g b, k + d = my → FD f a g b → g 1 1 = g0 1 1 → b 1 1 0 = a 1 1 0 → LT g b T τ → X 58 [some (.inr (.inr (3, 0, 0))), some (.inr (.inr (1, 1, 0))), some (.inl (nI x)), some (.inl (nI y)), some (.inl (nI P.2.length)), some (.inl (nI k))] [] g b := by
            intro d
            induction d with
            | zero =>
              intro k g b hk hG eg eb hLg
              have hk : k = my := by omega
              subst hk
              refine ot g b τ eb hLg (fun g1 hF1 hL1 => ?_)
              rw [tlS_id hLg.2.2.2 hτ] at hL1
              refine h g1 b (hG.f3 hF1) hL1 ⟨fun i hi => by rw [eb]; exact hD.1 i hi, ⟨P.1.length, P.2.length + 1, ?_, hl3, ?_, by omega⟩, fun z => absurd z hτ⟩
              · rw [hF1.o (by decide), eg, eg0, upf_s, if_neg (by decide)]
                exact hR3.1
              · rw [hF1.o (by decide), eg, eg0, upf_s, if_pos rfl]
            | succ d ih =>
              intro k g b hk hG eg eb hLg
              refine it k g b τ (by omega) eb hLg (fun g1 hF1 hL1 => ?_)
              rw [taN_id hLg.2.2.2 hτ] at hL1
              exact ih (k + 1) g1 _ (by omega) ((hG.f3 hF1).ua 3 _ _) (by rw [hF1.o (by decide)]; exact eg) (by rw [upa_s, if_neg (by decide)]; exact eb) hL1
          exact key my 0 g0 b0 (by omega) hFD rfl e0 hLA
      rw [eg0, eb0] at go
      rw [← e5] at go
      exact go
    · have d : ¬ P.2.length < 12 := fun z => d (c1.mpr z)
      unfold tcN at h
      simp only [if_pos (Nat.not_lt.mp d)] at h
      refine ⟨5, σ, rfl, hL.2.2.1, hL.2.2.2.1, fun f1 hF h1 => ?_⟩
      exact h f1 a ((FD.rf f a).f3 hF) (hL.ref (by decide) hF h1) (hD.f3 hF (fun _ => h0))
  · exact h.elim
theorem shX3_tellCall : ∀ As f a Q, sX3_tellCall As f a Q → ∃ i r, As = .inr (.inr (3, i, 0)) :: r := by
  intro As f a Q h
  unfold sX3_tellCall at h
  split at h
  · exact ⟨_, _, rfl⟩
  · exact h.elim
theorem mX3_tellCall {g : Gm} (hg : GmOK g) : MetC g yX3_tellCall cX3_tellCall 6 none 8 sX3_tellCall := by
  refine MetC_of hg eX3_tellCall (eokX3_tellCall hg) (by decide +kernel) (fun av f a post h => ?_) rX3_tellCall
  unfold sX3_tellCall at h
  split at h
  · exact Nat.le_of_ble_eq_true rfl
  · exact h.elim
end
section
/-! the whole text -/
theorem nI_ex (x : Int32) : ∃ n, x = nI n := ⟨x.toBitVec.toNat, Int32.toBitVec_inj.mp (by
  show _ = BitVec.ofNat 32 _
  rw [BitVec.ofNat_toNat]
  simp)⟩
def telN (T : List Nat) : Nat → Lx → Pg → Lx × Pg
  | 0, σ, P => (σ, P)
  | n + 1, σ, P => if σ.2.2.2 = 0 then (σ, P) else telN T n (lnN T σ P).1 (lnN T σ P).2
def linN (T : List Nat) : Nat → Lx → Pg → Nat
  | 0, _, _ => 0
  | n + 1, σ, P => if σ.2.2.2 = 0 then 0 else 1 + linN T n (lnN T σ P).1 (lnN T σ P).2
def txS (T : List Nat) : Lx := stepN T (0, 0, 0, 0)
def sX3_tell : SP := fun As f a Q => match As with
  | [.inr (.inr (3, 0, 0)), .inr (.inr (1, 1, 0))] => ∃ T, TP (f 3 0) (a 3 0) T ∧ OKT T ∧ RC (f 1 1) (a 1 1) ([], []) ∧ AB (a 1 1) ∧ ∀ f' a', FD f a f' a' → LT f' a' T (telN T 16 (txS T) ([], [])).1 → DR f' a' (telN T 16 (txS T) ([], [])).2 (telN T 16 (txS T) ([], [])).1 → Q (some (.inl (nI (linN T 16 (txS T) ([], []))))) f' a'
  | _ => False
def eX3_tell : En := (tX3_tell, [(22, false, 1, sX3_step), (30, false, 2, sX3_isName), (34, false, 2, sX3_tellFunction), (40, false, 2, sX3_tellCall), (43, false, 2, sX3_refuse)], fdX3, [(28, .inr (.inr (9, 0, 0))), (38, .inr (.inr (9, 1, 0)))], 0)
theorem eokX3_tell {g : Gm} (hg : GmOK g) : EnvOK g 9 RX3 cX3_tell (some .int) eX3_tell := ⟨okX3_tell, fun _ _ _ _ h => as2_all (P := fun i v => CallOK g 9 RX3 i v.1 v.2.1 v.2.2) (l := eX3_tell.2.1) ⟨callV_ok (t := 3) hg (mX3_step hg) kX3_step mlX3_22 qX3_step.1 qX3_step.2 ⟨by decide, by decide⟩ ⟨_, _, rfl⟩ shX3_step, callV_ok (t := 3) hg (mX3_isName hg) kX3_isName mlX3_30 qX3_isName.1 qX3_isName.2 ⟨by decide, by decide⟩ ⟨_, _, rfl⟩ shX3_isName, callV_ok (t := 3) hg (mX3_tellFunction hg) kX3_tellFunction mlX3_34 qX3_tellFunction.1 qX3_tellFunction.2 ⟨by decide, by decide⟩ ⟨_, _, rfl⟩ shX3_tellFunction, callV_ok (t := 3) hg (mX3_tellCall hg) kX3_tellCall mlX3_40 qX3_tellCall.1 qX3_tellCall.2 ⟨by decide, by decide⟩ ⟨_, _, rfl⟩ shX3_tellCall, callV_ok (t := 3) hg (mX3_refuse hg) kX3_refuse mlX3_43 qX3_refuse.1 qX3_refuse.2 ⟨by decide, by decide⟩ ⟨_, _, rfl⟩ shX3_refuse, trivial⟩ h, fdX3_ok, fun _ _ h => as2_all (P := fun i v => CstOK g RX3 i v ∧ vld v) (l := eX3_tell.2.2.2.1) ⟨cstX3_28 hg, cstX3_38 hg, trivial⟩ h, rfl⟩
theorem rX3_tell (av : List AV) (f : FF) (a : AA) (post : PT) (h : sX3_tell av f a post) (X : XT) (hX : Clo eX3_tell post X) : X 0 (padL 3 (ent av)) [] f a := by
  unfold sX3_tell at h
  split at h
  · obtain ⟨T, hT, hO, hR, hB, h⟩ := h
    obtain ⟨R0, eR⟩ : ∃ R0, R0 = telN T 16 (txS T) ([], []) := ⟨_, rfl⟩
    obtain ⟨N0, eN⟩ : ∃ N0, N0 = linN T 16 (txS T) ([], []) := ⟨_, rfl⟩
    rw [← eR, ← eN] at h
    have key : ∀ d m σ P f1 a1, m + d = 16 → FD f a f1 a1 → LT f1 a1 T σ → DR f1 a1 P σ → R0 = telN T d σ P → N0 = m + linN T d σ P → X 16 [some (.inr (.inr (3, 0, 0))), some (.inr (.inr (1, 1, 0))), some (.inl (nI m))] [] f1 a1 := by
      intro d
      induction d with
      | zero =>
        intro m σ P f1 a1 hm hF hL hD et el
        have hm : m = 16 := by omega
        subst hm
        refine hX [] 40 _ _ _ _ _ ?_
        refine ⟨fun _ => ?_, fun q => absurd (by decide) q⟩
        rw [et, el] at h
        exact h f1 a1 hF hL hD
      | succ d ih =>
        intro m σ P f1 a1 hm hF hL hD et el
        unfold telN at et
        unfold linN at el
        have hk := hL.k (n := 0) (by decide) rfl
        refine hX [68] 60 _ _ _ _ _ ?_
        refine ⟨fun q => absurd ((i_lt (show (15 : Int32) = nI 15 from rfl) rfl (by decide) (by omega)).mp q) (by omega), fun _ => ⟨fun q => ?_, fun q => ?_⟩⟩
        · have q := hk.mp q
          rw [if_pos q] at et el
          rw [et, el] at h
          exact h f1 a1 hF hL hD
        · have q : ¬ σ.2.2.2 = 0 := fun z => q (hk.mpr z)
          rw [if_neg q] at et el
          have h0 := (hL.2.2.2.2.2.2.2.1 q).1
          have nx : ∀ f2 a2, FD f a f2 a2 → LT f2 a2 T (lnN T σ P).1 → DR f2 a2 (lnN T σ P).2 (lnN T σ P).1 → X 68 [some (.inr (.inr (3, 0, 0))), some (.inr (.inr (1, 1, 0))), some (.inl (nI m))] [] f2 a2 := fun f2 a2 hF2 hL2 hD2 => by
            refine hX [16] 20 _ _ _ _ _ ?_
            have := ih (m + 1) _ _ f2 a2 (by omega) hF2 hL2 hD2 et (by rw [el]; omega)
            rw [← nI_1] at this
            exact this
          unfold lnN at nx
          refine ⟨T, σ, by decide, hL, ⟨fun q1 => ?_, fun q1 => ?_⟩⟩
          · have q1 : ¬ nmB T σ 0 = true := by rw [b2i_e0.mp q1]; decide
            simp only [if_neg q1] at nx
            refine ⟨T, σ, by decide, hL, ⟨fun q2 => ?_, fun q2 => ?_⟩⟩
            · have q2 : ¬ nmB T σ 1 = true := by rw [b2i_e0.mp q2]; decide
              simp only [if_neg q2] at nx
              exact ⟨2, σ, rfl, hL.2.2.1, hL.2.2.2.1, fun f2 hF2 h2 => nx f2 a1 (hF.f3 hF2) (hL.ref (by decide) hF2 h2) (hD.f3 hF2 (fun _ => h0))⟩
            · have q2 := b2i_n0.mp q2
              simp only [if_pos q2] at nx
              exact ⟨T, σ, P, hL, h0, hD, fun f2 a2 hF2 hL2 hD2 => nx f2 a2 (hF.tr hF2) hL2 hD2⟩
          · have q1 := b2i_n0.mp q1
            simp only [if_pos q1] at nx
            exact ⟨T, σ, P, hL, h0, hD, fun f2 a2 hF2 hL2 hD2 => nx f2 a2 (hF.tr hF2) hL2 hD2⟩
    obtain ⟨s, es⟩ := nI_ex (f 3 0 3)
    obtain ⟨k, ek⟩ := nI_ex (f 3 0 5)
    refine hX [16] 40 _ _ _ _ _ ?_
    have F0 : F3 f (upf (upf f 3 0 2 0) 3 0 4 0) := ((F3.rf f).up 2 (by decide) 0).up 4 (by decide) 0
    have l0 : LOK0 T (0, s, 0, k) := ⟨by show 0 < 10; decide, Nat.zero_le _⟩
    have ex : stepN T (0, s, 0, k) = txS T := rfl
    refine ⟨T, (0, s, 0, k), F0.tp hT, hO, ⟨rfl, es, rfl, ek⟩, l0, fun f1 hF1 h1 => ?_⟩
    have hk := l0.step rfl
    rw [ex] at hk h1
    have hF := F0.tr hF1
    refine key 16 0 (txS T) ([], []) f1 a rfl ((FD.rf f a).f3 hF) ⟨hF.tp hT, hO, h1, hk⟩ ⟨hB, ⟨0, 0, by rw [hF.o (by decide)]; exact hR.1, by decide, by rw [hF.o (by decide)]; exact hR.2.1, by decide⟩, fun _ => ⟨by rw [hF.o (by decide)]; exact hR, ?_⟩⟩ eR (by rw [eN, Nat.zero_add])
    exact ⟨by decide, by decide, fun i hi => absurd hi (Nat.not_lt_zero i), fun i hi => absurd hi (Nat.not_lt_zero i)⟩
  · exact h.elim
theorem shX3_tell : ∀ As f a Q, sX3_tell As f a Q → ∃ i r, As = .inr (.inr (3, i, 0)) :: r := by
  intro As f a Q h
  unfold sX3_tell at h
  split at h
  · exact ⟨_, _, rfl⟩
  · exact h.elim
theorem mX3_tell {g : Gm} (hg : GmOK g) : MetC g yX3_tell cX3_tell 3 (some .int) 9 sX3_tell := by
  refine MetC_of hg eX3_tell (eokX3_tell hg) (by decide +kernel) (fun av f a post h => ?_) rX3_tell
  unfold sX3_tell at h
  split at h
  · exact Nat.le_of_ble_eq_true rfl
  · exact h.elim
def txR (T : List Nat) : Lx × Pg := telN T 16 (txS T) ([], [])
def anText (A : Ab) : Int32 := if (txR (aT A)).1.1 = 0 then nI (linN (aT A) 16 (txS (aT A)) ([], [])) else -10 - nI (txR (aT A)).1.2.1
def nxText (A : Ab) : Ab := if (txR (aT A)).1.1 = 0 then ((txR (aT A)).2, [], 0, fun _ => none, A.2.2.2.2) else (aP A, [], (txR (aT A)).1.1, A.2.2.2)
def sX4_text : SP := fun As f a Q => match As with
  | [.inr (.inr (4, 0, 0))] => ∃ A, RepC f a A ∧ OKA A ∧ ∀ f' a', RepC f' a' (nxText A) → S5 f a f' a' → Q (some (.inl (anText A))) f' a'
  | _ => False
def eX4_text : En := (tX4_text, [(60, false, 1, sX1_clear), (63, false, 2, sX3_tell), (73, false, 2, sX1_copy)], fdX4, [], 0)
theorem eokX4_text {g : Gm} (hg : GmOK g) : EnvOK g 10 RX4 cX4_text (some .int) eX4_text := ⟨okX4_text, fun _ _ _ _ h => as2_all (P := fun i v => CallOK g 10 RX4 i v.1 v.2.1 v.2.2) (l := eX4_text.2.1) ⟨callV_ok (t := 1) hg (mX1_clear hg) kX1_clear mlX4_60 qX1_clear.1 qX1_clear.2 ⟨by decide, by decide⟩ ⟨_, _, rfl⟩ shX1_clear, callV_ok (t := 3) hg (mX3_tell hg) kX3_tell mlX4_63 qX3_tell.1 qX3_tell.2 ⟨by decide, by decide⟩ ⟨_, _, rfl⟩ shX3_tell, callV_ok (t := 1) hg (mX1_copy hg) kX1_copy mlX4_73 qX1_copy.1 qX1_copy.2 ⟨by decide, by decide⟩ ⟨_, _, rfl⟩ shX1_copy, trivial⟩ h, fdX4_ok, (fun _ _ h => by cases h), rfl⟩
theorem RepC.told3 {f f' : FF} {a a' : AA} {A : Ab} (h : RepC f a A) (e1 : ∀ t i, ¬ (t = 1 ∧ i = 1) → ¬ (t = 3 ∧ i = 0) → f' t i = f t i) (e2 : ∀ t i, ¬ (t = 1 ∧ i = 1) → a' t i = a t i) {ft : Nat} (ht : tlC (f' 3 0) (a' 3 0) [] ft) (hB : AB (a' 1 1)) : RepC f' a' (aP A, [], ft, A.2.2.2) ∧ S5 f a f' a' := by
  refine ⟨⟨?_, ht, ?_, ?_, ?_, ?_, ?_⟩, e1 5 0 (by decide) (by decide), e2 5 0 (by decide)⟩
  · rw [e1 1 0 (by decide) (by decide), e2 1 0 (by decide)]
    exact h.1
  · intro k hk
    rw [e1 1 (2 + k) (by omega) (by omega), e2 1 (2 + k) (by omega), e2 4 0 (by decide)]
    exact h.2.2.1 k hk
  · intro k hk
    rw [e1 2 k (fun q => absurd q.1 (by decide)) (fun q => absurd q.1 (by decide)), e2 2 k (fun q => absurd q.1 (by decide))]
    exact h.2.2.2.1 k hk
  · rw [e1 4 0 (by decide) (by decide)]
    exact h.2.2.2.2.1
  · unfold stC
    rw [e1 4 0 (by decide) (by decide), e1 0 0 (by decide) (by decide), e2 0 0 (by decide)]
    exact h.2.2.2.2.2.1
  · intro p hp
    by_cases z : p = 1
    · rw [z]
      exact hB
    · rw [e2 1 p (fun q => z q.2)]
      exact h.2.2.2.2.2.2 p hp
theorem RepC.img0 {f : FF} {a a' : AA} {A : Ab} (h : RepC f a A) (h7 : f 4 0 7 = 1) (e2 : ∀ t i, ¬ (t = 4 ∧ i = 0) → a' t i = a t i) (e0 : a' 4 0 5 0 = 0) (e1 : a' 4 0 5 1 = 0) : RepC f a' (aP A, aT A, aFt A, (fun _ => none), A.2.2.2.2) ∧ S5 f a f a' := by
  refine ⟨⟨?_, ?_, ?_, ?_, h.2.2.2.2.1, Or.inl h7, ?_⟩, rfl, e2 5 0 (by decide)⟩
  · rw [e2 1 0 (by decide)]
    exact h.1
  · rw [e2 3 0 (by decide)]
    exact h.2.1
  · intro k hk
    refine ⟨?_, fun P z => by cases z⟩
    rcases (show k = 0 ∨ k = 1 by omega) with rfl | rfl
    · exact e0
    · exact e1
  · intro k hk
    rw [e2 2 k (fun q => absurd q.1 (by decide))]
    exact h.2.2.2.1 k hk
  · intro p hp
    rw [e2 1 p (fun q => absurd q.1 (by decide))]
    exact h.2.2.2.2.2.2 p hp
theorem rX4_text (av : List AV) (f : FF) (a : AA) (post : PT) (h : sX4_text av f a post) (X : XT) (hX : Clo eX4_text post X) : X 0 (padL 3 (ent av)) [] f a := by
  unfold sX4_text at h
  split at h
  · obtain ⟨A, hA, hO, h⟩ := h
    have hOT : OKT (aT A) := hO.2.1
    unfold anText nxText txR at h
    obtain ⟨R0, eR⟩ : ∃ R0, R0 = telN (aT A) 16 (txS (aT A)) ([], []) := ⟨_, rfl⟩
    obtain ⟨N0, eN⟩ : ∃ N0, N0 = linN (aT A) 16 (txS (aT A)) ([], []) := ⟨_, rfl⟩
    rw [← eR, ← eN] at h
    refine hX [66] 60 _ _ _ _ _ ?_
    refine ⟨aT A, ⟨hA.2.1.1, hA.2.1.2.1⟩, hOT, ⟨rfl, rfl, fun i hi => absurd hi (Nat.not_lt_zero i), fun i hi => absurd hi (Nat.not_lt_zero i)⟩, hA.2.2.2.2.2.2 1 (by decide), fun f1 a1 hF hL hD => ?_⟩
    rw [← eR] at hL hD
    rw [← eN]
    have g1 : ∀ t i, ¬ (t = 1 ∧ i = 1) → ¬ (t = 3 ∧ i = 0) → upf f1 3 0 1 0 t i = f t i := fun t i p q => by
      rw [upf_o _ _ q]
      funext k
      rw [hF.1 t i k p (fun z => q ⟨z.1, z.2.1⟩), upf_o _ _ p, upf_o _ _ p]
    have hz : f1 3 0 2 = 0 ↔ R0.1.1 = 0 := i_eq hL.2.2.1.1 (show (0 : Int32) = nI 0 from rfl) (by have := hL.2.2.2.1; omega) (by decide)
    have K := hA.told3 (f' := upf f1 3 0 1 0) (a' := a1) g1 hF.2 (ft := R0.1.1) ⟨rfl, fun i hi => absurd hi (Nat.not_lt_zero i), hL.2.2.1.1⟩ hD.1
    refine ⟨fun d => ?_, fun d => ?_⟩
    · have d : R0.1.1 = 0 := hz.mp d
      simp only [if_pos d] at h
      obtain ⟨hR, hW⟩ := hD.2.2 d
      refine ⟨by decide, fun f2 a2 hF2 hC hB => ?_⟩
      have hC := hC R0.2 hW (by rw [upf_o _ _ (by decide)]; exact hR)
      have hB := hB hD.1
      have K2 := K.1.told hF2 hC hB
      refine ⟨Or.inr rfl, ?_⟩
      have fin : ∀ a3, (∀ t i, ¬ (t = 4 ∧ i = 0) → a3 t i = a2 t i) → a3 4 0 5 0 = 0 → a3 4 0 5 1 = 0 → post (some (.inl (nI N0))) (upf f2 4 0 7 1) a3 := fun a3 p q r => by
        have K3 := K2.1.img0 (a' := a3) (by rw [upf_s, if_pos rfl]) p q r
        have K4 : RepC (upf f2 4 0 7 1) a3 (R0.2, [], R0.1.1, (fun _ => none), A.2.2.2.2) := K3.1
        rw [d] at K4
        exact h _ _ K4 ((K.2.tr K2.2).tr K3.2)
      show X 66 [some (.inr (.inr (4, 0, 0))), some (.inl (nI N0)), some (.inl (nI 0))] [] (upf f2 4 0 7 1) a2
      refine hX [] 90 _ _ _ _ _ ?_
      refine ⟨fun q => absurd q (by decide), fun _ => ⟨inA 2 (n := 0) rfl rfl (by decide) (by decide), ⟨fun q => absurd q (by decide), fun _ => ⟨inA 2 (n := 1) rfl rfl (by decide) (by decide), ⟨fun _ => ?_, fun q => absurd (by decide) q⟩⟩⟩⟩⟩
      refine fin _ (fun t i p => ?_) ?_ ?_
      · rw [upa_o _ _ p, upa_o _ _ p]
      · rw [upa_s, if_pos rfl, upd_s]
        rfl
      · rw [upa_s, if_pos rfl, upd_s]
        rfl
    · have d : ¬ R0.1.1 = 0 := fun z => d (hz.mpr z)
      simp only [if_neg d] at h
      exact pI (h _ _ K.1 K.2) (by show -10 - nI R0.1.2.1 = -10 - f1 3 0 3; rw [hL.2.2.1.2.1])
  · exact h.elim
theorem shX4_text : ∀ As f a Q, sX4_text As f a Q → ∃ i r, As = .inr (.inr (4, i, 0)) :: r := by
  intro As f a Q h
  unfold sX4_text at h
  split at h
  · exact ⟨_, _, rfl⟩
  · exact h.elim
theorem mX4_text {g : Gm} (hg : GmOK g) : MetC g yX4_text cX4_text 3 (some .int) 10 sX4_text := by
  refine MetC_of hg eX4_text (eokX4_text hg) (by decide +kernel) (fun av f a post h => ?_) rX4_text
  unfold sX4_text at h
  split at h
  · exact Nat.le_of_ble_eq_true rfl
  · exact h.elim
end
