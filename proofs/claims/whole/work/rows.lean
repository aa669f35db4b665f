section
-- ===== PART A: goes FIRST, ahead of the names: the tables' words, and 'selects' of the private methods out of them =====
/-- a private method of a class that the tables say can be made, by its rows of tables_1 -/
def lw_okq (q : MethodName × Nat) : Prop := (q.1.cls ≠ "java/lang/invoke/MethodHandle" ∧ q.1.cls ≠ "java/lang/invoke/VarHandle") ∧ Cond.instantiable q.1.cls q.2 ∈ tables_1 ∧ Cond.privateMethod q.1 ∈ tables_1 ∧ Cond.instanceMethod q.1 ∈ tables_1
theorem lw_p0 : lw_okq (⟨"AxleScale$Text", "characterAt", "(I)I"⟩, 9) := ⟨⟨by decide +kernel, by decide +kernel⟩, List.mem_of_getElem? (i := 22) (by decide +kernel), List.mem_of_getElem? (i := 191) (by decide +kernel), List.mem_of_getElem? (i := 192) (by decide +kernel)⟩
theorem lw_p1 : lw_okq (⟨"AxleScale$Text", "readPart", "(I)I"⟩, 9) := ⟨⟨by decide +kernel, by decide +kernel⟩, List.mem_of_getElem? (i := 22) (by decide +kernel), List.mem_of_getElem? (i := 195) (by decide +kernel), List.mem_of_getElem? (i := 196) (by decide +kernel)⟩
theorem lw_p2 : lw_okq (⟨"AxleScale$Text", "closeRepeat", "(I)I"⟩, 9) := ⟨⟨by decide +kernel, by decide +kernel⟩, List.mem_of_getElem? (i := 22) (by decide +kernel), List.mem_of_getElem? (i := 199) (by decide +kernel), List.mem_of_getElem? (i := 200) (by decide +kernel)⟩
theorem lw_p3 : lw_okq (⟨"AxleScale$Text", "readAxle", "(I)I"⟩, 9) := ⟨⟨by decide +kernel, by decide +kernel⟩, List.mem_of_getElem? (i := 22) (by decide +kernel), List.mem_of_getElem? (i := 206) (by decide +kernel), List.mem_of_getElem? (i := 207) (by decide +kernel)⟩
theorem lw_p4 : lw_okq (⟨"AxleScale$Text", "readNumber", "(II)I"⟩, 9) := ⟨⟨by decide +kernel, by decide +kernel⟩, List.mem_of_getElem? (i := 22) (by decide +kernel), List.mem_of_getElem? (i := 210) (by decide +kernel), List.mem_of_getElem? (i := 211) (by decide +kernel)⟩
theorem lw_p5 : lw_okq (⟨"AxleScale$Text", "digitAt", "(I)I"⟩, 9) := ⟨⟨by decide +kernel, by decide +kernel⟩, List.mem_of_getElem? (i := 22) (by decide +kernel), List.mem_of_getElem? (i := 214) (by decide +kernel), List.mem_of_getElem? (i := 215) (by decide +kernel)⟩
theorem lw_p6 : lw_okq (⟨"AxleScale$Plan", "findTrains", "(LAxleScale$Recording;)V"⟩, 13) := ⟨⟨by decide +kernel, by decide +kernel⟩, List.mem_of_getElem? (i := 94) (by decide +kernel), List.mem_of_getElem? (i := 230) (by decide +kernel), List.mem_of_getElem? (i := 231) (by decide +kernel)⟩
theorem lw_p7 : lw_okq (⟨"AxleScale$Plan", "findValues", "(LAxleScale$Recording;III)V"⟩, 13) := ⟨⟨by decide +kernel, by decide +kernel⟩, List.mem_of_getElem? (i := 94) (by decide +kernel), List.mem_of_getElem? (i := 239) (by decide +kernel), List.mem_of_getElem? (i := 240) (by decide +kernel)⟩
theorem lw_p8 : lw_okq (⟨"AxleScale$Plan", "chooseCar", "(LAxleScale$Recording;III)V"⟩, 13) := ⟨⟨by decide +kernel, by decide +kernel⟩, List.mem_of_getElem? (i := 94) (by decide +kernel), List.mem_of_getElem? (i := 255) (by decide +kernel), List.mem_of_getElem? (i := 256) (by decide +kernel)⟩
theorem lw_p9 : lw_okq (⟨"AxleScale$Plan", "takeCars", "(LAxleScale$Recording;I)V"⟩, 13) := ⟨⟨by decide +kernel, by decide +kernel⟩, List.mem_of_getElem? (i := 94) (by decide +kernel), List.mem_of_getElem? (i := 268) (by decide +kernel), List.mem_of_getElem? (i := 269) (by decide +kernel)⟩
theorem lw_p10 : lw_okq (⟨"AxleScale$Recording", "dropAxles", "(II)V"⟩, 5) := ⟨⟨by decide +kernel, by decide +kernel⟩, List.mem_of_getElem? (i := 62) (by decide +kernel), List.mem_of_getElem? (i := 288) (by decide +kernel), List.mem_of_getElem? (i := 289) (by decide +kernel)⟩
theorem lw_p11 : lw_okq (⟨"java/lang/Throwable", "fillInStackTrace", "(I)Ljava/lang/Throwable;"⟩, 6) := ⟨⟨by decide +kernel, by decide +kernel⟩, List.mem_of_getElem? (i := 360) (by decide +kernel), List.mem_of_getElem? (i := 358) (by decide +kernel), List.mem_of_getElem? (i := 359) (by decide +kernel)⟩
theorem lw_p12 : lw_okq (⟨"AxleScale", "countBills", "(Z)I"⟩, 9) := ⟨⟨by decide +kernel, by decide +kernel⟩, List.mem_of_getElem? (i := 14) (by decide +kernel), List.mem_of_getElem? (i := 418) (by decide +kernel), List.mem_of_getElem? (i := 419) (by decide +kernel)⟩
theorem lw_p13 : lw_okq (⟨"AxleScale", "demandAxle", "(I)V"⟩, 9) := ⟨⟨by decide +kernel, by decide +kernel⟩, List.mem_of_getElem? (i := 14) (by decide +kernel), List.mem_of_getElem? (i := 434) (by decide +kernel), List.mem_of_getElem? (i := 435) (by decide +kernel)⟩
theorem lw_p14 : lw_okq (⟨"AxleScale", "demandTrain", "(I)V"⟩, 9) := ⟨⟨by decide +kernel, by decide +kernel⟩, List.mem_of_getElem? (i := 14) (by decide +kernel), List.mem_of_getElem? (i := 481) (by decide +kernel), List.mem_of_getElem? (i := 482) (by decide +kernel)⟩
theorem lw_p15 : lw_okq (⟨"AxleScale", "billOrNone", "(I)I"⟩, 9) := ⟨⟨by decide +kernel, by decide +kernel⟩, List.mem_of_getElem? (i := 14) (by decide +kernel), List.mem_of_getElem? (i := 505) (by decide +kernel), List.mem_of_getElem? (i := 506) (by decide +kernel)⟩
def lw_privs_1 : List (MethodName × Nat) := [(⟨"AxleScale$Text", "characterAt", "(I)I"⟩, 9), (⟨"AxleScale$Text", "readPart", "(I)I"⟩, 9), (⟨"AxleScale$Text", "closeRepeat", "(I)I"⟩, 9), (⟨"AxleScale$Text", "readAxle", "(I)I"⟩, 9), (⟨"AxleScale$Text", "readNumber", "(II)I"⟩, 9), (⟨"AxleScale$Text", "digitAt", "(I)I"⟩, 9), (⟨"AxleScale$Plan", "findTrains", "(LAxleScale$Recording;)V"⟩, 13), (⟨"AxleScale$Plan", "findValues", "(LAxleScale$Recording;III)V"⟩, 13), (⟨"AxleScale$Plan", "chooseCar", "(LAxleScale$Recording;III)V"⟩, 13), (⟨"AxleScale$Plan", "takeCars", "(LAxleScale$Recording;I)V"⟩, 13), (⟨"AxleScale$Recording", "dropAxles", "(II)V"⟩, 5), (⟨"java/lang/Throwable", "fillInStackTrace", "(I)Ljava/lang/Throwable;"⟩, 6), (⟨"AxleScale", "countBills", "(Z)I"⟩, 9), (⟨"AxleScale", "demandAxle", "(I)V"⟩, 9), (⟨"AxleScale", "demandTrain", "(I)V"⟩, 9), (⟨"AxleScale", "billOrNone", "(I)I"⟩, 9)]
theorem lw_r1 : ∀ q ∈ lw_privs_1, lw_okq q := List.forall_mem_cons.mpr ⟨lw_p0, List.forall_mem_cons.mpr ⟨lw_p1, List.forall_mem_cons.mpr ⟨lw_p2, List.forall_mem_cons.mpr ⟨lw_p3, List.forall_mem_cons.mpr ⟨lw_p4, List.forall_mem_cons.mpr ⟨lw_p5, List.forall_mem_cons.mpr ⟨lw_p6, List.forall_mem_cons.mpr ⟨lw_p7, List.forall_mem_cons.mpr ⟨lw_p8, List.forall_mem_cons.mpr ⟨lw_p9, List.forall_mem_cons.mpr ⟨lw_p10, List.forall_mem_cons.mpr ⟨lw_p11, List.forall_mem_cons.mpr ⟨lw_p12, List.forall_mem_cons.mpr ⟨lw_p13, List.forall_mem_cons.mpr ⟨lw_p14, List.forall_mem_cons.mpr ⟨lw_p15, fun _ h => absurd h List.not_mem_nil⟩⟩⟩⟩⟩⟩⟩⟩⟩⟩⟩⟩⟩⟩⟩⟩
theorem lw_p16 : lw_okq (⟨"AxleScale", "remember", "()V"⟩, 9) := ⟨⟨by decide +kernel, by decide +kernel⟩, List.mem_of_getElem? (i := 14) (by decide +kernel), List.mem_of_getElem? (i := 532) (by decide +kernel), List.mem_of_getElem? (i := 533) (by decide +kernel)⟩
theorem lw_p17 : lw_okq (⟨"AxleScale", "commandSucceeds", "(I)Z"⟩, 9) := ⟨⟨by decide +kernel, by decide +kernel⟩, List.mem_of_getElem? (i := 14) (by decide +kernel), List.mem_of_getElem? (i := 655) (by decide +kernel), List.mem_of_getElem? (i := 656) (by decide +kernel)⟩
theorem lw_p18 : lw_okq (⟨"AxleScale", "conditionHolds", "(I)Z"⟩, 9) := ⟨⟨by decide +kernel, by decide +kernel⟩, List.mem_of_getElem? (i := 14) (by decide +kernel), List.mem_of_getElem? (i := 659) (by decide +kernel), List.mem_of_getElem? (i := 660) (by decide +kernel)⟩
theorem lw_p19 : lw_okq (⟨"AxleScale", "simulatedPause", "(I)I"⟩, 9) := ⟨⟨by decide +kernel, by decide +kernel⟩, List.mem_of_getElem? (i := 14) (by decide +kernel), List.mem_of_getElem? (i := 673) (by decide +kernel), List.mem_of_getElem? (i := 674) (by decide +kernel)⟩
theorem lw_p20 : lw_okq (⟨"AxleScaleModel", "refused", "(I)Z"⟩, 26) := ⟨⟨by decide +kernel, by decide +kernel⟩, List.mem_of_getElem? (i := 696) (by decide +kernel), List.mem_of_getElem? (i := 793) (by decide +kernel), List.mem_of_getElem? (i := 794) (by decide +kernel)⟩
theorem lw_p21 : lw_okq (⟨"AxleScaleModel", "readText", "()I"⟩, 26) := ⟨⟨by decide +kernel, by decide +kernel⟩, List.mem_of_getElem? (i := 696) (by decide +kernel), List.mem_of_getElem? (i := 805) (by decide +kernel), List.mem_of_getElem? (i := 806) (by decide +kernel)⟩
theorem lw_p22 : lw_okq (⟨"AxleScaleModel", "isNext", "(I)Z"⟩, 26) := ⟨⟨by decide +kernel, by decide +kernel⟩, List.mem_of_getElem? (i := 696) (by decide +kernel), List.mem_of_getElem? (i := 809) (by decide +kernel), List.mem_of_getElem? (i := 810) (by decide +kernel)⟩
theorem lw_p23 : lw_okq (⟨"AxleScaleModel", "accept", "(Z)V"⟩, 26) := ⟨⟨by decide +kernel, by decide +kernel⟩, List.mem_of_getElem? (i := 696) (by decide +kernel), List.mem_of_getElem? (i := 813) (by decide +kernel), List.mem_of_getElem? (i := 814) (by decide +kernel)⟩
theorem lw_p24 : lw_okq (⟨"AxleScaleModel", "readPart", "()V"⟩, 26) := ⟨⟨by decide +kernel, by decide +kernel⟩, List.mem_of_getElem? (i := 696) (by decide +kernel), List.mem_of_getElem? (i := 817) (by decide +kernel), List.mem_of_getElem? (i := 818) (by decide +kernel)⟩
theorem lw_p25 : lw_okq (⟨"AxleScaleModel", "digitAt", "(I)I"⟩, 26) := ⟨⟨by decide +kernel, by decide +kernel⟩, List.mem_of_getElem? (i := 696) (by decide +kernel), List.mem_of_getElem? (i := 821) (by decide +kernel), List.mem_of_getElem? (i := 822) (by decide +kernel)⟩
theorem lw_p26 : lw_okq (⟨"AxleScaleModel", "closeRow", "()V"⟩, 26) := ⟨⟨by decide +kernel, by decide +kernel⟩, List.mem_of_getElem? (i := 696) (by decide +kernel), List.mem_of_getElem? (i := 831) (by decide +kernel), List.mem_of_getElem? (i := 832) (by decide +kernel)⟩
theorem lw_p27 : lw_okq (⟨"AxleScaleModel", "openRow", "()V"⟩, 26) := ⟨⟨by decide +kernel, by decide +kernel⟩, List.mem_of_getElem? (i := 696) (by decide +kernel), List.mem_of_getElem? (i := 835) (by decide +kernel), List.mem_of_getElem? (i := 836) (by decide +kernel)⟩
theorem lw_p28 : lw_okq (⟨"AxleScaleModel", "digit", "(II)I"⟩, 26) := ⟨⟨by decide +kernel, by decide +kernel⟩, List.mem_of_getElem? (i := 696) (by decide +kernel), List.mem_of_getElem? (i := 839) (by decide +kernel), List.mem_of_getElem? (i := 840) (by decide +kernel)⟩
theorem lw_p29 : lw_okq (⟨"AxleScaleModel", "readAxle", "()V"⟩, 26) := ⟨⟨by decide +kernel, by decide +kernel⟩, List.mem_of_getElem? (i := 696) (by decide +kernel), List.mem_of_getElem? (i := 843) (by decide +kernel), List.mem_of_getElem? (i := 844) (by decide +kernel)⟩
theorem lw_p30 : lw_okq (⟨"AxleScaleModel", "take", "(II)V"⟩, 26) := ⟨⟨by decide +kernel, by decide +kernel⟩, List.mem_of_getElem? (i := 696) (by decide +kernel), List.mem_of_getElem? (i := 847) (by decide +kernel), List.mem_of_getElem? (i := 848) (by decide +kernel)⟩
theorem lw_p31 : lw_okq (⟨"AxleScaleModel", "lay", "([I)V"⟩, 26) := ⟨⟨by decide +kernel, by decide +kernel⟩, List.mem_of_getElem? (i := 696) (by decide +kernel), List.mem_of_getElem? (i := 859) (by decide +kernel), List.mem_of_getElem? (i := 860) (by decide +kernel)⟩
def lw_privs_2 : List (MethodName × Nat) := [(⟨"AxleScale", "remember", "()V"⟩, 9), (⟨"AxleScale", "commandSucceeds", "(I)Z"⟩, 9), (⟨"AxleScale", "conditionHolds", "(I)Z"⟩, 9), (⟨"AxleScale", "simulatedPause", "(I)I"⟩, 9), (⟨"AxleScaleModel", "refused", "(I)Z"⟩, 26), (⟨"AxleScaleModel", "readText", "()I"⟩, 26), (⟨"AxleScaleModel", "isNext", "(I)Z"⟩, 26), (⟨"AxleScaleModel", "accept", "(Z)V"⟩, 26), (⟨"AxleScaleModel", "readPart", "()V"⟩, 26), (⟨"AxleScaleModel", "digitAt", "(I)I"⟩, 26), (⟨"AxleScaleModel", "closeRow", "()V"⟩, 26), (⟨"AxleScaleModel", "openRow", "()V"⟩, 26), (⟨"AxleScaleModel", "digit", "(II)I"⟩, 26), (⟨"AxleScaleModel", "readAxle", "()V"⟩, 26), (⟨"AxleScaleModel", "take", "(II)V"⟩, 26), (⟨"AxleScaleModel", "lay", "([I)V"⟩, 26)]
theorem lw_r2 : ∀ q ∈ lw_privs_2, lw_okq q := List.forall_mem_cons.mpr ⟨lw_p16, List.forall_mem_cons.mpr ⟨lw_p17, List.forall_mem_cons.mpr ⟨lw_p18, List.forall_mem_cons.mpr ⟨lw_p19, List.forall_mem_cons.mpr ⟨lw_p20, List.forall_mem_cons.mpr ⟨lw_p21, List.forall_mem_cons.mpr ⟨lw_p22, List.forall_mem_cons.mpr ⟨lw_p23, List.forall_mem_cons.mpr ⟨lw_p24, List.forall_mem_cons.mpr ⟨lw_p25, List.forall_mem_cons.mpr ⟨lw_p26, List.forall_mem_cons.mpr ⟨lw_p27, List.forall_mem_cons.mpr ⟨lw_p28, List.forall_mem_cons.mpr ⟨lw_p29, List.forall_mem_cons.mpr ⟨lw_p30, List.forall_mem_cons.mpr ⟨lw_p31, fun _ h => absurd h List.not_mem_nil⟩⟩⟩⟩⟩⟩⟩⟩⟩⟩⟩⟩⟩⟩⟩⟩
theorem lw_p32 : lw_okq (⟨"AxleScaleModel", "layRest", "([IIII)I"⟩, 26) := ⟨⟨by decide +kernel, by decide +kernel⟩, List.mem_of_getElem? (i := 696) (by decide +kernel), List.mem_of_getElem? (i := 863) (by decide +kernel), List.mem_of_getElem? (i := 864) (by decide +kernel)⟩
theorem lw_p33 : lw_okq (⟨"AxleScaleModel", "withStray", "([IIII)I"⟩, 26) := ⟨⟨by decide +kernel, by decide +kernel⟩, List.mem_of_getElem? (i := 696) (by decide +kernel), List.mem_of_getElem? (i := 870) (by decide +kernel), List.mem_of_getElem? (i := 871) (by decide +kernel)⟩
theorem lw_p34 : lw_okq (⟨"AxleScaleModel", "withCar", "([IIII)I"⟩, 26) := ⟨⟨by decide +kernel, by decide +kernel⟩, List.mem_of_getElem? (i := 696) (by decide +kernel), List.mem_of_getElem? (i := 877) (by decide +kernel), List.mem_of_getElem? (i := 878) (by decide +kernel)⟩
theorem lw_p35 : lw_okq (⟨"AxleScaleModel", "gapCost", "([III)I"⟩, 26) := ⟨⟨by decide +kernel, by decide +kernel⟩, List.mem_of_getElem? (i := 696) (by decide +kernel), List.mem_of_getElem? (i := 881) (by decide +kernel), List.mem_of_getElem? (i := 882) (by decide +kernel)⟩
theorem lw_p36 : lw_okq (⟨"AxleScaleModel", "layCars", "([III)V"⟩, 26) := ⟨⟨by decide +kernel, by decide +kernel⟩, List.mem_of_getElem? (i := 696) (by decide +kernel), List.mem_of_getElem? (i := 891) (by decide +kernel), List.mem_of_getElem? (i := 892) (by decide +kernel)⟩
theorem lw_p37 : lw_okq (⟨"AxleScaleModel", "allWeight", "([I)I"⟩, 26) := ⟨⟨by decide +kernel, by decide +kernel⟩, List.mem_of_getElem? (i := 696) (by decide +kernel), List.mem_of_getElem? (i := 895) (by decide +kernel), List.mem_of_getElem? (i := 896) (by decide +kernel)⟩
theorem lw_p38 : lw_okq (⟨"AxleScaleModel", "badBills", "(Z)I"⟩, 26) := ⟨⟨by decide +kernel, by decide +kernel⟩, List.mem_of_getElem? (i := 696) (by decide +kernel), List.mem_of_getElem? (i := 902) (by decide +kernel), List.mem_of_getElem? (i := 903) (by decide +kernel)⟩
theorem lw_p39 : lw_okq (⟨"AxleScaleModel", "trainWeight", "(I)I"⟩, 26) := ⟨⟨by decide +kernel, by decide +kernel⟩, List.mem_of_getElem? (i := 696) (by decide +kernel), List.mem_of_getElem? (i := 906) (by decide +kernel), List.mem_of_getElem? (i := 907) (by decide +kernel)⟩
theorem lw_p40 : lw_okq (⟨"AxleScaleModel", "trainOf", "(I)I"⟩, 26) := ⟨⟨by decide +kernel, by decide +kernel⟩, List.mem_of_getElem? (i := 696) (by decide +kernel), List.mem_of_getElem? (i := 910) (by decide +kernel), List.mem_of_getElem? (i := 911) (by decide +kernel)⟩
theorem lw_p41 : lw_okq (⟨"AxleScaleModel", "isAxle", "(I)Z"⟩, 26) := ⟨⟨by decide +kernel, by decide +kernel⟩, List.mem_of_getElem? (i := 696) (by decide +kernel), List.mem_of_getElem? (i := 918) (by decide +kernel), List.mem_of_getElem? (i := 919) (by decide +kernel)⟩
theorem lw_p42 : lw_okq (⟨"AxleScaleModel", "carOf", "(I)I"⟩, 26) := ⟨⟨by decide +kernel, by decide +kernel⟩, List.mem_of_getElem? (i := 696) (by decide +kernel), List.mem_of_getElem? (i := 923) (by decide +kernel), List.mem_of_getElem? (i := 924) (by decide +kernel)⟩
theorem lw_p43 : lw_okq (⟨"AxleScaleModel", "speed", "(I)I"⟩, 26) := ⟨⟨by decide +kernel, by decide +kernel⟩, List.mem_of_getElem? (i := 696) (by decide +kernel), List.mem_of_getElem? (i := 932) (by decide +kernel), List.mem_of_getElem? (i := 933) (by decide +kernel)⟩
theorem lw_p44 : lw_okq (⟨"AxleScaleModel", "between", "(I)I"⟩, 26) := ⟨⟨by decide +kernel, by decide +kernel⟩, List.mem_of_getElem? (i := 696) (by decide +kernel), List.mem_of_getElem? (i := 936) (by decide +kernel), List.mem_of_getElem? (i := 937) (by decide +kernel)⟩
theorem lw_p45 : lw_okq (⟨"AxleScaleModel", "carsOf", "(I)I"⟩, 26) := ⟨⟨by decide +kernel, by decide +kernel⟩, List.mem_of_getElem? (i := 696) (by decide +kernel), List.mem_of_getElem? (i := 944) (by decide +kernel), List.mem_of_getElem? (i := 945) (by decide +kernel)⟩
theorem lw_p46 : lw_okq (⟨"AxleScaleModel", "heaviest", "(I)I"⟩, 26) := ⟨⟨by decide +kernel, by decide +kernel⟩, List.mem_of_getElem? (i := 696) (by decide +kernel), List.mem_of_getElem? (i := 948) (by decide +kernel), List.mem_of_getElem? (i := 949) (by decide +kernel)⟩
theorem lw_p47 : lw_okq (⟨"AxleScaleModel", "speeds", "(I)I"⟩, 26) := ⟨⟨by decide +kernel, by decide +kernel⟩, List.mem_of_getElem? (i := 696) (by decide +kernel), List.mem_of_getElem? (i := 952) (by decide +kernel), List.mem_of_getElem? (i := 953) (by decide +kernel)⟩
def lw_privs_3 : List (MethodName × Nat) := [(⟨"AxleScaleModel", "layRest", "([IIII)I"⟩, 26), (⟨"AxleScaleModel", "withStray", "([IIII)I"⟩, 26), (⟨"AxleScaleModel", "withCar", "([IIII)I"⟩, 26), (⟨"AxleScaleModel", "gapCost", "([III)I"⟩, 26), (⟨"AxleScaleModel", "layCars", "([III)V"⟩, 26), (⟨"AxleScaleModel", "allWeight", "([I)I"⟩, 26), (⟨"AxleScaleModel", "badBills", "(Z)I"⟩, 26), (⟨"AxleScaleModel", "trainWeight", "(I)I"⟩, 26), (⟨"AxleScaleModel", "trainOf", "(I)I"⟩, 26), (⟨"AxleScaleModel", "isAxle", "(I)Z"⟩, 26), (⟨"AxleScaleModel", "carOf", "(I)I"⟩, 26), (⟨"AxleScaleModel", "speed", "(I)I"⟩, 26), (⟨"AxleScaleModel", "between", "(I)I"⟩, 26), (⟨"AxleScaleModel", "carsOf", "(I)I"⟩, 26), (⟨"AxleScaleModel", "heaviest", "(I)I"⟩, 26), (⟨"AxleScaleModel", "speeds", "(I)I"⟩, 26)]
theorem lw_r3 : ∀ q ∈ lw_privs_3, lw_okq q := List.forall_mem_cons.mpr ⟨lw_p32, List.forall_mem_cons.mpr ⟨lw_p33, List.forall_mem_cons.mpr ⟨lw_p34, List.forall_mem_cons.mpr ⟨lw_p35, List.forall_mem_cons.mpr ⟨lw_p36, List.forall_mem_cons.mpr ⟨lw_p37, List.forall_mem_cons.mpr ⟨lw_p38, List.forall_mem_cons.mpr ⟨lw_p39, List.forall_mem_cons.mpr ⟨lw_p40, List.forall_mem_cons.mpr ⟨lw_p41, List.forall_mem_cons.mpr ⟨lw_p42, List.forall_mem_cons.mpr ⟨lw_p43, List.forall_mem_cons.mpr ⟨lw_p44, List.forall_mem_cons.mpr ⟨lw_p45, List.forall_mem_cons.mpr ⟨lw_p46, List.forall_mem_cons.mpr ⟨lw_p47, fun _ h => absurd h List.not_mem_nil⟩⟩⟩⟩⟩⟩⟩⟩⟩⟩⟩⟩⟩⟩⟩⟩
theorem lw_p48 : lw_okq (⟨"AxleScaleModel", "remember", "()V"⟩, 26) := ⟨⟨by decide +kernel, by decide +kernel⟩, List.mem_of_getElem? (i := 696) (by decide +kernel), List.mem_of_getElem? (i := 972) (by decide +kernel), List.mem_of_getElem? (i := 973) (by decide +kernel)⟩
theorem lw_p49 : lw_okq (⟨"AxleScaleModel", "leaveIn", "([I)I"⟩, 26) := ⟨⟨by decide +kernel, by decide +kernel⟩, List.mem_of_getElem? (i := 696) (by decide +kernel), List.mem_of_getElem? (i := 1019) (by decide +kernel), List.mem_of_getElem? (i := 1020) (by decide +kernel)⟩
theorem lw_p50 : lw_okq (⟨"AxleScaleModel", "tryIt", "()V"⟩, 26) := ⟨⟨by decide +kernel, by decide +kernel⟩, List.mem_of_getElem? (i := 696) (by decide +kernel), List.mem_of_getElem? (i := 1031) (by decide +kernel), List.mem_of_getElem? (i := 1032) (by decide +kernel)⟩
theorem lw_p51 : lw_okq (⟨"AxleScaleModel", "does", "(I)Z"⟩, 26) := ⟨⟨by decide +kernel, by decide +kernel⟩, List.mem_of_getElem? (i := 696) (by decide +kernel), List.mem_of_getElem? (i := 1065) (by decide +kernel), List.mem_of_getElem? (i := 1066) (by decide +kernel)⟩
theorem lw_p52 : lw_okq (⟨"AxleScaleModel", "rolls", "(II)Z"⟩, 26) := ⟨⟨by decide +kernel, by decide +kernel⟩, List.mem_of_getElem? (i := 696) (by decide +kernel), List.mem_of_getElem? (i := 1069) (by decide +kernel), List.mem_of_getElem? (i := 1070) (by decide +kernel)⟩
theorem lw_p53 : lw_okq (⟨"AxleScaleModel", "strikes", "(I)Z"⟩, 26) := ⟨⟨by decide +kernel, by decide +kernel⟩, List.mem_of_getElem? (i := 696) (by decide +kernel), List.mem_of_getElem? (i := 1073) (by decide +kernel), List.mem_of_getElem? (i := 1074) (by decide +kernel)⟩
theorem lw_p54 : lw_okq (⟨"AxleScaleModel", "weighs", "(II)Z"⟩, 26) := ⟨⟨by decide +kernel, by decide +kernel⟩, List.mem_of_getElem? (i := 696) (by decide +kernel), List.mem_of_getElem? (i := 1077) (by decide +kernel), List.mem_of_getElem? (i := 1078) (by decide +kernel)⟩
theorem lw_p55 : lw_okq (⟨"AxleScaleModel", "sets", "(II)Z"⟩, 26) := ⟨⟨by decide +kernel, by decide +kernel⟩, List.mem_of_getElem? (i := 696) (by decide +kernel), List.mem_of_getElem? (i := 1081) (by decide +kernel), List.mem_of_getElem? (i := 1082) (by decide +kernel)⟩
theorem lw_p56 : lw_okq (⟨"AxleScaleModel", "leaves", "()Z"⟩, 26) := ⟨⟨by decide +kernel, by decide +kernel⟩, List.mem_of_getElem? (i := 696) (by decide +kernel), List.mem_of_getElem? (i := 1085) (by decide +kernel), List.mem_of_getElem? (i := 1086) (by decide +kernel)⟩
theorem lw_p57 : lw_okq (⟨"AxleScaleModel", "pauseOf", "(I)I"⟩, 26) := ⟨⟨by decide +kernel, by decide +kernel⟩, List.mem_of_getElem? (i := 696) (by decide +kernel), List.mem_of_getElem? (i := 1095) (by decide +kernel), List.mem_of_getElem? (i := 1096) (by decide +kernel)⟩
def lw_privs_4 : List (MethodName × Nat) := [(⟨"AxleScaleModel", "remember", "()V"⟩, 26), (⟨"AxleScaleModel", "leaveIn", "([I)I"⟩, 26), (⟨"AxleScaleModel", "tryIt", "()V"⟩, 26), (⟨"AxleScaleModel", "does", "(I)Z"⟩, 26), (⟨"AxleScaleModel", "rolls", "(II)Z"⟩, 26), (⟨"AxleScaleModel", "strikes", "(I)Z"⟩, 26), (⟨"AxleScaleModel", "weighs", "(II)Z"⟩, 26), (⟨"AxleScaleModel", "sets", "(II)Z"⟩, 26), (⟨"AxleScaleModel", "leaves", "()Z"⟩, 26), (⟨"AxleScaleModel", "pauseOf", "(I)I"⟩, 26)]
theorem lw_r4 : ∀ q ∈ lw_privs_4, lw_okq q := List.forall_mem_cons.mpr ⟨lw_p48, List.forall_mem_cons.mpr ⟨lw_p49, List.forall_mem_cons.mpr ⟨lw_p50, List.forall_mem_cons.mpr ⟨lw_p51, List.forall_mem_cons.mpr ⟨lw_p52, List.forall_mem_cons.mpr ⟨lw_p53, List.forall_mem_cons.mpr ⟨lw_p54, List.forall_mem_cons.mpr ⟨lw_p55, List.forall_mem_cons.mpr ⟨lw_p56, List.forall_mem_cons.mpr ⟨lw_p57, fun _ h => absurd h List.not_mem_nil⟩⟩⟩⟩⟩⟩⟩⟩⟩⟩
def lw_privs : List (MethodName × Nat) := lw_privs_1 ++ (lw_privs_2 ++ (lw_privs_3 ++ (lw_privs_4)))
def lw_tbl : List Cond := k2_sels lw_privs ++ tables_1
theorem lw_privs_ok : ∀ q ∈ lw_privs, lw_okq q := by
  show ∀ q ∈ lw_privs_1 ++ (lw_privs_2 ++ (lw_privs_3 ++ (lw_privs_4))), lw_okq q
  exact List.forall_mem_append.mpr ⟨lw_r1, List.forall_mem_append.mpr ⟨lw_r2, List.forall_mem_append.mpr ⟨lw_r3, lw_r4⟩⟩⟩
end
section
/-! ===== BEGIN words of one list among another's, by their places ===== -/
theorem goodIn_r {big : List Cond} (ws : List Cond) (ps : List Nat) (hp : ws = ps.filterMap (fun i => big[i]?)) (h : ws.all goodWord = true) : GoodIn big ws := by
  intro w hw
  have h1 := List.all_eq_true.mp h w hw
  rw [hp] at hw
  obtain ⟨i, -, hi⟩ := List.mem_filterMap.mp hw
  have hm : w ∈ big := by first | exact List.mem_of_getElem? hi | exact List.getElem?_mem hi
  exact ⟨hm, good_of_word h1⟩
theorem goodIn_app {big a b : List Cond} (ha : GoodIn big a) (hb : GoodIn big b) : GoodIn big (a ++ b) := fun w h => (List.mem_append.mp h).elim (ha w) (hb w)
theorem goodIn_ca {big a b : List Cond} {c : Cond} (ha : GoodIn big (c :: a)) (hb : GoodIn big b) : GoodIn big (c :: (a ++ b)) := fun w h => (List.mem_cons.mp h).elim (fun e => ha w (List.mem_cons.mpr (Or.inl e))) (fun h => (List.mem_append.mp h).elim (fun h => ha w (List.mem_cons.mpr (Or.inr h))) (hb w))
theorem goodIn_sub {big ws : List Cond} (hm : ∀ w ∈ ws, w ∈ big) (h : ws.all goodWord = true) : GoodIn big ws := fun w hw => ⟨hm w hw, good_of_word (List.all_eq_true.mp h w hw)⟩
/-! ===== END ===== -/

/-! ===== BEGIN exceptions that leave a method, and their catching by the caller (launches without stack traces) ===== -/
section VXA
/-! The laws vx_back, vx_callV, vx_callS, vx_callSW, vx_throw0, vx_throwS follow proofs of the library, with one case more: JvmDerived/Free/Laws.lean (Back.of_free), Shelf42/LK1.lean (callV, callS), Shelf/KitTraced.lean (throwNew0V, throwNewS). -/
/-- where a method has thrown q: the class by its name, the cell, what was written, the world -/
def vx_T (XC : String → State → State → Prop) (st : State) (q : Addr) (t : State) (mc ms : Nat) (free : Addr → Prop) : Prop :=
  ∃ (E : String) (ce : Cell) (L : List Loc), XC E st t ∧ t.heap[q]? = some ce ∧ ce.vm = .none ∧ st.vm.findClass E = some ce.cls ∧ st.WarmedH t.vm ∧ st.sameButNew ({ t with vm := st.vm } : State) L mc ms ∧ ∀ z ∈ L, free z.base
def vx_Q (Qc : Array Value → State → Outcome → State → Prop) (XC : String → State → State → Prop) (mc ms : Nat) (free : Addr → Prop) : Array Value → State → Outcome → State → Prop := fun a st o t =>
  (Qc a st o t ∧ ∃ L, FrameEnd st o t L mc ms ∧ ∀ q ∈ L, free q.base) ∨ ∃ q, o = .threw q ∧ vx_T XC st q t mc ms free
/-- a callee that returns or throws -/
def vx_Met (l : Launch) (y : MethodName) (ws : List Cond) (rm : Room) (Pc : Array Value → State → Prop) (Qc : Array Value → State → Outcome → State → Prop) (XC : String → State → State → Prop) (mc ms : Nat) (free : Addr → Prop) : Prop :=
  MetFree l y (headSpec ws rm) Pc (fun _ _ _ _ _ => True) (vx_Q Qc XC mc ms free)
def vx_Post (XC : String → State → State → Prop) (mc ms : Nat) (free : Addr → Prop) : Pt → Array Value → Addr → Pt → Prop := fun A a q B =>
  ∃ (g : JFrame) (mk : MethodId) (t : State) (L : List Loc) (E : String) (ce : Cell), B.U.heap = t.heap ∧ B.U.vm = t.vm ∧ XC E (A.U.calling g mk a) t ∧ t.heap[q]? = some ce ∧ ce.vm = .none ∧ A.U.vm.findClass E = some ce.cls ∧ B.locs = A.locs ++ L ∧ (∀ z ∈ L, free z.base) ∧ B.cells = A.cells + mc ∧ B.slots = A.slots + ms
def vx_Back (l : Launch) (R : Room) (p : Program) (e : Env) (below : List Frame) (s : State) (sargs : Array Value) (y : MethodName) (len W9 : Nat)
    (Pre : Pt → Array Value → Prop) (Post : Pt → Array Value → Option Value → Pt → Prop) (PostX : Pt → Array Value → Addr → Pt → Prop) : Prop :=
  ∀ (m : MethodId) (meth : Method) (c : Code) (A : Pt) (g : JFrame) (ig : Instr) (mk : MethodId) (a : Array Value),
    Stand p l e R s m sargs below meth c A.U A.locs A.cells A.slots → g.method = m → g.locals.size = c.maxLocals → decode c.code g.pc = .ok (ig, len) →
    2 * g.monitorRoom + (g.stack.map fun v => v.category).sum ≤ W9 → A.U.methodNamed? y = some mk → Pre A a →
    (∃ (v : Option Value) (B : Pt), Stand p l e R s m sargs below meth c B.U B.locs B.cells B.slots ∧ Post A a v B ∧
      Steps p.tables e below (doInvoke e (A.U.setTop g) [] mk a).1 (B.U.setTop { g with pc := g.pc + len, stack := v.toList ++ g.stack })) ∨
    (∃ (q : Addr) (B : Pt), Stand p l e R s m sargs below meth c B.U B.locs B.cells B.slots ∧ PostX A a q B ∧
      Steps p.tables e below (doInvoke e (A.U.setTop g) [] mk a).1 ((B.U.setTop g).pushFrame (.throwing q)))
section Payer
variable {l : Launch} {R : Room} {p : Program} {e : Env} {below : List Frame} {s : State} {sargs : Array Value} {y : MethodName} {len W9 : Nat}
theorem vx_back {ws : List Cond} {rm : Room} {Pc : Array Value → State → Prop} {Qc : Array Value → State → Outcome → State → Prop} {XC : String → State → State → Prop} {mc ms : Nat} {free : Addr → Prop} {bytes : ByteArray} {maxL : Nat} {ret : Option FieldType}
    (hM : vx_Met l y ws rm Pc Qc XC mc ms free) (hblind : FrameBlind Pc) (hrc : rm.cells = mc) (hrs : rm.slots = ms)
    (hframes : rm.frames + 1 ≤ R.frames) (hlocals : W9 + (maxL + 11) + rm.locals ≤ R.locals)
    (hws : ∀ w ∈ ws, ∀ a' U, s.WarmedH U.vm → w.before a' U = true) (hcode : Cond.code y bytes maxL ret ∈ ws) (hinit : ∀ a' U, s.WarmedH U.vm → (Cond.initialized y.cls).before a' U = true) :
    vx_Back l R p e below s sargs y len W9 (PreOf R mc ms Pc) (PostOf Qc mc ms free) (vx_Post XC mc ms free) := by
  intro m meth c A g ig mk a X hg hsize hdg hW hn hp
  have h1 : (headSpec ws rm).pre.before a A.U = true := atoms_intro fun w hw => hws w hw _ _ X.warmed
  have h2 : (Cond.code y bytes maxL ret).before a A.U = true := hws _ hcode _ _ X.warmed
  have h3 : (Cond.initialized y.cls).before a A.U = true := hinit _ _ X.warmed
  have h4 : A.cells + (headSpec ws rm).room.cells ≤ R.cells := by rw [show (headSpec ws rm).room.cells = mc from hrc]; exact hp.1
  have h5 : A.slots + (headSpec ws rm).room.slots ≤ R.slots := by rw [show (headSpec ws rm).room.slots = ms from hrs]; exact hp.2.1
  have hPc : Pc a (A.U.calling g mk a) := hblind _ _ _ _ hp.2.2
  obtain ⟨U, Ls, c0, s0⟩ := A
  dsimp only [Pt.U, Pt.locs, Pt.cells, Pt.slots] at h1 h2 h3 h4 h5 X hn hPc ⊢
  obtain ⟨methY, cY, hmY, hcY, -, hlY, -, -, -, -⟩ := Cond.code_spec hn h2
  obtain ⟨kY, hkY, -⟩ := className_of_methodNamed hn
  have hinitY : kY.init = .initialized := Cond.initialized_spec (findClass_of_methodNamed hn) hkY h3
  have h : At U g.method c below := by rw [hg]; exact X.here
  have hlocals9 : W9 + (maxL + 11) + (headSpec ws rm).room.locals ≤ R.locals := hlocals
  have happ : (headSpec ws rm).appliesLoose y e.platform (U.calling g mk a) = true :=
    Spec.appliesLoose_calling (g := g) h hdg hn hkY hinitY
      (X.room_calling (g := g) (R' := (headSpec ws rm).room) hsize hmY hcY hframes (by rw [hlY]; omega) h4 h5) h1
  obtain ⟨mid, hmid⟩ := h.above
  have hfr : (U.setTop g).frames = (.java g :: mid) ++ below := by rw [State.frames_setTop' g h.top, hmid]; rfl
  obtain ⟨o, s₂, hsteps, -, hend, hq⟩ := Steps.callFree hM p X.admits X.cas X.clock (acts := []) hfr happ hPc trivial
  have hq' : vx_Q Qc XC mc ms free a (U.calling g mk a) o s₂ := hq
  rw [State.frames_setTop' g h.top] at hend
  obtain ⟨g₀, hg0⟩ := Option.isSome_iff_exists.mp h.top
  obtain ⟨r, hr⟩ := State.topJava?_eq_some.mp hg0
  have hr' : (({ U with heap := s₂.heap, slotsUsed := s₂.slotsUsed } : State).setVm s₂.vm).frames = .java g₀ :: r := hr
  rcases hq' with ⟨hqc, L, hfe, hL⟩ | ⟨q, rfl, E, ce, L, hx, hce, hcv, hcl, hW₂, hsm, hL⟩
  · obtain ⟨⟨v, rfl⟩, hW₂, e2, q2, q3, q4, q5, q6⟩ := id hfe
    have e3 : s₂ = ({ (U.calling g mk a).setFrames s₂.frames with heap := s₂.heap, slotsUsed := s₂.slotsUsed } : State).setVm s₂.vm := by
      have : s₂ = ({ s₂ with vm := (U.calling g mk a).vm } : State).setVm s₂.vm := rfl
      rw [e2] at this
      exact this
    obtain ⟨c₂, i₂, len₂, hc₂, hd₂, hf₂⟩ := hend
    have hW' : U.WarmedH s₂.vm := hW₂
    have hcc : c₂ = c := by
      have h1 : s₂.code? g.method = U.code? g.method := by
        rw [State.code?_eq, State.code?_eq, hW'.alike.method?]
      exact Option.some.inj (hc₂.symm.trans (h1.trans h.code))
    subst hcc
    have hlen : len₂ = len := by rw [hdg] at hd₂; cases hd₂; rfl
    subst hlen
    have hs₂ : s₂ = (({ U with heap := s₂.heap, slotsUsed := s₂.slotsUsed } : State).setVm s₂.vm).setTop { g with pc := g.pc + len₂, stack := v.toList ++ g.stack } := by
      refine e3.trans ?_
      rw [hf₂, State.calling_eq h.top, State.setFrames_setFrames, State.setTop_of_frames _ hr', hr]
      rfl
    have hsame : U.sameButNew ({ U with heap := s₂.heap, slotsUsed := s₂.slotsUsed } : State) L mc ms := by
      refine ⟨?_, q2, q3, q4, q5, q6⟩
      obtain ⟨t, ht, -⟩ := State.frames_cons hr
      show ({ U with heap := s₂.heap, slotsUsed := s₂.slotsUsed } : State) = { U.setFrames U.frames with heap := s₂.heap, slotsUsed := s₂.slotsUsed }
      rw [State.setFrames_self ht]
    subst hg
    refine Or.inl ⟨v, ⟨(({ U with heap := s₂.heap, slotsUsed := s₂.slotsUsed } : State).setVm s₂.vm), Ls ++ L, c0 + mc, s0 + ms⟩,
      ⟨X.admits, X.cas, X.clock, X.frames, X.room, X.hears, X.method, X.code, (X.here.setHeapUsed s₂.heap s₂.slotsUsed).setVm hW'.alike, X.tail, State.WarmedH.trans X.warmed hW', X.limits, X.bytes, X.same.trans (hsame.setVm s.vm)⟩,
      ⟨g, mk, s₂, L, rfl, rfl, hqc, rfl, hL, rfl, rfl⟩, ?_⟩
    show Steps p.tables e below _ ((({ U with heap := s₂.heap, slotsUsed := s₂.slotsUsed } : State).setVm s₂.vm).setTop { g with pc := g.pc + len₂, stack := v.toList ++ g.stack })
    rw [← hs₂]
    exact hsteps
  · obtain ⟨e2, q2, q3, q4, q5, q6⟩ := id hsm
    have e3 : s₂ = ({ (U.calling g mk a).setFrames s₂.frames with heap := s₂.heap, slotsUsed := s₂.slotsUsed } : State).setVm s₂.vm := by
      have : s₂ = ({ s₂ with vm := (U.calling g mk a).vm } : State).setVm s₂.vm := rfl
      rw [e2] at this
      exact this
    have hf₂ : s₂.frames = .throwing q :: .java g :: U.frames.tail := hend
    have hW' : U.WarmedH s₂.vm := hW₂
    have hs₂ : s₂ = ((({ U with heap := s₂.heap, slotsUsed := s₂.slotsUsed } : State).setVm s₂.vm).setTop g).pushFrame (.throwing q) := by
      refine e3.trans ?_
      rw [hf₂, State.calling_eq h.top, State.setFrames_setFrames, State.pushFrame, State.frames_setTop _ hr', State.setTop_of_frames _ hr', State.setFrames_setFrames, hr]
      rfl
    have hsame : U.sameButNew ({ U with heap := s₂.heap, slotsUsed := s₂.slotsUsed } : State) L mc ms := by
      refine ⟨?_, q2, q3, q4, q5, q6⟩
      obtain ⟨t, ht, -⟩ := State.frames_cons hr
      show ({ U with heap := s₂.heap, slotsUsed := s₂.slotsUsed } : State) = { U.setFrames U.frames with heap := s₂.heap, slotsUsed := s₂.slotsUsed }
      rw [State.setFrames_self ht]
    subst hg
    refine Or.inr ⟨q, ⟨(({ U with heap := s₂.heap, slotsUsed := s₂.slotsUsed } : State).setVm s₂.vm), Ls ++ L, c0 + mc, s0 + ms⟩,
      ⟨X.admits, X.cas, X.clock, X.frames, X.room, X.hears, X.method, X.code, (X.here.setHeapUsed s₂.heap s₂.slotsUsed).setVm hW'.alike, X.tail, State.WarmedH.trans X.warmed hW', X.limits, X.bytes, X.same.trans (hsame.setVm s.vm)⟩,
      ⟨g, mk, s₂, L, E, ce, rfl, rfl, hx, hce, hcv, hcl, rfl, hL, rfl, rfl⟩, ?_⟩
    show Steps p.tables e below _ (((({ U with heap := s₂.heap, slotsUsed := s₂.slotsUsed } : State).setVm s₂.vm).setTop g).pushFrame (.throwing q))
    rw [← hs₂]
    exact hsteps
end Payer
section Calls
variable {p : Program} {l : Launch} {e : Env} {R : Room} {s : State} {m : MethodId} {args : Array Value} {below : List Frame} {meth : Method} {c : Code} {T : State} {locs : List Loc} {cells slots : Nat}
theorem vx_callV (X : Stand p l e R s m args below meth c T locs cells slots) (hexec : p.tables.exec = Jvm.exec) {own C : String} {index : Nat} {y : MethodName} {bytes : ByteArray} {maxL : Nat} {ret : Option FieldType}
    (hown : s.vm.findClass own = some m.cls) (hlink : (Cond.methodLink own index y).before args s = true) (hinst : (Cond.instanceMethod y).before args s = true) (hsel : (Cond.selects C y y).before args s = true)
    (hcode : (Cond.code y bytes maxL ret).before args s = true) (hy : y.cls ≠ "java/lang/invoke/MethodHandle" ∧ y.cls ≠ "java/lang/invoke/VarHandle")
    {W9 : Nat} {Pre : Pt → Array Value → Prop} {Post : Pt → Array Value → Option Value → Pt → Prop} {PostX : Pt → Array Value → Addr → Pt → Prop} (hK : vx_Back l R p e below s args y 3 W9 Pre Post PostX)
    {b : Addr} {cellB : Cell} (hcell : T.heap[b]? = some cellB) (hobj : cellB.vm.isStatics = false) (hcls : s.vm.findClass C = some cellB.cls)
    {g : JFrame} (hg : g.method = m) (hsize : g.locals.size = c.maxLocals) {argsL rest : List Value} (hlen : ∀ sig, parseMethodDescriptor y.desc = some sig → argsL.length = sig.parameters.length)
    (hstack : g.stack = argsL.reverse ++ .ref b :: rest) (hW : 2 * g.monitorRoom + (rest.map fun v => v.category).sum ≤ W9) (hdg : decode c.code g.pc = .ok (.invokevirtual index, 3))
    (hpre : ∀ vm₁, s.WarmedH vm₁ → Pre ⟨T.setVm vm₁, locs, cells, slots⟩ (Value.ref b :: argsL).toArray) :
    (∃ (v : Option Value) (vm₁ : Vm) (B : Pt), s.WarmedH vm₁ ∧ Stand p l e R s m args below meth c B.U B.locs B.cells B.slots ∧ Post ⟨T.setVm vm₁, locs, cells, slots⟩ (Value.ref b :: argsL).toArray v B ∧
      ∀ target, Steps p.tables e below (B.U.setTop { g with pc := g.pc + 3, stack := v.toList ++ rest }) target → Steps p.tables e below (T.setTop g) target) ∨
    (∃ (q : Addr) (vm₁ : Vm) (B : Pt), s.WarmedH vm₁ ∧ Stand p l e R s m args below meth c B.U B.locs B.cells B.slots ∧ PostX ⟨T.setVm vm₁, locs, cells, slots⟩ (Value.ref b :: argsL).toArray q B ∧
      Steps p.tables e below (T.setTop g) ((B.U.setTop { g with stack := rest }).pushFrame (.throwing q))) := by
  obtain ⟨mk, methM, hnamed, hmethM, hstM, habM⟩ := Cond.instanceMethod_spec hinst
  obtain ⟨methM', cM, hmethM', -, -, -, -, -, -, hsigM⟩ := Cond.code_spec hnamed hcode
  cases hmethM.symm.trans hmethM'
  obtain ⟨c2, r2, m2, q1, q2, q3, q4, kP, hkP, hkPi⟩ := Cond.selects_spec hsel
  cases hcls.symm.trans q1
  cases (State.methodFound?_of_named hnamed hy).symm.trans q2
  cases hnamed.symm.trans q3
  have hselP : selectMethod e.platform s.vm cellB.cls mk = .method mk := by rw [Launch.admits_selectMethod X.admits]; exact q4
  obtain ⟨vm₁, X₁, hstep₁⟩ := X.invokevirtual hexec hown hlink hnamed hmethM hstM hkP hkPi hy (a := b) (cell := cellB) hcell
    (fun z h => by rw [h] at hobj; cases hobj) hselP hmethM habM hkP hkPi (g := g) hg (argsL := argsL) (rest := rest) (hlen _ hsigM) hstack hdg
  rcases hK m meth c ⟨T.setVm vm₁, locs, cells, slots⟩ { g with stack := rest } (.invokevirtual index) mk (Value.ref b :: argsL).toArray X₁ hg hsize hdg hW (X₁.named hnamed) (hpre vm₁ X₁.warmed) with ⟨v, B, X', hpost, hsteps⟩ | ⟨q, B, X', hpost, hsteps⟩
  · exact Or.inl ⟨v, vm₁, B, X₁.warmed, X', hpost, fun target h => hstep₁ _ fun acts => by rw [doInvoke_state]; exact hsteps.trans h⟩
  · exact Or.inr ⟨q, vm₁, B, X₁.warmed, X', hpost, hstep₁ _ fun acts => by rw [doInvoke_state]; exact hsteps⟩
theorem vx_callS (X : Stand p l e R s m args below meth c T locs cells slots) (hexec : p.tables.exec = Jvm.exec) {own : String} {index : Nat} {y : MethodName} {bytes : ByteArray} {maxL : Nat} {ret : Option FieldType}
    (hown : s.vm.findClass own = some m.cls) (hlink : (Cond.methodLink own index y).before args s = true) (hstat : (Cond.static y).before args s = true) (hinit : (Cond.initialized y.cls).before args s = true)
    (hcode : (Cond.code y bytes maxL ret).before args s = true) (hy : y.cls ≠ "java/lang/invoke/MethodHandle" ∧ y.cls ≠ "java/lang/invoke/VarHandle")
    {W9 : Nat} {Pre : Pt → Array Value → Prop} {Post : Pt → Array Value → Option Value → Pt → Prop} {PostX : Pt → Array Value → Addr → Pt → Prop} (hK : vx_Back l R p e below s args y 3 W9 Pre Post PostX)
    {g : JFrame} (hg : g.method = m) (hsize : g.locals.size = c.maxLocals) {argsL rest : List Value} (hlen : ∀ sig, parseMethodDescriptor y.desc = some sig → argsL.length = sig.parameters.length)
    (hstack : g.stack = argsL.reverse ++ rest) (hW : 2 * g.monitorRoom + (rest.map fun v => v.category).sum ≤ W9) (hdg : decode c.code g.pc = .ok (.invokestatic index, 3))
    (hpre : ∀ vm₁, s.WarmedH vm₁ → Pre ⟨T.setVm vm₁, locs, cells, slots⟩ argsL.toArray) :
    (∃ (v : Option Value) (vm₁ : Vm) (B : Pt), s.WarmedH vm₁ ∧ Stand p l e R s m args below meth c B.U B.locs B.cells B.slots ∧ Post ⟨T.setVm vm₁, locs, cells, slots⟩ argsL.toArray v B ∧
      ∀ target, Steps p.tables e below (B.U.setTop { g with pc := g.pc + 3, stack := v.toList ++ rest }) target → Steps p.tables e below (T.setTop g) target) ∨
    (∃ (q : Addr) (vm₁ : Vm) (B : Pt), s.WarmedH vm₁ ∧ Stand p l e R s m args below meth c B.U B.locs B.cells B.slots ∧ PostX ⟨T.setVm vm₁, locs, cells, slots⟩ argsL.toArray q B ∧
      Steps p.tables e below (T.setTop g) ((B.U.setTop { g with stack := rest }).pushFrame (.throwing q))) := by
  obtain ⟨mk, hnamed⟩ := Cond.code_named hcode
  obtain ⟨methM, cM, hmethM, -, -, -, -, -, -, hsigM⟩ := Cond.code_spec hnamed hcode
  have hstatic : methM.isStatic = true := Cond.static_spec hnamed hmethM hstat
  obtain ⟨kP, hkP, -⟩ := className_of_methodNamed hnamed
  have hinitP : kP.init = .initialized := Cond.initialized_spec (findClass_of_methodNamed hnamed) hkP hinit
  obtain ⟨vm₁, X₁, hstep₁⟩ := X.invokestatic hexec hown hlink hnamed hmethM hstatic hkP hinitP hy (g := g) hg (argsL := argsL) (rest := rest) (hlen _ hsigM) hstack hdg
  rcases hK m meth c ⟨T.setVm vm₁, locs, cells, slots⟩ { g with stack := rest } (.invokestatic index) mk argsL.toArray X₁ hg hsize hdg hW (X₁.named hnamed) (hpre vm₁ X₁.warmed) with ⟨v, B, X', hpost, hsteps⟩ | ⟨q, B, X', hpost, hsteps⟩
  · exact Or.inl ⟨v, vm₁, B, X₁.warmed, X', hpost, fun target h => hstep₁ _ fun acts => by rw [doInvoke_state]; exact hsteps.trans h⟩
  · exact Or.inr ⟨q, vm₁, B, X₁.warmed, X', hpost, hstep₁ _ fun acts => by rw [doInvoke_state]; exact hsteps⟩
end Calls
theorem vx_cls {s : State} {T : State} {vm₁ : Vm} {E : String} {k : ClassId} (hW : s.WarmedH vm₁) (h : (T.setVm vm₁).vm.findClass E = some k) : s.vm.findClass E = some k := by
  have h1 : vm₁.findClass E = some k := h
  rw [hW.alike.findClass] at h1
  exact h1
/-- the method's frame g, with q thrown over it -/
def vx_W (p : Program) (l : Launch) (e : Env) (R : Room) (s : State) (m : MethodId) (args : Array Value) (below : List Frame) (meth : Method) (c : Code) (H : Heap) (locs : List Loc) (cells slots : Nat) (Q : State → Prop) (g : JFrame) (q : Addr) : Prop :=
  ∀ T : State, T.heap = H → Stand p l e R s m args below meth c T locs cells slots → ∃ t, Steps p.tables e below ((T.setTop g).pushFrame (.throwing q)) t ∧ Q t
def vx_Run (p : Program) (l : Launch) (e : Env) (R : Room) (s : State) (m : MethodId) (args : Array Value) (below : List Frame) (meth : Method) (c : Code) (H : Heap) (locs : List Loc) (cells slots mc ms : Nat) (g : JFrame) (rest : List Value) (Qa : State → Outcome → State → Prop) (XC : String → State → State → Prop) (free : Addr → Prop) : Prop :=
  ∀ T : State, T.heap = H → Stand p l e R s m args below meth c T locs cells slots →
    (∃ (v : Option Value) (st₀ t T' : State) (L : List Loc), st₀.heap = H ∧ Stand p l e R s m args below meth c T' (locs ++ L) (cells + mc) (slots + ms) ∧ (∀ q ∈ L, free q.base) ∧ T'.heap = t.heap ∧ T'.vm = t.vm ∧ Qa st₀ (.returned v) t ∧
      Goes p e below T g T' { g with pc := g.pc + 3, stack := v.toList ++ rest }) ∨
    (∃ (q : Addr) (st₀ t T' : State) (L : List Loc) (E : String) (ce : Cell), st₀.heap = H ∧ Stand p l e R s m args below meth c T' (locs ++ L) (cells + mc) (slots + ms) ∧ (∀ z ∈ L, free z.base) ∧ T'.heap = t.heap ∧ T'.vm = t.vm ∧ XC E st₀ t ∧ t.heap[q]? = some ce ∧ ce.vm = .none ∧ s.vm.findClass E = some ce.cls ∧
      Steps p.tables e below (T.setTop g) ((T'.setTop { g with stack := rest }).pushFrame (.throwing q)))
def vx_X {S : Type} (px : S → Prop) (B : String → S → State → Prop) (A : Nat → Prop) : String → State → State → Prop := fun E st t => ∃ u : S, px u ∧ B E u t ∧ va_F A st t
section Runs
variable {p : Program} {l : Launch} {e : Env} {R : Room} {s : State} {m : MethodId} {args : Array Value} {below : List Frame} {meth : Method} {c : Code} {H : Heap} {locs : List Loc} {cells slots : Nat}
variable {y : MethodName} {bytes cc : ByteArray} {maxL nL mc ms n index : Nat} {ret : Option FieldType} {ws : List Cond} {rm : Room} {Pc : Array Value → State → Prop} {Qc : Array Value → State → Outcome → State → Prop} {XC : String → State → State → Prop} {free : Addr → Prop} {Ts : List Cond} {own C : String} {b : Addr} {As rest : List Value} {g : JFrame}
theorem vx_callBack (cb : CallB R s args own index y bytes maxL ret ws rm mc ms n) (hM : vx_Met l y ws rm Pc Qc XC mc ms free) (hbl : FrameBlind Pc) : vx_Back l R p e below s args y 3 8 (PreOf R mc ms Pc) (PostOf Qc mc ms free) (vx_Post XC mc ms free) := by
  obtain ⟨hrc, hrs, hfr, hlo, hws, hcw, -, hini, -⟩ := cb
  exact vx_back (bytes := bytes) (maxL := maxL) (ret := ret) hM hbl hrc hrs hfr hlo hws hcw (fun a' U hW => word_at hW (Or.inl (by first | rfl | simp [Cond.onTables, Cond.keeps, Cond.steady])) hini)
theorem vx_runV (S : CallFix p m c cc nL s args Ts own) (hM : vx_Met l y ws rm Pc Qc XC mc ms free) (cw : CallW R s args own C index y bytes maxL ret ws rm mc ms n) (hp : PreV s H C b Pc As)
    (hg : g.method = m) (hn : As.length = n) (hsize : g.locals.size = nL) (hstack : g.stack = As.reverse ++ .ref b :: rest) (hW : 2 * g.monitorRoom + (rest.map fun v => v.category).sum ≤ 8) (hdg : decode cc g.pc = .ok (.invokevirtual index, 3)) (hf : cells + mc ≤ R.cells ∧ slots + ms ≤ R.slots) :
    vx_Run p l e R s m args below meth c H locs cells slots mc ms g rest (Qc (Value.ref b :: As).toArray) XC free := by
  have hK : vx_Back l R p e below s args y 3 8 (PreOf R mc ms Pc) (PostOf Qc mc ms free) (vx_Post XC mc ms free) := vx_callBack cw.1 hM hp.1
  obtain ⟨⟨-, -, -, -, -, -, hcode, -, hy, hlen, hl⟩, hin, hse⟩ := cw
  obtain ⟨hx, hb, hml, ho, -⟩ := S
  obtain ⟨-, ⟨cellB, hcB, hoB, hclB⟩, hPc⟩ := hp
  intro T hT X
  rcases vx_callV X hx (C := C) (bytes := bytes) (maxL := maxL) (ret := ret) ho hl hin hse hcode hy hK (by rw [hT]; exact hcB) hoB hclB hg (hsize.trans hml.symm) (argsL := As) (rest := rest) (fun sig h => hn.trans (hlen sig h)) hstack hW (by rw [hb]; exact hdg)
    (fun vm₁ hW₁ => ⟨hf.1, hf.2, hPc (T.setVm vm₁) hT hW₁⟩) with ⟨v, vm₁, ⟨U', l2, c2, s2⟩, hW₁, X', ⟨g', mk, t, L, e1, e2, hq, h1, hL, h2, h3⟩, st⟩ | ⟨q, vm₁, ⟨U', l2, c2, s2⟩, hW₁, X', ⟨g', mk, t, L, E, ce, e1, e2, hq, hce, hcv, hcl, h1, hL, h2, h3⟩, st⟩
  · dsimp only [Pt.U, Pt.locs, Pt.cells, Pt.slots] at X' e1 e2 h1 h2 h3 st
    subst h1; subst h2; subst h3
    exact Or.inl ⟨v, (T.setVm vm₁).calling g' mk (Value.ref b :: As).toArray, t, U', L, hT, X', hL, e1, e2, hq, st⟩
  · dsimp only [Pt.U, Pt.locs, Pt.cells, Pt.slots] at X' e1 e2 h1 h2 h3 st hcl
    subst h1; subst h2; subst h3
    exact Or.inr ⟨q, (T.setVm vm₁).calling g' mk (Value.ref b :: As).toArray, t, U', L, E, ce, hT, X', hL, e1, e2, hq, hce, hcv, vx_cls hW₁ hcl, st⟩
theorem vx_runS (S : CallFix p m c cc nL s args Ts own) (hM : vx_Met l y ws rm Pc Qc XC mc ms free) (cw : CallB R s args own index y bytes maxL ret ws rm mc ms n ∧ (Cond.static y).before args s = true) (hp : PreS s H Pc As)
    (hg : g.method = m) (hn : As.length = n) (hsize : g.locals.size = nL) (hstack : g.stack = As.reverse ++ rest) (hW : 2 * g.monitorRoom + (rest.map fun v => v.category).sum ≤ 8) (hdg : decode cc g.pc = .ok (.invokestatic index, 3)) (hf : cells + mc ≤ R.cells ∧ slots + ms ≤ R.slots) :
    vx_Run p l e R s m args below meth c H locs cells slots mc ms g rest (Qc As.toArray) XC free := by
  have hK : vx_Back l R p e below s args y 3 8 (PreOf R mc ms Pc) (PostOf Qc mc ms free) (vx_Post XC mc ms free) := vx_callBack cw.1 hM hp.1
  obtain ⟨⟨-, -, -, -, -, -, hcode, hini, hy, hlen, hl⟩, hstt⟩ := cw
  obtain ⟨hx, hb, hml, ho, -⟩ := S
  intro T hT X
  rcases vx_callS X hx (bytes := bytes) (maxL := maxL) (ret := ret) ho hl hstt hini hcode hy hK hg (hsize.trans hml.symm) (argsL := As) (rest := rest) (fun sig h => hn.trans (hlen sig h)) hstack hW (by rw [hb]; exact hdg)
    (fun vm₁ hW₁ => ⟨hf.1, hf.2, hp.2 (T.setVm vm₁) hT hW₁⟩) with ⟨v, vm₁, ⟨U', l2, c2, s2⟩, hW₁, X', ⟨g', mk, t, L, e1, e2, hq, h1, hL, h2, h3⟩, st⟩ | ⟨q, vm₁, ⟨U', l2, c2, s2⟩, hW₁, X', ⟨g', mk, t, L, E, ce, e1, e2, hq, hce, hcv, hcl, h1, hL, h2, h3⟩, st⟩
  · dsimp only [Pt.U, Pt.locs, Pt.cells, Pt.slots] at X' e1 e2 h1 h2 h3 st
    subst h1; subst h2; subst h3
    exact Or.inl ⟨v, (T.setVm vm₁).calling g' mk As.toArray, t, U', L, hT, X', hL, e1, e2, hq, st⟩
  · dsimp only [Pt.U, Pt.locs, Pt.cells, Pt.slots] at X' e1 e2 h1 h2 h3 st hcl
    subst h1; subst h2; subst h3
    exact Or.inr ⟨q, (T.setVm vm₁).calling g' mk As.toArray, t, U', L, E, ce, hT, X', hL, e1, e2, hq, hce, hcv, vx_cls hW₁ hcl, st⟩
end Runs
section Rows
variable {p : Program} {l : Launch} {e : Env} {R : Room} {s : State} {m : MethodId} {args : Array Value} {below : List Frame} {meth : Method} {c : Code} {H : Heap} {locs : List Loc} {cells slots : Nat} {Q : State → Prop}
variable {mc ms : Nat} {free : Addr → Prop} {A0 A1 : Nat → Prop} {H0 : Heap} {a : Array Value} {pc : Nat} {ls : Array Slot} {st0 rest : List Value}
theorem vx_keep {st₀ t T' : State} {L : List Loc} (h0 : st₀.heap = H) (e1 : T'.heap = t.heap) (hS : va_S A0 H0 H locs) (hA : ∀ q, q < H.size → A1 q → A0 q) (hf : ∀ q, free q → A0 q) (hL : ∀ q ∈ L, free q.base) (hF : va_F A1 st₀ t) :
    H.size ≤ T'.heap.size ∧ (∀ q : Nat, q < H.size → ¬ A1 q → T'.heap[q]? = H[q]?) ∧ va_S A0 H0 T'.heap (locs ++ L) := by
  obtain ⟨hz, hk⟩ := hF
  rw [h0] at hz hk
  exact ⟨by rw [e1]; exact hz, fun q h1 h2 => by rw [e1]; exact hk q h1 h2,
    ⟨Nat.le_trans hS.1 (by rw [e1]; exact hz), fun q h1 h2 => by rw [e1, hk q (Nat.lt_of_lt_of_le h1 hS.1) (fun z => h2 (hA q (Nat.lt_of_lt_of_le h1 hS.1) z))]; exact hS.2.1 q h1 h2, fun q hq => by
      rcases List.mem_append.mp hq with h | h
      · exact hS.2.2 q h
      · exact hf _ (hL q h)⟩⟩
theorem vx_calli {S SX : Type} {post : Int32 → S → Prop} {px : SX → Prop} {B : S → State → Prop} {BX : String → SX → State → Prop} {AX : Nat → Prop} (hr : vx_Run p l e R s m args below meth c H locs cells slots mc ms (F0 m pc ls st0) rest (va_Qi post B A1 a) (vx_X px BX AX) free) (hS : va_S A0 H0 H locs) (hA : ∀ q, q < H.size → A1 q → A0 q) (hf : ∀ q, free q → A0 q) (hAX : ∀ q, q < H.size → AX q → A0 q)
    (kx : ∀ (E : String) (ce : Cell) (q9 : Addr) (u : SX) (t : State) (H1 : Heap) (locs1 : List Loc), t.heap = H1 → s.vm.Alike t.vm → px u → BX E u t → H.size ≤ H1.size → (∀ q : Nat, q < H.size → ¬ AX q → H1[q]? = H[q]?) → va_S A0 H0 H1 locs1 → H1[q9]? = some ce → ce.vm = .none → s.vm.findClass E = some ce.cls → vx_W p l e R s m args below meth c H1 locs1 (cells + mc) (slots + ms) Q (F0 m pc ls rest) q9)
    (kk : ∀ (r : Int32) (u : S) (t : State) (H1 : Heap) (locs1 : List Loc), t.heap = H1 → s.vm.Alike t.vm → post r u → B u t → H.size ≤ H1.size → (∀ q : Nat, q < H.size → ¬ A1 q → H1[q]? = H[q]?) → va_S A0 H0 H1 locs1 → W p l e R s m args below meth c H1 locs1 (cells + mc) (slots + ms) Q (F0 m (pc + 3) ls (.int r :: rest))) : W p l e R s m args below meth c H locs cells slots Q (F0 m pc ls st0) := by
  intro T hT X
  rcases hr T hT X with ⟨v, st₀, t, T', L, h0, X', hL, e1, e2, ⟨⟨r, u, hv, hp, hb⟩, hF⟩, st⟩ | ⟨q, st₀, t, T', L, E, ce, h0, X', hL, e1, e2, ⟨u, hp, hb, hF⟩, hce, hcv, hcl, st⟩
  · cases hv
    obtain ⟨k1, k2, k3⟩ := vx_keep h0 e1 hS hA hf hL hF
    obtain ⟨t2, a1, b1⟩ := kk r u t T'.heap (locs ++ L) e1.symm (by rw [← e2]; exact X'.warmed.alike) hp hb k1 k2 k3 T' rfl X'
    exact ⟨t2, st t2 a1, b1⟩
  · obtain ⟨k1, k2, k3⟩ := vx_keep h0 e1 hS hAX hf hL hF
    obtain ⟨t2, a1, b1⟩ := kx E ce q u t T'.heap (locs ++ L) e1.symm (by rw [← e2]; exact X'.warmed.alike) hp hb k1 k2 k3 (by rw [e1]; exact hce) hcv hcl T' rfl X'
    exact ⟨t2, st.trans a1, b1⟩
theorem vx_calll {S SX : Type} {post : Int64 → S → Prop} {px : SX → Prop} {B : S → State → Prop} {BX : String → SX → State → Prop} {AX : Nat → Prop} (hr : vx_Run p l e R s m args below meth c H locs cells slots mc ms (F0 m pc ls st0) rest (va_Ql post B A1 a) (vx_X px BX AX) free) (hS : va_S A0 H0 H locs) (hA : ∀ q, q < H.size → A1 q → A0 q) (hf : ∀ q, free q → A0 q) (hAX : ∀ q, q < H.size → AX q → A0 q)
    (kx : ∀ (E : String) (ce : Cell) (q9 : Addr) (u : SX) (t : State) (H1 : Heap) (locs1 : List Loc), t.heap = H1 → s.vm.Alike t.vm → px u → BX E u t → H.size ≤ H1.size → (∀ q : Nat, q < H.size → ¬ AX q → H1[q]? = H[q]?) → va_S A0 H0 H1 locs1 → H1[q9]? = some ce → ce.vm = .none → s.vm.findClass E = some ce.cls → vx_W p l e R s m args below meth c H1 locs1 (cells + mc) (slots + ms) Q (F0 m pc ls rest) q9)
    (kk : ∀ (r : Int64) (u : S) (t : State) (H1 : Heap) (locs1 : List Loc), t.heap = H1 → s.vm.Alike t.vm → post r u → B u t → H.size ≤ H1.size → (∀ q : Nat, q < H.size → ¬ A1 q → H1[q]? = H[q]?) → va_S A0 H0 H1 locs1 → W p l e R s m args below meth c H1 locs1 (cells + mc) (slots + ms) Q (F0 m (pc + 3) ls (.long r :: rest))) : W p l e R s m args below meth c H locs cells slots Q (F0 m pc ls st0) := by
  intro T hT X
  rcases hr T hT X with ⟨v, st₀, t, T', L, h0, X', hL, e1, e2, ⟨⟨r, u, hv, hp, hb⟩, hF⟩, st⟩ | ⟨q, st₀, t, T', L, E, ce, h0, X', hL, e1, e2, ⟨u, hp, hb, hF⟩, hce, hcv, hcl, st⟩
  · cases hv
    obtain ⟨k1, k2, k3⟩ := vx_keep h0 e1 hS hA hf hL hF
    obtain ⟨t2, a1, b1⟩ := kk r u t T'.heap (locs ++ L) e1.symm (by rw [← e2]; exact X'.warmed.alike) hp hb k1 k2 k3 T' rfl X'
    exact ⟨t2, st t2 a1, b1⟩
  · obtain ⟨k1, k2, k3⟩ := vx_keep h0 e1 hS hAX hf hL hF
    obtain ⟨t2, a1, b1⟩ := kx E ce q u t T'.heap (locs ++ L) e1.symm (by rw [← e2]; exact X'.warmed.alike) hp hb k1 k2 k3 (by rw [e1]; exact hce) hcv hcl T' rfl X'
    exact ⟨t2, st.trans a1, b1⟩
theorem vx_callf {S SX : Type} {post : UInt32 → S → Prop} {px : SX → Prop} {B : S → State → Prop} {BX : String → SX → State → Prop} {AX : Nat → Prop} (hr : vx_Run p l e R s m args below meth c H locs cells slots mc ms (F0 m pc ls st0) rest (va_Qf post B A1 a) (vx_X px BX AX) free) (hS : va_S A0 H0 H locs) (hA : ∀ q, q < H.size → A1 q → A0 q) (hf : ∀ q, free q → A0 q) (hAX : ∀ q, q < H.size → AX q → A0 q)
    (kx : ∀ (E : String) (ce : Cell) (q9 : Addr) (u : SX) (t : State) (H1 : Heap) (locs1 : List Loc), t.heap = H1 → s.vm.Alike t.vm → px u → BX E u t → H.size ≤ H1.size → (∀ q : Nat, q < H.size → ¬ AX q → H1[q]? = H[q]?) → va_S A0 H0 H1 locs1 → H1[q9]? = some ce → ce.vm = .none → s.vm.findClass E = some ce.cls → vx_W p l e R s m args below meth c H1 locs1 (cells + mc) (slots + ms) Q (F0 m pc ls rest) q9)
    (kk : ∀ (r : UInt32) (u : S) (t : State) (H1 : Heap) (locs1 : List Loc), t.heap = H1 → s.vm.Alike t.vm → post r u → B u t → H.size ≤ H1.size → (∀ q : Nat, q < H.size → ¬ A1 q → H1[q]? = H[q]?) → va_S A0 H0 H1 locs1 → W p l e R s m args below meth c H1 locs1 (cells + mc) (slots + ms) Q (F0 m (pc + 3) ls (.float r :: rest))) : W p l e R s m args below meth c H locs cells slots Q (F0 m pc ls st0) := by
  intro T hT X
  rcases hr T hT X with ⟨v, st₀, t, T', L, h0, X', hL, e1, e2, ⟨⟨r, u, hv, hp, hb⟩, hF⟩, st⟩ | ⟨q, st₀, t, T', L, E, ce, h0, X', hL, e1, e2, ⟨u, hp, hb, hF⟩, hce, hcv, hcl, st⟩
  · cases hv
    obtain ⟨k1, k2, k3⟩ := vx_keep h0 e1 hS hA hf hL hF
    obtain ⟨t2, a1, b1⟩ := kk r u t T'.heap (locs ++ L) e1.symm (by rw [← e2]; exact X'.warmed.alike) hp hb k1 k2 k3 T' rfl X'
    exact ⟨t2, st t2 a1, b1⟩
  · obtain ⟨k1, k2, k3⟩ := vx_keep h0 e1 hS hAX hf hL hF
    obtain ⟨t2, a1, b1⟩ := kx E ce q u t T'.heap (locs ++ L) e1.symm (by rw [← e2]; exact X'.warmed.alike) hp hb k1 k2 k3 (by rw [e1]; exact hce) hcv hcl T' rfl X'
    exact ⟨t2, st.trans a1, b1⟩
theorem vx_calld {S SX : Type} {post : UInt64 → S → Prop} {px : SX → Prop} {B : S → State → Prop} {BX : String → SX → State → Prop} {AX : Nat → Prop} (hr : vx_Run p l e R s m args below meth c H locs cells slots mc ms (F0 m pc ls st0) rest (va_Qd post B A1 a) (vx_X px BX AX) free) (hS : va_S A0 H0 H locs) (hA : ∀ q, q < H.size → A1 q → A0 q) (hf : ∀ q, free q → A0 q) (hAX : ∀ q, q < H.size → AX q → A0 q)
    (kx : ∀ (E : String) (ce : Cell) (q9 : Addr) (u : SX) (t : State) (H1 : Heap) (locs1 : List Loc), t.heap = H1 → s.vm.Alike t.vm → px u → BX E u t → H.size ≤ H1.size → (∀ q : Nat, q < H.size → ¬ AX q → H1[q]? = H[q]?) → va_S A0 H0 H1 locs1 → H1[q9]? = some ce → ce.vm = .none → s.vm.findClass E = some ce.cls → vx_W p l e R s m args below meth c H1 locs1 (cells + mc) (slots + ms) Q (F0 m pc ls rest) q9)
    (kk : ∀ (r : UInt64) (u : S) (t : State) (H1 : Heap) (locs1 : List Loc), t.heap = H1 → s.vm.Alike t.vm → post r u → B u t → H.size ≤ H1.size → (∀ q : Nat, q < H.size → ¬ A1 q → H1[q]? = H[q]?) → va_S A0 H0 H1 locs1 → W p l e R s m args below meth c H1 locs1 (cells + mc) (slots + ms) Q (F0 m (pc + 3) ls (.double r :: rest))) : W p l e R s m args below meth c H locs cells slots Q (F0 m pc ls st0) := by
  intro T hT X
  rcases hr T hT X with ⟨v, st₀, t, T', L, h0, X', hL, e1, e2, ⟨⟨r, u, hv, hp, hb⟩, hF⟩, st⟩ | ⟨q, st₀, t, T', L, E, ce, h0, X', hL, e1, e2, ⟨u, hp, hb, hF⟩, hce, hcv, hcl, st⟩
  · cases hv
    obtain ⟨k1, k2, k3⟩ := vx_keep h0 e1 hS hA hf hL hF
    obtain ⟨t2, a1, b1⟩ := kk r u t T'.heap (locs ++ L) e1.symm (by rw [← e2]; exact X'.warmed.alike) hp hb k1 k2 k3 T' rfl X'
    exact ⟨t2, st t2 a1, b1⟩
  · obtain ⟨k1, k2, k3⟩ := vx_keep h0 e1 hS hAX hf hL hF
    obtain ⟨t2, a1, b1⟩ := kx E ce q u t T'.heap (locs ++ L) e1.symm (by rw [← e2]; exact X'.warmed.alike) hp hb k1 k2 k3 (by rw [e1]; exact hce) hcv hcl T' rfl X'
    exact ⟨t2, st.trans a1, b1⟩
theorem vx_callv {S SX : Type} {post : S → Prop} {px : SX → Prop} {B : S → State → Prop} {BX : String → SX → State → Prop} {AX : Nat → Prop} (hr : vx_Run p l e R s m args below meth c H locs cells slots mc ms (F0 m pc ls st0) rest (va_Qv post B A1 a) (vx_X px BX AX) free) (hS : va_S A0 H0 H locs) (hA : ∀ q, q < H.size → A1 q → A0 q) (hf : ∀ q, free q → A0 q) (hAX : ∀ q, q < H.size → AX q → A0 q)
    (kx : ∀ (E : String) (ce : Cell) (q9 : Addr) (u : SX) (t : State) (H1 : Heap) (locs1 : List Loc), t.heap = H1 → s.vm.Alike t.vm → px u → BX E u t → H.size ≤ H1.size → (∀ q : Nat, q < H.size → ¬ AX q → H1[q]? = H[q]?) → va_S A0 H0 H1 locs1 → H1[q9]? = some ce → ce.vm = .none → s.vm.findClass E = some ce.cls → vx_W p l e R s m args below meth c H1 locs1 (cells + mc) (slots + ms) Q (F0 m pc ls rest) q9)
    (kk : ∀ (u : S) (t : State) (H1 : Heap) (locs1 : List Loc), t.heap = H1 → s.vm.Alike t.vm → post u → B u t → H.size ≤ H1.size → (∀ q : Nat, q < H.size → ¬ A1 q → H1[q]? = H[q]?) → va_S A0 H0 H1 locs1 → W p l e R s m args below meth c H1 locs1 (cells + mc) (slots + ms) Q (F0 m (pc + 3) ls (rest))) : W p l e R s m args below meth c H locs cells slots Q (F0 m pc ls st0) := by
  intro T hT X
  rcases hr T hT X with ⟨v, st₀, t, T', L, h0, X', hL, e1, e2, ⟨⟨u, hv, hp, hb⟩, hF⟩, st⟩ | ⟨q, st₀, t, T', L, E, ce, h0, X', hL, e1, e2, ⟨u, hp, hb, hF⟩, hce, hcv, hcl, st⟩
  · cases hv
    obtain ⟨k1, k2, k3⟩ := vx_keep h0 e1 hS hA hf hL hF
    obtain ⟨t2, a1, b1⟩ := kk u t T'.heap (locs ++ L) e1.symm (by rw [← e2]; exact X'.warmed.alike) hp hb k1 k2 k3 T' rfl X'
    exact ⟨t2, st t2 a1, b1⟩
  · obtain ⟨k1, k2, k3⟩ := vx_keep h0 e1 hS hAX hf hL hF
    obtain ⟨t2, a1, b1⟩ := kx E ce q u t T'.heap (locs ++ L) e1.symm (by rw [← e2]; exact X'.warmed.alike) hp hb k1 k2 k3 (by rw [e1]; exact hce) hcv hcl T' rfl X'
    exact ⟨t2, st.trans a1, b1⟩
/-- caught by the row x of this method's table; the rows ahead don't take it -/
theorem vx_catch {own name : String} {E : String} {ce : Cell} {q : Addr} (hown : s.vm.findClass own = some m.cls) (pre : List ExceptionTableEntry) (x : ExceptionTableEntry) (suf : List ExceptionTableEntry) (hsplit : c.exceptionTable.toList = pre ++ x :: suf)
    (hpass : ∀ z ∈ pre, covers z pc = false ∨ (z.catchType ≠ 0 ∧ ∃ nm : String, (Cond.classLink own z.catchType nm).before args s = true ∧ va_Nc E nm s)) (hx : covers x pc = true) (h0 : x.catchType ≠ 0)
    (hlink : (Cond.classLink own x.catchType name).before args s = true) (hcast : (Cond.castable E name).before args s = true) (hcell : H[q]? = some ce) (hv : ce.vm = .none) (hcl : s.vm.findClass E = some ce.cls)
    (kk : W p l e R s m args below meth c H locs cells slots Q (F0 m x.handlerPc ls [.ref q])) : vx_W p l e R s m args below meth c H locs cells slots Q (F0 m pc ls rest) q := by
  intro T hT X
  have hpl : e.platform.magicAccessors = ({} : Platform).magicAccessors := by rw [X.admits.platform]
  obtain ⟨c3, c4, hc3, hc4, hasg⟩ := Cond.castable_spec hcast
  cases Option.some.inj (hc3.symm.trans hcl)
  obtain ⟨c5, hc5, hcl5⟩ := Cond.classLink_spec hown hlink e.platform hpl
  cases Option.some.inj (hc4.symm.trans hc5)
  obtain ⟨vm', X', st⟩ := X.thenCaughtThrough q (g := F0 m pc ls rest) rfl (Steps.refl _) (by rw [hT]; exact hcell) (by rw [hv]; rfl) (by obtain ⟨k9, h9, -⟩ := Vm.findClass_spec hcl; exact ⟨k9, h9⟩) pre x suf hsplit
    (fun z hz => by
      rcases hpass z hz with h | ⟨hz0, nm, hl1, hn1⟩
      · exact Or.inl h
      · obtain ⟨c6, hc6, hcl6⟩ := Cond.classLink_spec hown hl1 e.platform hpl
        obtain ⟨a8, b8, h1, h2, h3⟩ := hn1
        cases Option.some.inj (h1.symm.trans hcl)
        cases Option.some.inj (h2.symm.trans hc6)
        exact Or.inr ⟨hz0, _, hcl6, h3⟩) hx (Or.inr ⟨h0, c4, hcl5, hasg⟩)
  obtain ⟨t, a1, b1⟩ := kk (T.setVm vm') hT X'
  exact ⟨t, st.trans a1, b1⟩
end Rows
section Ends
variable {p : Program} {l : Launch} {e : Env} {R : Room} {s : State} {m : MethodId} {args : Array Value} {below : List Frame} {meth : Method} {c : Code} {H : Heap} {locs : List Loc} {cells slots : Nat} {Q : State → Prop}
variable {mc ms : Nat} {free : Addr → Prop} {A0 A1 : Nat → Prop} {H0 : Heap} {a : Array Value} {ls : Array Slot} {st0 rest : List Value}
variable {Qc : Array Value → State → Outcome → State → Prop} {XC : String → State → State → Prop}
/-- what a body that may throw owes at its end -/
def vx_MQ (below : List Frame) (Qc : Array Value → State → Outcome → State → Prop) (XC : String → State → State → Prop) (a : Array Value) (s : State) (mc ms : Nat) (free : Addr → Prop) : State → Prop := fun t =>
  ∃ o, t.status = .running ∧ Ended t below o ∧ vx_Q Qc XC mc ms free a s o t
theorem vx_ret {g : JFrame} {mc ms : Nat} (k : W p l e R s m args below meth c H locs cells slots (MQ below Qc args s mc ms free) g) : W p l e R s m args below meth c H locs cells slots (vx_MQ below Qc XC args s mc ms free) g := by
  intro T hT X
  obtain ⟨t, a1, o, b1, b2, b3, b4⟩ := k T hT X
  exact ⟨t, a1, o, b1, b2, Or.inl ⟨b3, b4⟩⟩
/-- not caught here: it goes on to the caller -/
theorem vx_widen {g : JFrame} {q : Addr} {k n : Nat} (h1 : cells ≤ k) (h2 : slots ≤ n) (kk : vx_W p l e R s m args below meth c H locs k n Q g q) : vx_W p l e R s m args below meth c H locs cells slots Q g q := fun T hT X => kk T hT (stand_widen X h1 h2)
theorem vx_out {pc : Nat} {E : String} {ce : Cell} {q : Addr} {mc ms : Nat} (hout : ∀ x ∈ c.exceptionTable.toList, covers x pc = false) (hlocks : meth.locks = false) (hcell : H[q]? = some ce) (hv : ce.vm = .none) (hcl : s.vm.findClass E = some ce.cls)
    (hx : ∀ t : State, t.heap = H → s.vm.Alike t.vm → XC E s t) (hf : ∀ z ∈ locs, free z.base) (hc : cells ≤ mc) (hs : slots ≤ ms) :
    vx_W p l e R s m args below meth c H locs cells slots (vx_MQ below Qc XC args s mc ms free) (F0 m pc ls rest) q := by
  intro T hT X
  obtain ⟨st1, hrun, hend, hW, hsm⟩ := X.leaveThrown q (g := F0 m pc ls rest) rfl rfl rfl hout hlocks
  have hcell9 : (T.setFrames (.throwing q :: below)).heap[q]? = some ce := by
    show T.heap[q]? = some ce
    rw [hT]; exact hcell
  exact ⟨_, st1, .threw q, hrun, hend, Or.inr ⟨q, rfl, E, ce, locs, hx _ hT hW.alike, hcell9, hv, hcl, hW, hsm.mono hc hs, hf⟩⟩
theorem vx_frame {U : State} {k n : Nat} (h : s.sameButNew ({ U with vm := s.vm } : State) locs k n) : s.heap.size ≤ U.heap.size ∧ ∀ q : Nat, q < s.heap.size → (∀ z ∈ locs, z.base ≠ q) → U.heap[q]? = s.heap[q]? := by
  obtain ⟨-, h2, -, -, -, h6⟩ := h
  refine ⟨h2, fun q hq hz => ?_⟩
  obtain ⟨c9, e1, e2, e3, e4⟩ := h6 q _ (Array.getElem?_eq_getElem hq)
  have hs : c9.slots = (s.heap[q]).slots := Array.ext_getElem? fun i => e4 i fun hm => hz _ hm rfl
  have h9 : c9 = s.heap[q] := by
    rw [hs] at e2
    exact e2
  have e5 : U.heap[q]? = some c9 := e1
  rw [e5, h9, Array.getElem?_eq_getElem hq]
/-- the words of a throw but the four that speak of the heap -/
def vx_no (w : Cond) : Bool := decide (w ≠ .isRef (.static Bundle.tN "UNASSIGNED_STACK" Bundle.steD)) && decide (w ≠ .isRef (.static Bundle.tN "SUPPRESSED_SENTINEL" Bundle.listD)) && decide (w ≠ .laysStatic Bundle.tN "UNASSIGNED_STACK" Bundle.steD) && decide (w ≠ .laysStatic Bundle.tN "SUPPRESSED_SENTINEL" Bundle.listD)
def vx_at0 (own : String) (ic : Nat) (X : String) (names : List String) : List Cond := (Bundle.ownAtoms0 own ic X names).filter vx_no
def vx_atS (own : String) (ic : Nat) (X : String) (names : List String) : List Cond := (Bundle.ownAtoms own ic X names).filter vx_no
/-- a word that the tables alone decide, or a good one -/
def vx_ot (w : Cond) : Bool := w.onTables || goodWord w
theorem vx_ot_at {args a' : Array Value} {s U : State} {w : Cond} (hW : s.WarmedH U.vm) (hvm : s.vm = U.vm) (hg : vx_ot w = true) (h : w.before args s = true) : w.before a' U = true := by
  simp only [vx_ot, Bool.or_eq_true] at hg
  rcases hg with hg | hg
  · exact va_tabs hg hvm h
  · exact word_at hW (good_of_word hg) h
/-- a list's words: the good ones out of the method's own list, the others by premises of their own -/
theorem vx_hat {args : Array Value} {s : State} {L B : List Cond} (h1 : ∀ w ∈ L.filter goodWord, w.before args s = true) (h2 : ∀ w ∈ L.filter (fun w => !goodWord w), w ∈ B) (h3 : ∀ w ∈ B, w.before args s = true) : ∀ w ∈ L, w.before args s = true := by
  intro w hw
  by_cases g : goodWord w = true
  · exact h1 w (List.mem_filter.mpr ⟨hw, g⟩)
  · refine h3 w (h2 w (List.mem_filter.mpr ⟨hw, ?_⟩))
    show (!goodWord w) = true
    cases hgw : goodWord w
    · rfl
    · exact absurd hgw g
theorem vx_c {args : Array Value} {s : State} {w : Cond} {B : List Cond} (h : w.before args s = true) (t : ∀ w ∈ B, w.before args s = true) : ∀ w' ∈ w :: B, w'.before args s = true := fun w' h' => (List.mem_cons.mp h').elim (fun e => by rw [e]; exact h) (t w')
theorem vx_n {args : Array Value} {s : State} : ∀ w ∈ ([] : List Cond), w.before args s = true := fun _ h => nomatch h
theorem vx_own {args : Array Value} {s : State} {L : List Cond} (h1 : ∀ w ∈ L.filter vx_no, w.before args s = true)
    (hU : (Cond.isRef (.static Bundle.tN "UNASSIGNED_STACK" Bundle.steD)).before args s = true) (hN : (Cond.isRef (.static Bundle.tN "SUPPRESSED_SENTINEL" Bundle.listD)).before args s = true)
    (lU : (Cond.laysStatic Bundle.tN "UNASSIGNED_STACK" Bundle.steD).before args s = true) (lN : (Cond.laysStatic Bundle.tN "SUPPRESSED_SENTINEL" Bundle.listD).before args s = true) : ∀ w ∈ L, w.before args s = true := by
  intro w hw
  by_cases e1 : w = .isRef (.static Bundle.tN "UNASSIGNED_STACK" Bundle.steD)
  · rw [e1]; exact hU
  · by_cases e2 : w = .isRef (.static Bundle.tN "SUPPRESSED_SENTINEL" Bundle.listD)
    · rw [e2]; exact hN
    · by_cases e3 : w = .laysStatic Bundle.tN "UNASSIGNED_STACK" Bundle.steD
      · rw [e3]; exact lU
      · by_cases e4 : w = .laysStatic Bundle.tN "SUPPRESSED_SENTINEL" Bundle.listD
        · rw [e4]; exact lN
        · exact h1 w (List.mem_filter.mpr ⟨hw, by unfold vx_no; rw [decide_eq_true e1, decide_eq_true e2, decide_eq_true e3, decide_eq_true e4]; rfl⟩)
/-- where a static field lies, its class's statics cell in H -/
def vx_L (C n d : String) (A : Nat → Prop) (U : State) (H : Heap) : Prop := ∃ (c : ClassId) (k : Class) (i : Nat) (f : Field) (a : Nat) (cell : Cell), U.vm.findClass C = some c ∧ U.fieldFound? C n d = some (c, k, i, f) ∧ f.isStatic = true ∧ k.statics = some a ∧ H[a]? = some cell ∧ cell.vm.isStatics = true ∧ cell.cls = c ∧ f.slot < cell.slots.size ∧ k.staticTypes[f.slot]? = some f.type ∧ ¬ A a
theorem vx_L.moved {C n d : String} {A : Nat → Prop} {u U : State} {H : Heap} (hvm : u.vm.Alike U.vm) (h : vx_L C n d A u H) : vx_L C n d A U H := by
  obtain ⟨c, k, i, f, a, cell, h1, h2, h3, h4, h5, h6, h7, h8, h9, h10⟩ := h
  obtain ⟨k', hi', he⟩ := State.fieldFound?_setVm hvm h2
  exact ⟨c, k', i, f, a, cell, by rw [hvm.findClass]; exact h1, hi', h3, by rw [he]; exact h4, h5, h6, h7, h8, by rw [he]; exact h9, h10⟩
theorem vx_L.kept {C n d : String} {A : Nat → Prop} {U : State} {H H1 : Heap} (h : vx_L C n d A U H) (hq : ∀ a : Nat, a < H.size → ¬ A a → H1[a]? = H[a]?) : vx_L C n d A U H1 := by
  obtain ⟨c, k, i, f, a, cell, h1, h2, h3, h4, h5, h6, h7, h8, h9, h10⟩ := h
  exact ⟨c, k, i, f, a, cell, h1, h2, h3, h4, by rw [hq a (Array.getElem?_eq_some_iff.mp h5).1 h10]; exact h5, h6, h7, h8, h9, h10⟩
theorem vx_L.narrow {C n d : String} {A B : Nat → Prop} {U : State} {H : Heap} (h : vx_L C n d A U H) (hAB : ∀ q, B q → A q) : vx_L C n d B U H := by
  obtain ⟨c, k, i, f, a, cell, h1, h2, h3, h4, h5, h6, h7, h8, h9, h10⟩ := h
  exact ⟨c, k, i, f, a, cell, h1, h2, h3, h4, h5, h6, h7, h8, h9, fun z => h10 (hAB _ z)⟩
theorem vx_L.word {C n d : String} {A : Nat → Prop} {s : State} {args : Array Value} (h : vx_L C n d A s s.heap) : (Cond.laysStatic C n d).before args s = true := by
  obtain ⟨c, k, i, f, a, cell, h1, h2, h3, h4, h5, h6, h7, h8, h9, -⟩ := h
  show (Cond.laysStatic C n d).holds args s none s [] = true
  exact Cond.laysStatic_of h1 h2 h3 h4 h5 h6 h7 h8 h9
/-- .. and what it holds: null or some reference -/
def vx_Zq (C n d : String) (A : Nat → Prop) (U : State) (H : Heap) : Prop := va_Zq C n d A U H ∧ vx_L C n d A U H
theorem vx_Zq.moved {C n d : String} {A : Nat → Prop} {u U : State} {H : Heap} (hvm : u.vm.Alike U.vm) (h : vx_Zq C n d A u H) : vx_Zq C n d A U H := ⟨va_Zq.moved hvm h.1, vx_L.moved hvm h.2⟩
theorem vx_Zq.kept {C n d : String} {A : Nat → Prop} {U : State} {H H1 : Heap} (h : vx_Zq C n d A U H) (hq : ∀ a : Nat, a < H.size → ¬ A a → H1[a]? = H[a]?) : vx_Zq C n d A U H1 := ⟨va_Zq.kept h.1 hq, vx_L.kept h.2 hq⟩
theorem vx_Zq.narrow {C n d : String} {A B : Nat → Prop} {U : State} {H : Heap} (h : vx_Zq C n d A U H) (hAB : ∀ q, B q → A q) : vx_Zq C n d B U H := ⟨va_Zq.narrow h.1 hAB, vx_L.narrow h.2 hAB⟩
theorem vx_Zqof {args : Array Value} {s : State} {C n d : String} {A : Nat → Prop} (hl : (Cond.laysStatic C n d).before args s = true) (hini : (Cond.initialized C).before args s = true) (h : (Cond.isRef (.static C n d)).before args s = true) (hA : ∀ a : Nat, a < s.heap.size → ¬ A a) : vx_Zq C n d A s s.heap := by
  refine ⟨va_Zqof hl hini h hA, ?_⟩
  obtain ⟨c, k, i, f, a, cell, h1, h2, h3, h4, h5, h6, h7, h8, h9⟩ := Cond.laysStatic_spec hl
  exact ⟨c, k, i, f, a, cell, h1, h2, h3, h4, h5, h6, h7, h8, h9, hA a (Array.getElem?_eq_some_iff.mp h5).1⟩
theorem vx_isRef {C n d : String} {v : Value} {A : Nat → Prop} {s : State} {args : Array Value} (h : va_Z C n d v A s s.heap) (hv : v.isRef = true) : (Cond.isRef (.static C n d)).before args s = true := by
  obtain ⟨cf, kf, fi, f, a, cell, h1, h2, h3, h4, h5, h6, h7, -⟩ := h
  have he : (Term.static C n d).eval args s none [] s = some v := by
    simp [Term.eval, State.fieldNamed?, h1, h2, h4, h5, h6, h7]
  simp only [Cond.before, Cond.holds, Cond.value, he]
  cases v <;> simp_all [Value.isRef]
theorem vx_isRefq {C n d : String} {A : Nat → Prop} {s : State} {args : Array Value} (h : va_Zq C n d A s s.heap) : (Cond.isRef (.static C n d)).before args s = true := by
  rcases h with h | ⟨t, h⟩
  · exact vx_isRef h rfl
  · exact vx_isRef h rfl
/-- the same frame, seen from here: as if the method were called anew in this heap -/
theorem vx_rebase {T : State} (X : Stand p l e R s m args below meth c T locs cells slots) {R' : Room} (hf : R'.frames ≤ R.frames) (hl : R'.locals ≤ R.locals) (hc : cells + R'.cells ≤ R.cells) (hs : slots + R'.slots ≤ R.slots) :
    Stand p l e R' ((T.setVm s.vm).setFrames (.invoking m args :: below)) m args below meth c T [] 0 0 := by
  have htop : (T.setVm s.vm).topJava?.isSome := X.here.top
  have hF : ((T.setVm s.vm).setFrames (.invoking m args :: below)).frames = .invoking m args :: below := State.frames_setFrames _ (State.cur_lt_of_top htop)
  obtain ⟨g₀, hg0⟩ := Option.isSome_iff_exists.mp htop
  obtain ⟨r, hr⟩ := State.topJava?_eq_some.mp hg0
  have hl9 : e.platform.stackLimits (T.setVm s.vm).me = e.platform.stackLimits s.me := X.limits
  have hb9 : (T.setVm s.vm).me.stackBytes = s.me.stackBytes := X.bytes
  refine ⟨X.admits, X.cas, X.clock, hF, ?_, X.hears, X.method, X.code, X.here, X.tail, X.warmed, ?_, ?_, ?_⟩
  · have h := X.room
    have hU : ((T.setVm s.vm).setFrames (.invoking m args :: below)).localsInUse = s.localsInUse := by
      rw [State.localsInUse_invoking hF (meth := meth) (c := c) X.method X.code, State.localsInUse_invoking X.frames X.method X.code]
    simp only [State.hasRoom, Bool.and_eq_true, decide_eq_true_eq] at h ⊢
    obtain ⟨⟨⟨⟨h1, h2, h3, h4, h5, h6⟩, h7⟩, h8⟩, h9⟩ := h
    rw [X.frames, List.length_cons] at h2 h3
    have q1 := X.heapSize
    have q2 := X.used
    simp only [hF, hU, List.length_cons, State.stackLimits_setFrames, State.stackBytes_setFrames, hl9, hb9]
    refine ⟨⟨⟨⟨by omega, by omega, by omega, by omega, by omega, h6⟩, ?_⟩, ?_⟩, X.book⟩
    · show T.heap.size + R'.cells ≤ e.platform.maxCells
      omega
    · show T.slotsUsed + R'.slots ≤ e.platform.maxSlots
      omega
  · rw [State.stackLimits_setFrames]; rfl
  · rw [State.stackBytes_setFrames]; rfl
  · refine ⟨?_, Nat.le_refl _, Nat.le_refl _, ?_, ?_, fun a c9 h9 => ⟨c9, h9, rfl, rfl, fun _ _ => rfl⟩⟩
    · obtain ⟨t, ht, -⟩ := State.frames_cons hr
      show T.setVm s.vm = { ((T.setVm s.vm).setFrames (.invoking m args :: below)).setFrames (T.setVm s.vm).frames with heap := T.heap, slotsUsed := T.slotsUsed }
      rw [State.setFrames_setFrames, State.setFrames_self ht]
      rfl
    · show T.slotsUsed = T.slotsUsed + ((T.heap.toList.drop T.heap.size).map (·.slots.size)).sum
      rw [List.drop_eq_nil_of_le (Nat.le_of_eq Array.length_toList)]
      rfl
    · show ((T.heap.toList.drop T.heap.size).map (·.slots.size)).sum ≤ 0
      rw [List.drop_eq_nil_of_le (Nat.le_of_eq Array.length_toList)]
      exact Nat.le_refl _
/-- 'throw new E()': new; dup; invokespecial; athrow -/
theorem vx_throw0 {cc : ByteArray} {pc : Nat} (hexec : p.tables.exec = Jvm.exec) (hb : c.code = cc) (hl : l.stackTraces = false) {own cls : String} {names : List String} {ik ic mc ms : Nat} {A : Nat → Prop}
    (hown : s.vm.findClass own = some m.cls) (hcls : Bundle.fit cls = true) (hnames : ∀ n ∈ names, Bundle.fit n = true)
    (hk : (Cond.classLink own ik cls).before args s = true) (hini : (Cond.initialized cls).before args s = true) (hat : ∀ w ∈ vx_at0 own ic cls names, w.before args s = true)
    (hgood : ∀ w ∈ Cond.classLink own ik cls :: Cond.initialized cls :: vx_at0 own ic cls names, vx_ot w = true)
    (hU : vx_Zq Bundle.tN "UNASSIGNED_STACK" Bundle.steD A s s.heap) (hN : vx_Zq Bundle.tN "SUPPRESSED_SENTINEL" Bundle.listD A s s.heap) (hS : va_S A s.heap H locs) (hsize : ls.size = c.maxLocals)
    (d0 : decode cc pc = .ok (.new ik, 3)) (d3 : decode cc (pc + 3) = .ok (.dup, 1)) (d4 : decode cc (pc + 4) = .ok (.invokespecial ic, 3)) (d7 : decode cc (pc + 7) = .ok (.athrow, 1))
    (hout : ∀ x ∈ c.exceptionTable.toList, covers x (pc + 7) = false)
    (hRframes : names.length + 3 < R.frames) (hRlocals : (rest.map fun v => v.category).sum + (13 * (names.length + 1) + 42) ≤ R.locals) (hRcells : cells + 1 ≤ R.cells) (hRslots : slots + 6 ≤ R.slots) (hlocks : meth.locks = false)
    (hx : ∀ t : State, s.vm.Alike t.vm → H.size ≤ t.heap.size → (∀ q : Nat, q < H.size → t.heap[q]? = H[q]?) → XC cls s t)
    (hf : ∀ z ∈ locs, free z.base) (hc : cells + 1 ≤ mc) (hs : slots + 6 ≤ ms) :
    W p l e R s m args below meth c H locs cells slots (vx_MQ below Qc XC args s mc ms free) (F0 m pc ls rest) := by
  intro T hT X
  have htr : e.platform.stackTraces = false := (show e.platform.stackTraces = l.stackTraces by rw [X.admits.platform]).trans hl
  have Y := vx_rebase X (R' := { frames := R.frames, locals := R.locals, cells := 1, slots := 6 }) (Nat.le_refl _) (Nat.le_refl _) hRcells hRslots
  obtain ⟨s', hA⟩ : ∃ z, z = (T.setVm s.vm).setFrames (.invoking m args :: below) := ⟨_, rfl⟩
  rw [← hA] at Y
  have hvm : s'.vm = s.vm := by rw [hA]; rfl
  have hhp : s'.heap = H := by rw [hA]; exact hT
  have hW0 : s.WarmedH s'.vm := by rw [hvm]; exact State.WarmedH.refl s
  have hat' : ∀ w ∈ vx_at0 own ic cls names, w.before args s' = true := fun w hw => vx_ot_at hW0 hvm.symm (hgood w (List.mem_cons_of_mem _ (List.mem_cons_of_mem _ hw))) (hat w hw)
  have hk' : (Cond.classLink own ik cls).before args s' = true := vx_ot_at hW0 hvm.symm (hgood _ List.mem_cons_self) hk
  have hini' : (Cond.initialized cls).before args s' = true := vx_ot_at hW0 hvm.symm (hgood _ (List.mem_cons_of_mem _ List.mem_cons_self)) hini
  have hU' : vx_Zq Bundle.tN "UNASSIGNED_STACK" Bundle.steD A s' s'.heap := by rw [hhp]; exact vx_Zq.moved hW0.alike (hU.kept hS.2.1)
  have hN' : vx_Zq Bundle.tN "SUPPRESSED_SENTINEL" Bundle.listD A s' s'.heap := by rw [hhp]; exact vx_Zq.moved hW0.alike (hN.kept hS.2.1)
  have h : ∀ w ∈ Bundle.ownAtoms0 own ic cls names, w.before args s' = true := vx_own hat' (vx_isRefq hU'.1) (vx_isRefq hN'.1) hU'.2.word hN'.2.word
  have hown' : s'.vm.findClass own = some m.cls := by rw [hvm]; exact hown
  have hins : (Cond.instantiable cls 6).before args s' = true := h _ (by simp [Bundle.ownAtoms0])
  obtain ⟨vm₁, cX, kX, hfX, hkX, -, -, X₁, st1⟩ := Y.newCold hexec (own := own) (C := cls) (index := ik) (n := 6) hown' hk' hins hini'
    (g := F0 m pc ls rest) rfl (by rw [hb]; exact d0) (Nat.le_refl _) (Nat.le_refl _)
  generalize hT1 : (T.setVm vm₁).pushCell { cls := cX, slots := kX.instanceTypes.map defaultValue, vm := .none } = T1 at X₁ st1
  have hcat : (Value.ref T.heap.size).category = 1 := rfl
  have hcellA : T1.heap[T.heap.size]? = some (freshCell cX kX) := by rw [← hT1]; exact State.heap_pushCell_size _ _
  have d3' : decode c.code (pc + 3) = .ok (.dup, 1) := by rw [hb]; exact d3
  obtain ⟨U, hsteps, hrun, hend, hW, hsame, ce, hce, hO⟩ := X₁.ctorThrow0 hexec htr (own := own) (cls := cls) (names := names) (ic := ic) hown' hcls hnames h (fun x hx => nomatch hx) hfX hkX hcellA (by rw [hhp, hT]; exact Nat.le_refl _)
    (g := { method := m, pc := pc + 4, locals := ls, stack := .ref T.heap.size :: .ref T.heap.size :: rest, locked := none }) rfl hsize rfl rfl (rest := rest) rfl
    (by rw [hb]; exact d4) (by rw [hb]; exact d7) hout hRframes (by simp only [List.map_cons, List.sum_cons, hcat]; omega) hlocks
  obtain ⟨f1, f2⟩ := vx_frame hsame
  rw [hhp] at f1 f2
  have hWs : s.WarmedH U.vm := State.WarmedH.trans hW0 hW
  have hcl : s.vm.findClass cls = some ce.cls := by
    have h9 := hO.cls
    rw [hvm] at h9
    exact h9
  have hall : s.sameButNew ({ U with vm := s.vm } : State) locs mc ms := by
    subst hA
    obtain ⟨e1, e2⟩ := hsame
    rw [State.setFrames_setFrames] at e1
    have h2 : (T.setVm s.vm).sameButNew ({ U with vm := s.vm } : State) [] (0 + 1) (0 + 6) := ⟨e1, e2⟩
    have h3 := X.same.trans h2
    rw [List.append_nil] at h3
    exact h3.mono hc hs
  refine ⟨U, ?_, .threw T.heap.size, hrun, hend, Or.inr ⟨T.heap.size, rfl, cls, ce, locs, hx U hWs.alike f1 (fun q hq => f2 q hq (fun z hz => nomatch hz)), hce, hO.vm, hcl, hWs, hall, hf⟩⟩
  refine st1 _ ?_
  show Steps p.tables e below (T1.setTop { method := m, pc := pc + 3, locals := ls, stack := .ref T.heap.size :: rest, locked := none }) _
  jvm_step X₁.here [X₁.here.top, hexec, d3', Value.category]
  exact hsteps
/-- 'throw new E("text")': new; dup; ldc; invokespecial; athrow -/
theorem vx_throwS {cc : ByteArray} {pc : Nat} (hexec : p.tables.exec = Jvm.exec) (hb : c.code = cc) (hl : l.stackTraces = false) {own cls text : String} {names : List String} {ik is ic mc ms sa : Nat} {A : Nat → Prop}
    (hown : s.vm.findClass own = some m.cls) (hcls : Bundle.fit cls = true) (hnames : ∀ n ∈ names, Bundle.fit n = true)
    (hk : (Cond.classLink own ik cls).before args s = true) (hini : (Cond.initialized cls).before args s = true) (hstr : vk_R own is text sa s) (hat : ∀ w ∈ vx_atS own ic cls names, w.before args s = true)
    (hgood : ∀ w ∈ Cond.classLink own ik cls :: Cond.initialized cls :: vx_atS own ic cls names, vx_ot w = true)
    (hU : vx_Zq Bundle.tN "UNASSIGNED_STACK" Bundle.steD A s s.heap) (hN : vx_Zq Bundle.tN "SUPPRESSED_SENTINEL" Bundle.listD A s s.heap) (hS : va_S A s.heap H locs) (hsize : ls.size = c.maxLocals)
    (d0 : decode cc pc = .ok (.new ik, 3)) (d3 : decode cc (pc + 3) = .ok (.dup, 1)) (d4 : decode cc (pc + 4) = .ok (.ldc is, 2)) (d6 : decode cc (pc + 6) = .ok (.invokespecial ic, 3)) (d9 : decode cc (pc + 9) = .ok (.athrow, 1))
    (hout : ∀ x ∈ c.exceptionTable.toList, covers x (pc + 9) = false)
    (hRframes : names.length + 3 < R.frames) (hRlocals : (rest.map fun v => v.category).sum + (13 * (names.length + 1) + 43) ≤ R.locals) (hRcells : cells + 1 ≤ R.cells) (hRslots : slots + 6 ≤ R.slots) (hlocks : meth.locks = false)
    (hx : ∀ t : State, s.vm.Alike t.vm → H.size ≤ t.heap.size → (∀ q : Nat, q < H.size → t.heap[q]? = H[q]?) → XC cls s t)
    (hf : ∀ z ∈ locs, free z.base) (hc : cells + 1 ≤ mc) (hs : slots + 6 ≤ ms) :
    W p l e R s m args below meth c H locs cells slots (vx_MQ below Qc XC args s mc ms free) (F0 m pc ls rest) := by
  intro T hT X
  have htr : e.platform.stackTraces = false := (show e.platform.stackTraces = l.stackTraces by rw [X.admits.platform]).trans hl
  have Y := vx_rebase X (R' := { frames := R.frames, locals := R.locals, cells := 1, slots := 6 }) (Nat.le_refl _) (Nat.le_refl _) hRcells hRslots
  obtain ⟨s', hA⟩ : ∃ z, z = (T.setVm s.vm).setFrames (.invoking m args :: below) := ⟨_, rfl⟩
  rw [← hA] at Y
  have hvm : s'.vm = s.vm := by rw [hA]; rfl
  have hhp : s'.heap = H := by rw [hA]; exact hT
  have hW0 : s.WarmedH s'.vm := by rw [hvm]; exact State.WarmedH.refl s
  have hat' : ∀ w ∈ vx_atS own ic cls names, w.before args s' = true := fun w hw => vx_ot_at hW0 hvm.symm (hgood w (List.mem_cons_of_mem _ (List.mem_cons_of_mem _ hw))) (hat w hw)
  have hk' : (Cond.classLink own ik cls).before args s' = true := vx_ot_at hW0 hvm.symm (hgood _ List.mem_cons_self) hk
  have hini' : (Cond.initialized cls).before args s' = true := vx_ot_at hW0 hvm.symm (hgood _ (List.mem_cons_of_mem _ List.mem_cons_self)) hini
  have hU' : vx_Zq Bundle.tN "UNASSIGNED_STACK" Bundle.steD A s' s'.heap := by rw [hhp]; exact vx_Zq.moved hW0.alike (hU.kept hS.2.1)
  have hN' : vx_Zq Bundle.tN "SUPPRESSED_SENTINEL" Bundle.listD A s' s'.heap := by rw [hhp]; exact vx_Zq.moved hW0.alike (hN.kept hS.2.1)
  have h : ∀ w ∈ Bundle.ownAtoms own ic cls names, w.before args s' = true := vx_own hat' (vx_isRefq hU'.1) (vx_isRefq hN'.1) hU'.2.word hN'.2.word
  have hown' : s'.vm.findClass own = some m.cls := by rw [hvm]; exact hown
  have hins : (Cond.instantiable cls 6).before args s' = true := h _ (by simp [Bundle.ownAtoms])
  obtain ⟨vm₁, cX, kX, hfX, hkX, -, -, X₁, st1⟩ := Y.newCold hexec (own := own) (C := cls) (index := ik) (n := 6) hown' hk' hins hini'
    (g := F0 m pc ls rest) rfl (by rw [hb]; exact d0) (Nat.le_refl _) (Nat.le_refl _)
  generalize hT1 : (T.setVm vm₁).pushCell { cls := cX, slots := kX.instanceTypes.map defaultValue, vm := .none } = T1 at X₁ st1
  have hcat : (Value.ref T.heap.size).category = 1 := rfl
  have hcellA : T1.heap[T.heap.size]? = some (freshCell cX kX) := by rw [← hT1]; exact State.heap_pushCell_size _ _
  have d3' : decode c.code (pc + 3) = .ok (.dup, 1) := by rw [hb]; exact d3
  have d4' : decode c.code (pc + 4) = .ok (.ldc is, 2) := by rw [hb]; exact d4
  have hstr' : vk_R own is text sa s' := vk_R.warm hW0 hstr
  obtain ⟨U, hsteps, hrun, hend, hW, hsame, ce, hce, hO⟩ := X₁.ctorThrowS hexec htr (own := own) (cls := cls) (names := names) (ic := ic) hown' hcls hnames h (fun x hx => nomatch hx) hfX hkX hcellA (by rw [hhp, hT]; exact Nat.le_refl _) (msg := .ref sa) rfl
    (g := { method := m, pc := pc + 6, locals := ls, stack := .ref sa :: .ref T.heap.size :: .ref T.heap.size :: rest, locked := none }) rfl hsize rfl rfl (rest := rest) rfl
    (by rw [hb]; exact d6) (by rw [hb]; exact d9) hout hRframes (by simp only [List.map_cons, List.sum_cons, hcat]; omega) hlocks
  obtain ⟨f1, f2⟩ := vx_frame hsame
  rw [hhp] at f1 f2
  have hWs : s.WarmedH U.vm := State.WarmedH.trans hW0 hW
  have hcl : s.vm.findClass cls = some ce.cls := by
    have h9 := hO.cls
    rw [hvm] at h9
    exact h9
  have hall : s.sameButNew ({ U with vm := s.vm } : State) locs mc ms := by
    subst hA
    obtain ⟨e1, e2⟩ := hsame
    rw [State.setFrames_setFrames] at e1
    have h2 : (T.setVm s.vm).sameButNew ({ U with vm := s.vm } : State) [] (0 + 1) (0 + 6) := ⟨e1, e2⟩
    have h3 := X.same.trans h2
    rw [List.append_nil] at h3
    exact h3.mono hc hs
  refine ⟨U, ?_, .threw T.heap.size, hrun, hend, Or.inr ⟨T.heap.size, rfl, cls, ce, locs, hx U hWs.alike f1 (fun q hq => f2 q hq (fun z hz => nomatch hz)), hce, hO.vm, hcl, hWs, hall, hf⟩⟩
  refine st1 _ ?_
  show Steps p.tables e below (T1.setTop { method := m, pc := pc + 3, locals := ls, stack := .ref T.heap.size :: rest, locked := none }) _
  jvm_step X₁.here [X₁.here.top, hexec, d3', Value.category]
  exact X₁.ldcString hexec (own := own) (text := text) (index := is) (a := sa) hown' hstr'.1 hstr'.2
    (g := { method := m, pc := pc + 4, locals := ls, stack := .ref T.heap.size :: .ref T.heap.size :: rest, locked := none }) rfl d4' _ hsteps
/-- 'throw new E("text")', the text by a wide index -/
theorem vx_throwSW {cc : ByteArray} {pc : Nat} (hexec : p.tables.exec = Jvm.exec) (hb : c.code = cc) (hl : l.stackTraces = false) {own cls text : String} {names : List String} {ik is ic mc ms sa : Nat} {A : Nat → Prop}
    (hown : s.vm.findClass own = some m.cls) (hcls : Bundle.fit cls = true) (hnames : ∀ n ∈ names, Bundle.fit n = true)
    (hk : (Cond.classLink own ik cls).before args s = true) (hini : (Cond.initialized cls).before args s = true) (hstr : vk_R own is text sa s) (hat : ∀ w ∈ vx_atS own ic cls names, w.before args s = true)
    (hgood : ∀ w ∈ Cond.classLink own ik cls :: Cond.initialized cls :: vx_atS own ic cls names, vx_ot w = true)
    (hU : vx_Zq Bundle.tN "UNASSIGNED_STACK" Bundle.steD A s s.heap) (hN : vx_Zq Bundle.tN "SUPPRESSED_SENTINEL" Bundle.listD A s s.heap) (hS : va_S A s.heap H locs) (hsize : ls.size = c.maxLocals)
    (d0 : decode cc pc = .ok (.new ik, 3)) (d3 : decode cc (pc + 3) = .ok (.dup, 1)) (d4 : decode cc (pc + 4) = .ok (.ldc_w is, 3)) (d7 : decode cc (pc + 7) = .ok (.invokespecial ic, 3)) (d10 : decode cc (pc + 10) = .ok (.athrow, 1))
    (hout : ∀ x ∈ c.exceptionTable.toList, covers x (pc + 10) = false)
    (hRframes : names.length + 3 < R.frames) (hRlocals : (rest.map fun v => v.category).sum + (13 * (names.length + 1) + 43) ≤ R.locals) (hRcells : cells + 1 ≤ R.cells) (hRslots : slots + 6 ≤ R.slots) (hlocks : meth.locks = false)
    (hx : ∀ t : State, s.vm.Alike t.vm → H.size ≤ t.heap.size → (∀ q : Nat, q < H.size → t.heap[q]? = H[q]?) → XC cls s t)
    (hf : ∀ z ∈ locs, free z.base) (hc : cells + 1 ≤ mc) (hs : slots + 6 ≤ ms) :
    W p l e R s m args below meth c H locs cells slots (vx_MQ below Qc XC args s mc ms free) (F0 m pc ls rest) := by
  intro T hT X
  have htr : e.platform.stackTraces = false := (show e.platform.stackTraces = l.stackTraces by rw [X.admits.platform]).trans hl
  have Y := vx_rebase X (R' := { frames := R.frames, locals := R.locals, cells := 1, slots := 6 }) (Nat.le_refl _) (Nat.le_refl _) hRcells hRslots
  obtain ⟨s', hA⟩ : ∃ z, z = (T.setVm s.vm).setFrames (.invoking m args :: below) := ⟨_, rfl⟩
  rw [← hA] at Y
  have hvm : s'.vm = s.vm := by rw [hA]; rfl
  have hhp : s'.heap = H := by rw [hA]; exact hT
  have hW0 : s.WarmedH s'.vm := by rw [hvm]; exact State.WarmedH.refl s
  have hat' : ∀ w ∈ vx_atS own ic cls names, w.before args s' = true := fun w hw => vx_ot_at hW0 hvm.symm (hgood w (List.mem_cons_of_mem _ (List.mem_cons_of_mem _ hw))) (hat w hw)
  have hk' : (Cond.classLink own ik cls).before args s' = true := vx_ot_at hW0 hvm.symm (hgood _ List.mem_cons_self) hk
  have hini' : (Cond.initialized cls).before args s' = true := vx_ot_at hW0 hvm.symm (hgood _ (List.mem_cons_of_mem _ List.mem_cons_self)) hini
  have hU' : vx_Zq Bundle.tN "UNASSIGNED_STACK" Bundle.steD A s' s'.heap := by rw [hhp]; exact vx_Zq.moved hW0.alike (hU.kept hS.2.1)
  have hN' : vx_Zq Bundle.tN "SUPPRESSED_SENTINEL" Bundle.listD A s' s'.heap := by rw [hhp]; exact vx_Zq.moved hW0.alike (hN.kept hS.2.1)
  have h : ∀ w ∈ Bundle.ownAtoms own ic cls names, w.before args s' = true := vx_own hat' (vx_isRefq hU'.1) (vx_isRefq hN'.1) hU'.2.word hN'.2.word
  have hown' : s'.vm.findClass own = some m.cls := by rw [hvm]; exact hown
  have hins : (Cond.instantiable cls 6).before args s' = true := h _ (by simp [Bundle.ownAtoms])
  obtain ⟨vm₁, cX, kX, hfX, hkX, -, -, X₁, st1⟩ := Y.newCold hexec (own := own) (C := cls) (index := ik) (n := 6) hown' hk' hins hini'
    (g := F0 m pc ls rest) rfl (by rw [hb]; exact d0) (Nat.le_refl _) (Nat.le_refl _)
  generalize hT1 : (T.setVm vm₁).pushCell { cls := cX, slots := kX.instanceTypes.map defaultValue, vm := .none } = T1 at X₁ st1
  have hcat : (Value.ref T.heap.size).category = 1 := rfl
  have hcellA : T1.heap[T.heap.size]? = some (freshCell cX kX) := by rw [← hT1]; exact State.heap_pushCell_size _ _
  have d3' : decode c.code (pc + 3) = .ok (.dup, 1) := by rw [hb]; exact d3
  have d4' : decode c.code (pc + 4) = .ok (.ldc_w is, 3) := by rw [hb]; exact d4
  have hstr' : vk_R own is text sa s' := vk_R.warm hW0 hstr
  obtain ⟨U, hsteps, hrun, hend, hW, hsame, ce, hce, hO⟩ := X₁.ctorThrowS hexec htr (own := own) (cls := cls) (names := names) (ic := ic) hown' hcls hnames h (fun x hx => nomatch hx) hfX hkX hcellA (by rw [hhp, hT]; exact Nat.le_refl _) (msg := .ref sa) rfl
    (g := { method := m, pc := pc + 7, locals := ls, stack := .ref sa :: .ref T.heap.size :: .ref T.heap.size :: rest, locked := none }) rfl hsize rfl rfl (rest := rest) rfl
    (by rw [hb]; exact d7) (by rw [hb]; exact d10) hout hRframes (by simp only [List.map_cons, List.sum_cons, hcat]; omega) hlocks
  obtain ⟨f1, f2⟩ := vx_frame hsame
  rw [hhp] at f1 f2
  have hWs : s.WarmedH U.vm := State.WarmedH.trans hW0 hW
  have hcl : s.vm.findClass cls = some ce.cls := by
    have h9 := hO.cls
    rw [hvm] at h9
    exact h9
  have hall : s.sameButNew ({ U with vm := s.vm } : State) locs mc ms := by
    subst hA
    obtain ⟨e1, e2⟩ := hsame
    rw [State.setFrames_setFrames] at e1
    have h2 : (T.setVm s.vm).sameButNew ({ U with vm := s.vm } : State) [] (0 + 1) (0 + 6) := ⟨e1, e2⟩
    have h3 := X.same.trans h2
    rw [List.append_nil] at h3
    exact h3.mono hc hs
  refine ⟨U, ?_, .threw T.heap.size, hrun, hend, Or.inr ⟨T.heap.size, rfl, cls, ce, locs, hx U hWs.alike f1 (fun q hq => f2 q hq (fun z hz => nomatch hz)), hce, hO.vm, hcl, hWs, hall, hf⟩⟩
  refine st1 _ ?_
  show Steps p.tables e below (T1.setTop { method := m, pc := pc + 3, locals := ls, stack := .ref T.heap.size :: rest, locked := none }) _
  jvm_step X₁.here [X₁.here.top, hexec, d3', Value.category]
  exact X₁.ldcStringW hexec (own := own) (text := text) (index := is) (a := sa) hown' hstr'.1 hstr'.2
    (g := { method := m, pc := pc + 4, locals := ls, stack := .ref T.heap.size :: .ref T.heap.size :: rest, locked := none }) rfl d4' _ hsteps
end Ends
section Bodies
variable {l : Launch}
theorem vx_ofW {y : MethodName} {ws ws' : List Cond} {rm : Room} {Pc : Array Value → State → Prop} {Qc : Array Value → State → Outcome → State → Prop} {XC : String → State → State → Prop} {mc ms : Nat} {free : Addr → Prop} {cc : ByteArray} {maxL : Nat} {ret : Option FieldType}
    (hy : plainName y.cls = true) (hw : ws = Cond.code y cc maxL ret :: ws')
    (body : ∀ p e s m args below meth c s₁, BodyLoose p l y (headSpec ws rm) cc maxL ret e s m args below meth c s₁ → c.maxLocals = maxL → (∀ x ∈ c.exceptionTable.toList, False) → Pc args s →
      W p l e (headSpec ws rm).room s m args below meth c s.heap [] 0 0 (vx_MQ below Qc XC args s mc ms free) (entryFrame m args maxL)) : vx_Met l y ws rm Pc Qc XC mc ms free := by
  refine MetFree.of_bodyS (code := cc) (maxLocals := maxL) (ret := ret) hy ?_ ?_
  · intro args s m h hn
    obtain ⟨meth, c, h1, h2, h3, h4, h5, h6, -, -⟩ := Cond.code_spec hn (atoms_spec (ws := ws) h _ (by rw [hw]; exact List.mem_cons_self))
    exact ⟨meth, c, h1, h2, h3, h4, h5, h6⟩
  · intro p e s m args below meth c s₁ B hml hP _
    have hh0 : s₁.heap = s.heap := by rw [B.state]; rfl
    have ht : ∀ x ∈ c.exceptionTable.toList, False := by
      obtain ⟨meth9, c9, h1, h2, -, -, -, -, h7, -⟩ := Cond.code_spec B.named (atoms_spec (ws := ws) B.pre _ (by rw [hw]; exact List.mem_cons_self))
      cases Option.some.inj (h1.symm.trans B.method)
      cases Option.some.inj (h2.symm.trans (Stand.of_body B).code)
      intro x hx
      rw [Array.isEmpty_iff.mp h7] at hx
      cases hx
    obtain ⟨t, a1, o, b1, b2, b3⟩ := body p e s m args below meth c s₁ B hml ht hP s₁ hh0 (Stand.of_body B)
    exact ⟨t, o, a1, b1, b2, b3⟩
/-- the table of a body with handlers -/
theorem vx_table {p : Program} {x y : MethodName} {S : Spec} {cc bytes : ByteArray} {maxL maxL' : Nat} {ret ret' : Option FieldType} {e : Env} {s s₁ : State} {m : MethodId} {args : Array Value} {below : List Frame} {meth : Method} {c : Code} {hh : List (Nat × Nat × Nat × Nat)}
    (B : BodyLoose p l y S cc maxL ret e s m args below meth c s₁) (h : (Cond.codeWith y bytes maxL' ret' hh).before args s = true) : c.exceptionTable.toList = tableOf hh := by
  obtain ⟨m9, meth9, c9, hn9, h1, h2, -, -, h6, -⟩ := Cond.codeWith_spec h
  cases Option.some.inj (hn9.symm.trans B.named)
  cases Option.some.inj (h1.symm.trans B.method)
  cases Option.some.inj (h2.symm.trans (Stand.of_body B).code)
  rw [← h6, table_eq]
end Bodies
end VXA
/-! ===== END ===== -/
/-! ===== BEGIN a static call of a method with an exception table ===== -/
section VXS
variable {p : Program} {l : Launch} {e : Env} {R : Room} {s : State} {m : MethodId} {args : Array Value} {below : List Frame} {meth : Method} {c : Code} {T : State} {H : Heap} {locs : List Loc} {cells slots : Nat}
abbrev vx_CSW (R : Room) (s : State) (args : Array Value) (own : String) (index : Nat) (y : MethodName) (bytes : ByteArray) (maxL : Nat) (ret : Option FieldType) (hh : List (Nat × Nat × Nat × Nat)) (ws : List Cond) (rm : Room) (mc ms n : Nat) : Prop :=
  (rm.cells = mc ∧ rm.slots = ms ∧ rm.frames + 1 ≤ R.frames ∧ 8 + (maxL + 11) + rm.locals ≤ R.locals ∧ (∀ w ∈ ws, ∀ (a' : Array Value) (U : State), s.WarmedH U.vm → w.before a' U = true) ∧ Cond.codeWith y bytes maxL ret hh ∈ ws) ∧
  (Cond.codeWith y bytes maxL ret hh).before args s = true ∧ (Cond.initialized y.cls).before args s = true ∧ (y.cls ≠ "java/lang/invoke/MethodHandle" ∧ y.cls ≠ "java/lang/invoke/VarHandle") ∧
  (∀ sig, parseMethodDescriptor y.desc = some sig → n = sig.parameters.length) ∧ (Cond.methodLink own index y).before args s = true ∧ (Cond.static y).before args s = true
theorem vx_cwSW {own : String} {index maxL mc ms : Nat} {y : MethodName} {bytes : ByteArray} {ret : Option FieldType} {hh : List (Nat × Nat × Nat × Nat)} {Ts ws ws' : List Cond} {rm : Room} (n : Nat) (ht : ∀ w ∈ Ts, w.before args s = true) (hT : GoodIn Ts (va_wsS own index y ws)) (hw : ws = Cond.codeWith y bytes maxL ret hh :: ws') (hrc : rm.cells = mc) (hrs : rm.slots = ms)
    (hd : y.cls ≠ "java/lang/invoke/MethodHandle" ∧ y.cls ≠ "java/lang/invoke/VarHandle" ∧ (parseMethodDescriptor y.desc).map (fun d => d.parameters.length) = some n) (hR : rm.frames + 1 ≤ R.frames ∧ 8 + (maxL + 11) + rm.locals ≤ R.locals) :
    vx_CSW R s args own index y bytes maxL ret hh ws rm mc ms n := by
  have ok : ∀ w ∈ va_wsS own index y ws, w.before args s = true := fun w h => ht w (hT w h).1
  have hG : GoodIn Ts ws := fun w h => hT w (by unfold va_wsS; exact List.mem_append_right _ h)
  have hc : Cond.codeWith y bytes maxL ret hh ∈ ws := by rw [hw]; exact List.mem_cons_self
  refine ⟨⟨hrc, hrs, hR.1, hR.2, pay_in ht hG, hc⟩, ht _ (hG _ hc).1, ok _ (by simp [va_wsS]), ⟨hd.1, hd.2.1⟩, fun sig h => ?_, ok _ (by simp [va_wsS]), ok _ (by simp [va_wsS])⟩
  have h2 := hd.2.2
  rw [h] at h2
  exact (Option.some.inj h2).symm
theorem vx_callSW (X : Stand p l e R s m args below meth c T locs cells slots) (hexec : p.tables.exec = Jvm.exec) {own : String} {index : Nat} {y : MethodName} {bytes : ByteArray} {maxL : Nat} {ret : Option FieldType} {hh : List (Nat × Nat × Nat × Nat)}
    (hown : s.vm.findClass own = some m.cls) (hlink : (Cond.methodLink own index y).before args s = true) (hstat : (Cond.static y).before args s = true) (hinit : (Cond.initialized y.cls).before args s = true)
    (hcode : (Cond.codeWith y bytes maxL ret hh).before args s = true) (hy : y.cls ≠ "java/lang/invoke/MethodHandle" ∧ y.cls ≠ "java/lang/invoke/VarHandle")
    {W9 : Nat} {Pre : Pt → Array Value → Prop} {Post : Pt → Array Value → Option Value → Pt → Prop} (hK : Back l R p e below s args y 3 W9 Pre Post)
    {g : JFrame} (hg : g.method = m) (hsize : g.locals.size = c.maxLocals) {argsL rest : List Value} (hlen : ∀ sig, parseMethodDescriptor y.desc = some sig → argsL.length = sig.parameters.length)
    (hstack : g.stack = argsL.reverse ++ rest) (hW : 2 * g.monitorRoom + (rest.map fun v => v.category).sum ≤ W9) (hdg : decode c.code g.pc = .ok (.invokestatic index, 3))
    (hpre : ∀ vm₁, s.WarmedH vm₁ → Pre ⟨T.setVm vm₁, locs, cells, slots⟩ argsL.toArray) :
    ∃ (v : Option Value) (vm₁ : Vm) (B : Pt), s.WarmedH vm₁ ∧ Stand p l e R s m args below meth c B.U B.locs B.cells B.slots ∧ Post ⟨T.setVm vm₁, locs, cells, slots⟩ argsL.toArray v B ∧
      ∀ target, Steps p.tables e below (B.U.setTop { g with pc := g.pc + 3, stack := v.toList ++ rest }) target → Steps p.tables e below (T.setTop g) target := by
  obtain ⟨mk, methM, cM, hnamed, hmethM, -, -, -, -, -, -, hsigM⟩ := Cond.codeWith_spec hcode
  have hstatic : methM.isStatic = true := Cond.static_spec hnamed hmethM hstat
  obtain ⟨kP, hkP, -⟩ := className_of_methodNamed hnamed
  have hinitP : kP.init = .initialized := Cond.initialized_spec (findClass_of_methodNamed hnamed) hkP hinit
  obtain ⟨vm₁, X₁, hstep₁⟩ := X.invokestatic hexec hown hlink hnamed hmethM hstatic hkP hinitP hy (g := g) hg (argsL := argsL) (rest := rest) (hlen _ hsigM) hstack hdg
  obtain ⟨v, B, X', hpost, hsteps⟩ := hK m meth c ⟨T.setVm vm₁, locs, cells, slots⟩ { g with stack := rest } (.invokestatic index) mk argsL.toArray X₁ hg hsize hdg hW (X₁.named hnamed) (hpre vm₁ X₁.warmed)
  exact ⟨v, vm₁, B, X₁.warmed, X', hpost, fun target h => hstep₁ _ fun acts => by rw [doInvoke_state]; exact hsteps.trans h⟩
theorem vx_runSW {y : MethodName} {bytes cc : ByteArray} {maxL nL mc ms n index : Nat} {ret : Option FieldType} {hh : List (Nat × Nat × Nat × Nat)} {ws : List Cond} {rm : Room} {Pc : Array Value → State → Prop} {Qc : Array Value → State → Outcome → State → Prop} {free : Addr → Prop} {Ts : List Cond} {own : String} {As rest : List Value} {g : JFrame}
    (S : CallFix p m c cc nL s args Ts own) (hM : Met l y ws rm Pc Qc mc ms free) (cw : vx_CSW R s args own index y bytes maxL ret hh ws rm mc ms n) (hp : PreS s H Pc As)
    (hg : g.method = m) (hn : As.length = n) (hsize : g.locals.size = nL) (hstack : g.stack = As.reverse ++ rest) (hW : 2 * g.monitorRoom + (rest.map fun v => v.category).sum ≤ 8) (hdg : decode cc g.pc = .ok (.invokestatic index, 3)) (hf : cells + mc ≤ R.cells ∧ slots + ms ≤ R.slots) :
    va_Run p l e R s m args below meth c H locs cells slots mc ms g rest (Qc As.toArray) (free) := by
  obtain ⟨⟨hrc, hrs, hfr, hlo, hws, hcw⟩, hcode, hini, hy, hlen, hl, hstt⟩ := cw
  have hK : Back l R p e below s args y 3 8 (PreOf R mc ms Pc) (PostOf Qc mc ms free) := va_backW (hh := hh) (bytes := bytes) (maxL := maxL) (ret := ret) hM hp.1 hrc hrs hfr hlo hws hcw (fun a' U hW => word_at hW (Or.inl (by first | rfl | simp [Cond.onTables, Cond.keeps, Cond.steady])) hini)
  obtain ⟨hx, hb, hml, ho, -⟩ := S
  intro T hT X
  obtain ⟨v, vm₁, ⟨U', l2, c2, s2⟩, hW₁, X', ⟨g', mk, t, L, e1, e2, hq, h1, hL, h2, h3⟩, st⟩ := vx_callSW X hx (hh := hh) (bytes := bytes) (maxL := maxL) (ret := ret) ho hl hstt hini hcode hy hK hg (hsize.trans hml.symm) (argsL := As) (rest := rest) (fun sig h => hn.trans (hlen sig h)) hstack hW (by rw [hb]; exact hdg)
    (fun vm₁ hW₁ => ⟨hf.1, hf.2, hp.2 (T.setVm vm₁) hT hW₁⟩)
  dsimp only [Pt.U, Pt.locs, Pt.cells, Pt.slots] at X' e1 e2 h1 h2 h3 st
  subst h1; subst h2; subst h3
  exact ⟨v, (T.setVm vm₁).calling g' mk As.toArray, t, U', L, hT, X', hL, e1, e2, hq, st⟩
/-- not caught here, past rows that name other classes: it goes on to the caller -/
theorem vx_outP {p : Program} {l : Launch} {e : Env} {R : Room} {s : State} {m : MethodId} {args : Array Value} {below : List Frame} {meth : Method} {c : Code} {H : Heap} {locs : List Loc} {cells slots : Nat} {free : Addr → Prop} {ls : Array Slot} {rest : List Value} {Qc : Array Value → State → Outcome → State → Prop} {XC : String → State → State → Prop}
    {pc : Nat} {own E : String} {ce : Cell} {q : Addr} {mc ms : Nat} (hown : s.vm.findClass own = some m.cls) (hlocks : meth.locks = false)
    (hpass : ∀ z ∈ c.exceptionTable.toList, covers z pc = false ∨ (z.catchType ≠ 0 ∧ ∃ nm : String, (Cond.classLink own z.catchType nm).before args s = true ∧ va_Nc E nm s)) (hcell : H[q]? = some ce) (hv : ce.vm = .none) (hcl : s.vm.findClass E = some ce.cls)
    (hx : ∀ t : State, t.heap = H → s.vm.Alike t.vm → XC E s t) (hf : ∀ z ∈ locs, free z.base) (hc : cells ≤ mc) (hs : slots ≤ ms) :
    vx_W p l e R s m args below meth c H locs cells slots (vx_MQ below Qc XC args s mc ms free) (F0 m pc ls rest) q := by
  intro T hT X
  have hpl : e.platform.magicAccessors = ({} : Platform).magicAccessors := by rw [X.admits.platform]
  obtain ⟨vm', hW', X', st⟩ := X.outThrough hlocks q (g := F0 m pc ls rest) rfl rfl rfl (cell := ce) (by rw [hT]; exact hcell) (by rw [hv]; rfl)
    (by obtain ⟨k9, h9, -⟩ := Vm.findClass_spec hcl; exact ⟨k9, h9⟩) (fun z hz => by
      rcases hpass z hz with h | ⟨hz0, nm, hl1, hn1⟩
      · exact Or.inl h
      · obtain ⟨c6, hc6, hcl6⟩ := Cond.classLink_spec hown hl1 e.platform hpl
        obtain ⟨a8, b8, h1, h2, h3⟩ := hn1
        cases Option.some.inj (h1.symm.trans hcl)
        cases Option.some.inj (h2.symm.trans hc6)
        exact Or.inr ⟨hz0, _, hcl6, h3⟩)
  obtain ⟨g₀, hfr⟩ := X'.frames_eq
  have hcell9 : ((T.setVm vm').setFrames (.throwing q :: below)).heap[q]? = some ce := by
    show T.heap[q]? = some ce
    rw [hT]; exact hcell
  have hend : Ended ((T.setVm vm').setFrames (.throwing q :: below)) below (.threw q) := State.frames_setFrames _ (State.cur_lt_of_frames hfr)
  refine ⟨(T.setVm vm').setFrames (.throwing q :: below), ?_, .threw q, X'.here.running, hend, Or.inr ⟨q, rfl, E, ce, locs, hx _ hT (X'.ends _).1.alike, hcell9, hv, hcl, (X'.ends _).1, (X'.ends _).2.mono hc hs, hf⟩⟩
  rw [X.pushThrowing_eq]
  exact st
/-- a thing of a world lies in the heap -/
theorem vx_lt {D : va_G} {cl : List vw_C} {ws : va_W} {H1 : Heap} (h : va_P D cl ws H1) {k : Nat} {q : Nat × va_E} (hk : ws[k]? = some q) : q.1 < H1.size := (h k q hk).lt
end VXS
/-! ===== END ===== -/
/-! ===== BEGIN methods with a table of their own: called by a name, returning or throwing ===== -/
section VXH
/-! vx_backW, vx_callVX, vx_callSX, vx_callVW, vx_runVW, vx_runVX, vx_runSX, vx_ofWH follow the same proofs as their sisters above (Free/Laws.lean, Shelf42/LK1.lean); vx_outP calls Shelf42/NT130.lean (outThrough). -/
section
variable {l : Launch} {R : Room} {p : Program} {e : Env} {below : List Frame} {s : State} {sargs : Array Value} {y : MethodName} {len W9 : Nat}
theorem vx_backW {ws : List Cond} {rm : Room} {Pc : Array Value → State → Prop} {Qc : Array Value → State → Outcome → State → Prop} {XC : String → State → State → Prop} {mc ms : Nat} {free : Addr → Prop} {bytes : ByteArray} {maxL : Nat} {ret : Option FieldType} {hh : List (Nat × Nat × Nat × Nat)}
    (hM : vx_Met l y ws rm Pc Qc XC mc ms free) (hblind : FrameBlind Pc) (hrc : rm.cells = mc) (hrs : rm.slots = ms)
    (hframes : rm.frames + 1 ≤ R.frames) (hlocals : W9 + (maxL + 11) + rm.locals ≤ R.locals)
    (hws : ∀ w ∈ ws, ∀ a' U, s.WarmedH U.vm → w.before a' U = true) (hcode : Cond.codeWith y bytes maxL ret hh ∈ ws) (hinit : ∀ a' U, s.WarmedH U.vm → (Cond.initialized y.cls).before a' U = true) :
    vx_Back l R p e below s sargs y len W9 (PreOf R mc ms Pc) (PostOf Qc mc ms free) (vx_Post XC mc ms free) := by
  intro m meth c A g ig mk a X hg hsize hdg hW hn hp
  have h1 : (headSpec ws rm).pre.before a A.U = true := atoms_intro fun w hw => hws w hw _ _ X.warmed
  have h2 : (Cond.codeWith y bytes maxL ret hh).before a A.U = true := hws _ hcode _ _ X.warmed
  have h3 : (Cond.initialized y.cls).before a A.U = true := hinit _ _ X.warmed
  have h4 : A.cells + (headSpec ws rm).room.cells ≤ R.cells := by rw [show (headSpec ws rm).room.cells = mc from hrc]; exact hp.1
  have h5 : A.slots + (headSpec ws rm).room.slots ≤ R.slots := by rw [show (headSpec ws rm).room.slots = ms from hrs]; exact hp.2.1
  have hPc : Pc a (A.U.calling g mk a) := hblind _ _ _ _ hp.2.2
  obtain ⟨U, Ls, c0, s0⟩ := A
  dsimp only [Pt.U, Pt.locs, Pt.cells, Pt.slots] at h1 h2 h3 h4 h5 X hn hPc ⊢
  obtain ⟨m9, methY, cY, hn9, hmY, hcY, -, hlY, -⟩ := Cond.codeWith_spec h2
  cases Option.some.inj (hn9.symm.trans hn)
  obtain ⟨kY, hkY, -⟩ := className_of_methodNamed hn
  have hinitY : kY.init = .initialized := Cond.initialized_spec (findClass_of_methodNamed hn) hkY h3
  have h : At U g.method c below := by rw [hg]; exact X.here
  have hlocals9 : W9 + (maxL + 11) + (headSpec ws rm).room.locals ≤ R.locals := hlocals
  have happ : (headSpec ws rm).appliesLoose y e.platform (U.calling g mk a) = true :=
    Spec.appliesLoose_calling (g := g) h hdg hn hkY hinitY
      (X.room_calling (g := g) (R' := (headSpec ws rm).room) hsize hmY hcY hframes (by rw [hlY]; omega) h4 h5) h1
  obtain ⟨mid, hmid⟩ := h.above
  have hfr : (U.setTop g).frames = (.java g :: mid) ++ below := by rw [State.frames_setTop' g h.top, hmid]; rfl
  obtain ⟨o, s₂, hsteps, -, hend, hq⟩ := Steps.callFree hM p X.admits X.cas X.clock (acts := []) hfr happ hPc trivial
  have hq' : vx_Q Qc XC mc ms free a (U.calling g mk a) o s₂ := hq
  rw [State.frames_setTop' g h.top] at hend
  obtain ⟨g₀, hg0⟩ := Option.isSome_iff_exists.mp h.top
  obtain ⟨r, hr⟩ := State.topJava?_eq_some.mp hg0
  have hr' : (({ U with heap := s₂.heap, slotsUsed := s₂.slotsUsed } : State).setVm s₂.vm).frames = .java g₀ :: r := hr
  rcases hq' with ⟨hqc, L, hfe, hL⟩ | ⟨q, rfl, E, ce, L, hx, hce, hcv, hcl, hW₂, hsm, hL⟩
  · obtain ⟨⟨v, rfl⟩, hW₂, e2, q2, q3, q4, q5, q6⟩ := id hfe
    have e3 : s₂ = ({ (U.calling g mk a).setFrames s₂.frames with heap := s₂.heap, slotsUsed := s₂.slotsUsed } : State).setVm s₂.vm := by
      have : s₂ = ({ s₂ with vm := (U.calling g mk a).vm } : State).setVm s₂.vm := rfl
      rw [e2] at this
      exact this
    obtain ⟨c₂, i₂, len₂, hc₂, hd₂, hf₂⟩ := hend
    have hW' : U.WarmedH s₂.vm := hW₂
    have hcc : c₂ = c := by
      have h1 : s₂.code? g.method = U.code? g.method := by
        rw [State.code?_eq, State.code?_eq, hW'.alike.method?]
      exact Option.some.inj (hc₂.symm.trans (h1.trans h.code))
    subst hcc
    have hlen : len₂ = len := by rw [hdg] at hd₂; cases hd₂; rfl
    subst hlen
    have hs₂ : s₂ = (({ U with heap := s₂.heap, slotsUsed := s₂.slotsUsed } : State).setVm s₂.vm).setTop { g with pc := g.pc + len₂, stack := v.toList ++ g.stack } := by
      refine e3.trans ?_
      rw [hf₂, State.calling_eq h.top, State.setFrames_setFrames, State.setTop_of_frames _ hr', hr]
      rfl
    have hsame : U.sameButNew ({ U with heap := s₂.heap, slotsUsed := s₂.slotsUsed } : State) L mc ms := by
      refine ⟨?_, q2, q3, q4, q5, q6⟩
      obtain ⟨t, ht, -⟩ := State.frames_cons hr
      show ({ U with heap := s₂.heap, slotsUsed := s₂.slotsUsed } : State) = { U.setFrames U.frames with heap := s₂.heap, slotsUsed := s₂.slotsUsed }
      rw [State.setFrames_self ht]
    subst hg
    refine Or.inl ⟨v, ⟨(({ U with heap := s₂.heap, slotsUsed := s₂.slotsUsed } : State).setVm s₂.vm), Ls ++ L, c0 + mc, s0 + ms⟩,
      ⟨X.admits, X.cas, X.clock, X.frames, X.room, X.hears, X.method, X.code, (X.here.setHeapUsed s₂.heap s₂.slotsUsed).setVm hW'.alike, X.tail, State.WarmedH.trans X.warmed hW', X.limits, X.bytes, X.same.trans (hsame.setVm s.vm)⟩,
      ⟨g, mk, s₂, L, rfl, rfl, hqc, rfl, hL, rfl, rfl⟩, ?_⟩
    show Steps p.tables e below _ ((({ U with heap := s₂.heap, slotsUsed := s₂.slotsUsed } : State).setVm s₂.vm).setTop { g with pc := g.pc + len₂, stack := v.toList ++ g.stack })
    rw [← hs₂]
    exact hsteps
  · obtain ⟨e2, q2, q3, q4, q5, q6⟩ := id hsm
    have e3 : s₂ = ({ (U.calling g mk a).setFrames s₂.frames with heap := s₂.heap, slotsUsed := s₂.slotsUsed } : State).setVm s₂.vm := by
      have : s₂ = ({ s₂ with vm := (U.calling g mk a).vm } : State).setVm s₂.vm := rfl
      rw [e2] at this
      exact this
    have hf₂ : s₂.frames = .throwing q :: .java g :: U.frames.tail := hend
    have hW' : U.WarmedH s₂.vm := hW₂
    have hs₂ : s₂ = ((({ U with heap := s₂.heap, slotsUsed := s₂.slotsUsed } : State).setVm s₂.vm).setTop g).pushFrame (.throwing q) := by
      refine e3.trans ?_
      rw [hf₂, State.calling_eq h.top, State.setFrames_setFrames, State.pushFrame, State.frames_setTop _ hr', State.setTop_of_frames _ hr', State.setFrames_setFrames, hr]
      rfl
    have hsame : U.sameButNew ({ U with heap := s₂.heap, slotsUsed := s₂.slotsUsed } : State) L mc ms := by
      refine ⟨?_, q2, q3, q4, q5, q6⟩
      obtain ⟨t, ht, -⟩ := State.frames_cons hr
      show ({ U with heap := s₂.heap, slotsUsed := s₂.slotsUsed } : State) = { U.setFrames U.frames with heap := s₂.heap, slotsUsed := s₂.slotsUsed }
      rw [State.setFrames_self ht]
    subst hg
    refine Or.inr ⟨q, ⟨(({ U with heap := s₂.heap, slotsUsed := s₂.slotsUsed } : State).setVm s₂.vm), Ls ++ L, c0 + mc, s0 + ms⟩,
      ⟨X.admits, X.cas, X.clock, X.frames, X.room, X.hears, X.method, X.code, (X.here.setHeapUsed s₂.heap s₂.slotsUsed).setVm hW'.alike, X.tail, State.WarmedH.trans X.warmed hW', X.limits, X.bytes, X.same.trans (hsame.setVm s.vm)⟩,
      ⟨g, mk, s₂, L, E, ce, rfl, rfl, hx, hce, hcv, hcl, rfl, hL, rfl, rfl⟩, ?_⟩
    show Steps p.tables e below _ (((({ U with heap := s₂.heap, slotsUsed := s₂.slotsUsed } : State).setVm s₂.vm).setTop g).pushFrame (.throwing q))
    rw [← hs₂]
    exact hsteps
end
variable {p : Program} {l : Launch} {e : Env} {R : Room} {s : State} {m : MethodId} {args : Array Value} {below : List Frame} {meth : Method} {c : Code} {T : State} {H : Heap} {locs : List Loc} {cells slots : Nat}
theorem vx_callVX (X : Stand p l e R s m args below meth c T locs cells slots) (hexec : p.tables.exec = Jvm.exec) {own C : String} {index : Nat} {y : MethodName} {bytes : ByteArray} {maxL : Nat} {ret : Option FieldType} {hh : List (Nat × Nat × Nat × Nat)}
    (hown : s.vm.findClass own = some m.cls) (hlink : (Cond.methodLink own index y).before args s = true) (hinst : (Cond.instanceMethod y).before args s = true) (hsel : (Cond.selects C y y).before args s = true)
    (hcode : (Cond.codeWith y bytes maxL ret hh).before args s = true) (hy : y.cls ≠ "java/lang/invoke/MethodHandle" ∧ y.cls ≠ "java/lang/invoke/VarHandle")
    {W9 : Nat} {Pre : Pt → Array Value → Prop} {Post : Pt → Array Value → Option Value → Pt → Prop} {PostX : Pt → Array Value → Addr → Pt → Prop} (hK : vx_Back l R p e below s args y 3 W9 Pre Post PostX)
    {b : Addr} {cellB : Cell} (hcell : T.heap[b]? = some cellB) (hobj : cellB.vm.isStatics = false) (hcls : s.vm.findClass C = some cellB.cls)
    {g : JFrame} (hg : g.method = m) (hsize : g.locals.size = c.maxLocals) {argsL rest : List Value} (hlen : ∀ sig, parseMethodDescriptor y.desc = some sig → argsL.length = sig.parameters.length)
    (hstack : g.stack = argsL.reverse ++ .ref b :: rest) (hW : 2 * g.monitorRoom + (rest.map fun v => v.category).sum ≤ W9) (hdg : decode c.code g.pc = .ok (.invokevirtual index, 3))
    (hpre : ∀ vm₁, s.WarmedH vm₁ → Pre ⟨T.setVm vm₁, locs, cells, slots⟩ (Value.ref b :: argsL).toArray) :
    (∃ (v : Option Value) (vm₁ : Vm) (B : Pt), s.WarmedH vm₁ ∧ Stand p l e R s m args below meth c B.U B.locs B.cells B.slots ∧ Post ⟨T.setVm vm₁, locs, cells, slots⟩ (Value.ref b :: argsL).toArray v B ∧
      ∀ target, Steps p.tables e below (B.U.setTop { g with pc := g.pc + 3, stack := v.toList ++ rest }) target → Steps p.tables e below (T.setTop g) target) ∨
    (∃ (q : Addr) (vm₁ : Vm) (B : Pt), s.WarmedH vm₁ ∧ Stand p l e R s m args below meth c B.U B.locs B.cells B.slots ∧ PostX ⟨T.setVm vm₁, locs, cells, slots⟩ (Value.ref b :: argsL).toArray q B ∧
      Steps p.tables e below (T.setTop g) ((B.U.setTop { g with stack := rest }).pushFrame (.throwing q))) := by
  obtain ⟨mk, methM, hnamed, hmethM, hstM, habM⟩ := Cond.instanceMethod_spec hinst
  obtain ⟨m8, methM', cM, hn8, hmethM', -, -, -, -, -, -, hsigM⟩ := Cond.codeWith_spec hcode
  cases Option.some.inj (hn8.symm.trans hnamed)
  cases hmethM.symm.trans hmethM'
  obtain ⟨c2, r2, m2, q1, q2, q3, q4, kP, hkP, hkPi⟩ := Cond.selects_spec hsel
  cases hcls.symm.trans q1
  cases (State.methodFound?_of_named hnamed hy).symm.trans q2
  cases hnamed.symm.trans q3
  have hselP : selectMethod e.platform s.vm cellB.cls mk = .method mk := by rw [Launch.admits_selectMethod X.admits]; exact q4
  obtain ⟨vm₁, X₁, hstep₁⟩ := X.invokevirtual hexec hown hlink hnamed hmethM hstM hkP hkPi hy (a := b) (cell := cellB) hcell
    (fun z h => by rw [h] at hobj; cases hobj) hselP hmethM habM hkP hkPi (g := g) hg (argsL := argsL) (rest := rest) (hlen _ hsigM) hstack hdg
  rcases hK m meth c ⟨T.setVm vm₁, locs, cells, slots⟩ { g with stack := rest } (.invokevirtual index) mk (Value.ref b :: argsL).toArray X₁ hg hsize hdg hW (X₁.named hnamed) (hpre vm₁ X₁.warmed) with ⟨v, B, X', hpost, hsteps⟩ | ⟨q, B, X', hpost, hsteps⟩
  · exact Or.inl ⟨v, vm₁, B, X₁.warmed, X', hpost, fun target h => hstep₁ _ fun acts => by rw [doInvoke_state]; exact hsteps.trans h⟩
  · exact Or.inr ⟨q, vm₁, B, X₁.warmed, X', hpost, hstep₁ _ fun acts => by rw [doInvoke_state]; exact hsteps⟩
theorem vx_callSX (X : Stand p l e R s m args below meth c T locs cells slots) (hexec : p.tables.exec = Jvm.exec) {own : String} {index : Nat} {y : MethodName} {bytes : ByteArray} {maxL : Nat} {ret : Option FieldType} {hh : List (Nat × Nat × Nat × Nat)}
    (hown : s.vm.findClass own = some m.cls) (hlink : (Cond.methodLink own index y).before args s = true) (hstat : (Cond.static y).before args s = true) (hinit : (Cond.initialized y.cls).before args s = true)
    (hcode : (Cond.codeWith y bytes maxL ret hh).before args s = true) (hy : y.cls ≠ "java/lang/invoke/MethodHandle" ∧ y.cls ≠ "java/lang/invoke/VarHandle")
    {W9 : Nat} {Pre : Pt → Array Value → Prop} {Post : Pt → Array Value → Option Value → Pt → Prop} {PostX : Pt → Array Value → Addr → Pt → Prop} (hK : vx_Back l R p e below s args y 3 W9 Pre Post PostX)
    {g : JFrame} (hg : g.method = m) (hsize : g.locals.size = c.maxLocals) {argsL rest : List Value} (hlen : ∀ sig, parseMethodDescriptor y.desc = some sig → argsL.length = sig.parameters.length)
    (hstack : g.stack = argsL.reverse ++ rest) (hW : 2 * g.monitorRoom + (rest.map fun v => v.category).sum ≤ W9) (hdg : decode c.code g.pc = .ok (.invokestatic index, 3))
    (hpre : ∀ vm₁, s.WarmedH vm₁ → Pre ⟨T.setVm vm₁, locs, cells, slots⟩ argsL.toArray) :
    (∃ (v : Option Value) (vm₁ : Vm) (B : Pt), s.WarmedH vm₁ ∧ Stand p l e R s m args below meth c B.U B.locs B.cells B.slots ∧ Post ⟨T.setVm vm₁, locs, cells, slots⟩ argsL.toArray v B ∧
      ∀ target, Steps p.tables e below (B.U.setTop { g with pc := g.pc + 3, stack := v.toList ++ rest }) target → Steps p.tables e below (T.setTop g) target) ∨
    (∃ (q : Addr) (vm₁ : Vm) (B : Pt), s.WarmedH vm₁ ∧ Stand p l e R s m args below meth c B.U B.locs B.cells B.slots ∧ PostX ⟨T.setVm vm₁, locs, cells, slots⟩ argsL.toArray q B ∧
      Steps p.tables e below (T.setTop g) ((B.U.setTop { g with stack := rest }).pushFrame (.throwing q))) := by
  obtain ⟨mk, methM, cM, hnamed, hmethM, -, -, -, -, -, -, hsigM⟩ := Cond.codeWith_spec hcode
  have hstatic : methM.isStatic = true := Cond.static_spec hnamed hmethM hstat
  obtain ⟨kP, hkP, -⟩ := className_of_methodNamed hnamed
  have hinitP : kP.init = .initialized := Cond.initialized_spec (findClass_of_methodNamed hnamed) hkP hinit
  obtain ⟨vm₁, X₁, hstep₁⟩ := X.invokestatic hexec hown hlink hnamed hmethM hstatic hkP hinitP hy (g := g) hg (argsL := argsL) (rest := rest) (hlen _ hsigM) hstack hdg
  rcases hK m meth c ⟨T.setVm vm₁, locs, cells, slots⟩ { g with stack := rest } (.invokestatic index) mk argsL.toArray X₁ hg hsize hdg hW (X₁.named hnamed) (hpre vm₁ X₁.warmed) with ⟨v, B, X', hpost, hsteps⟩ | ⟨q, B, X', hpost, hsteps⟩
  · exact Or.inl ⟨v, vm₁, B, X₁.warmed, X', hpost, fun target h => hstep₁ _ fun acts => by rw [doInvoke_state]; exact hsteps.trans h⟩
  · exact Or.inr ⟨q, vm₁, B, X₁.warmed, X', hpost, hstep₁ _ fun acts => by rw [doInvoke_state]; exact hsteps⟩
theorem vx_callVW (X : Stand p l e R s m args below meth c T locs cells slots) (hexec : p.tables.exec = Jvm.exec) {own C : String} {index : Nat} {y : MethodName} {bytes : ByteArray} {maxL : Nat} {ret : Option FieldType} {hh : List (Nat × Nat × Nat × Nat)}
    (hown : s.vm.findClass own = some m.cls) (hlink : (Cond.methodLink own index y).before args s = true) (hinst : (Cond.instanceMethod y).before args s = true) (hsel : (Cond.selects C y y).before args s = true)
    (hcode : (Cond.codeWith y bytes maxL ret hh).before args s = true) (hy : y.cls ≠ "java/lang/invoke/MethodHandle" ∧ y.cls ≠ "java/lang/invoke/VarHandle")
    {W9 : Nat} {Pre : Pt → Array Value → Prop} {Post : Pt → Array Value → Option Value → Pt → Prop} (hK : Back l R p e below s args y 3 W9 Pre Post)
    {b : Addr} {cellB : Cell} (hcell : T.heap[b]? = some cellB) (hobj : cellB.vm.isStatics = false) (hcls : s.vm.findClass C = some cellB.cls)
    {g : JFrame} (hg : g.method = m) (hsize : g.locals.size = c.maxLocals) {argsL rest : List Value} (hlen : ∀ sig, parseMethodDescriptor y.desc = some sig → argsL.length = sig.parameters.length)
    (hstack : g.stack = argsL.reverse ++ .ref b :: rest) (hW : 2 * g.monitorRoom + (rest.map fun v => v.category).sum ≤ W9) (hdg : decode c.code g.pc = .ok (.invokevirtual index, 3))
    (hpre : ∀ vm₁, s.WarmedH vm₁ → Pre ⟨T.setVm vm₁, locs, cells, slots⟩ (Value.ref b :: argsL).toArray) :
    ∃ (v : Option Value) (vm₁ : Vm) (B : Pt), s.WarmedH vm₁ ∧ Stand p l e R s m args below meth c B.U B.locs B.cells B.slots ∧ Post ⟨T.setVm vm₁, locs, cells, slots⟩ (Value.ref b :: argsL).toArray v B ∧
      ∀ target, Steps p.tables e below (B.U.setTop { g with pc := g.pc + 3, stack := v.toList ++ rest }) target → Steps p.tables e below (T.setTop g) target := by
  obtain ⟨mk, methM, hnamed, hmethM, hstM, habM⟩ := Cond.instanceMethod_spec hinst
  obtain ⟨m8, methM', cM, hn8, hmethM', -, -, -, -, -, -, hsigM⟩ := Cond.codeWith_spec hcode
  cases Option.some.inj (hn8.symm.trans hnamed)
  cases hmethM.symm.trans hmethM'
  obtain ⟨c2, r2, m2, q1, q2, q3, q4, kP, hkP, hkPi⟩ := Cond.selects_spec hsel
  cases hcls.symm.trans q1
  cases (State.methodFound?_of_named hnamed hy).symm.trans q2
  cases hnamed.symm.trans q3
  have hselP : selectMethod e.platform s.vm cellB.cls mk = .method mk := by rw [Launch.admits_selectMethod X.admits]; exact q4
  obtain ⟨vm₁, X₁, hstep₁⟩ := X.invokevirtual hexec hown hlink hnamed hmethM hstM hkP hkPi hy (a := b) (cell := cellB) hcell
    (fun z h => by rw [h] at hobj; cases hobj) hselP hmethM habM hkP hkPi (g := g) hg (argsL := argsL) (rest := rest) (hlen _ hsigM) hstack hdg
  obtain ⟨v, B, X', hpost, hsteps⟩ := hK m meth c ⟨T.setVm vm₁, locs, cells, slots⟩ { g with stack := rest } (.invokevirtual index) mk (Value.ref b :: argsL).toArray X₁ hg hsize hdg hW (X₁.named hnamed) (hpre vm₁ X₁.warmed)
  exact ⟨v, vm₁, B, X₁.warmed, X', hpost, fun target h => hstep₁ _ fun acts => by rw [doInvoke_state]; exact hsteps.trans h⟩
abbrev vx_CVW (R : Room) (s : State) (args : Array Value) (own C : String) (index : Nat) (y : MethodName) (bytes : ByteArray) (maxL : Nat) (ret : Option FieldType) (hh : List (Nat × Nat × Nat × Nat)) (ws : List Cond) (rm : Room) (mc ms n : Nat) : Prop :=
  (rm.cells = mc ∧ rm.slots = ms ∧ rm.frames + 1 ≤ R.frames ∧ 8 + (maxL + 11) + rm.locals ≤ R.locals ∧ (∀ w ∈ ws, ∀ (a' : Array Value) (U : State), s.WarmedH U.vm → w.before a' U = true) ∧ Cond.codeWith y bytes maxL ret hh ∈ ws) ∧
  (Cond.codeWith y bytes maxL ret hh).before args s = true ∧ (Cond.initialized y.cls).before args s = true ∧ (y.cls ≠ "java/lang/invoke/MethodHandle" ∧ y.cls ≠ "java/lang/invoke/VarHandle") ∧
  (∀ sig, parseMethodDescriptor y.desc = some sig → n = sig.parameters.length) ∧ (Cond.methodLink own index y).before args s = true ∧ (Cond.instanceMethod y).before args s = true ∧ (Cond.selects C y y).before args s = true
theorem vx_cwVW {own C : String} {index maxL mc ms : Nat} {y : MethodName} {bytes : ByteArray} {ret : Option FieldType} {hh : List (Nat × Nat × Nat × Nat)} {Ts ws ws' : List Cond} {rm : Room} (n : Nat) (ht : ∀ w ∈ Ts, w.before args s = true) (hT : GoodIn Ts (wsV own index C y ws)) (hw : ws = Cond.codeWith y bytes maxL ret hh :: ws') (hrc : rm.cells = mc) (hrs : rm.slots = ms)
    (hd : y.cls = C ∧ y.cls ≠ "java/lang/invoke/MethodHandle" ∧ y.cls ≠ "java/lang/invoke/VarHandle" ∧ (parseMethodDescriptor y.desc).map (fun d => d.parameters.length) = some n) (hR : rm.frames + 1 ≤ R.frames ∧ 8 + (maxL + 11) + rm.locals ≤ R.locals) :
    vx_CVW R s args own C index y bytes maxL ret hh ws rm mc ms n := by
  obtain ⟨hC, hd⟩ := hd
  subst hC
  have ok : ∀ w ∈ wsV own index y.cls y ws, w.before args s = true := fun w h => ht w (hT w h).1
  have hG : GoodIn Ts ws := fun w h => hT w (by unfold wsV; exact List.mem_append_right _ h)
  have hc : Cond.codeWith y bytes maxL ret hh ∈ ws := by rw [hw]; exact List.mem_cons_self
  refine ⟨⟨hrc, hrs, hR.1, hR.2, pay_in ht hG, hc⟩, ht _ (hG _ hc).1, ok _ (by simp [wsV]), ⟨hd.1, hd.2.1⟩, fun sig h => ?_, ok _ (by simp [wsV]), ok _ (by simp [wsV]), ok _ (by simp [wsV])⟩
  have h2 := hd.2.2
  rw [h] at h2
  exact (Option.some.inj h2).symm
theorem vx_runVW {y : MethodName} {bytes cc : ByteArray} {maxL nL mc ms n index : Nat} {ret : Option FieldType} {hh : List (Nat × Nat × Nat × Nat)} {ws : List Cond} {rm : Room} {Pc : Array Value → State → Prop} {Qc : Array Value → State → Outcome → State → Prop} {free : Addr → Prop} {Ts : List Cond} {own C : String} {b : Addr} {As rest : List Value} {g : JFrame}
    (S : CallFix p m c cc nL s args Ts own) (hM : Met l y ws rm Pc Qc mc ms free) (cw : vx_CVW R s args own C index y bytes maxL ret hh ws rm mc ms n) (hp : PreV s H C b Pc As)
    (hg : g.method = m) (hn : As.length = n) (hsize : g.locals.size = nL) (hstack : g.stack = As.reverse ++ .ref b :: rest) (hW : 2 * g.monitorRoom + (rest.map fun v => v.category).sum ≤ 8) (hdg : decode cc g.pc = .ok (.invokevirtual index, 3)) (hf : cells + mc ≤ R.cells ∧ slots + ms ≤ R.slots) :
    va_Run p l e R s m args below meth c H locs cells slots mc ms g rest (Qc (Value.ref b :: As).toArray) free := by
  obtain ⟨⟨hrc, hrs, hfr, hlo, hws, hcw⟩, hcode, hini, hy, hlen, hl, hin, hse⟩ := cw
  have hK : Back l R p e below s args y 3 8 (PreOf R mc ms Pc) (PostOf Qc mc ms free) := va_backW (hh := hh) (bytes := bytes) (maxL := maxL) (ret := ret) hM hp.1 hrc hrs hfr hlo hws hcw (fun a' U hW => word_at hW (Or.inl (by first | rfl | simp [Cond.onTables, Cond.keeps, Cond.steady])) hini)
  obtain ⟨hx, hb, hml, ho, -⟩ := S
  obtain ⟨-, ⟨cellB, hcB, hoB, hclB⟩, hPc⟩ := hp
  intro T hT X
  obtain ⟨v, vm₁, ⟨U', l2, c2, s2⟩, hW₁, X', ⟨g', mk, t, L, e1, e2, hq, h1, hL, h2, h3⟩, st⟩ := vx_callVW X hx (C := C) (hh := hh) (bytes := bytes) (maxL := maxL) (ret := ret) ho hl hin hse hcode hy hK (by rw [hT]; exact hcB) hoB hclB hg (hsize.trans hml.symm) (argsL := As) (rest := rest) (fun sig h => hn.trans (hlen sig h)) hstack hW (by rw [hb]; exact hdg)
    (fun vm₁ hW₁ => ⟨hf.1, hf.2, hPc (T.setVm vm₁) hT hW₁⟩)
  dsimp only [Pt.U, Pt.locs, Pt.cells, Pt.slots] at X' e1 e2 h1 h2 h3 st
  subst h1; subst h2; subst h3
  exact ⟨v, (T.setVm vm₁).calling g' mk (Value.ref b :: As).toArray, t, U', L, hT, X', hL, e1, e2, hq, st⟩
section
variable {y : MethodName} {bytes cc : ByteArray} {maxL nL mc ms n index : Nat} {ret : Option FieldType} {ws : List Cond} {rm : Room} {Pc : Array Value → State → Prop} {Qc : Array Value → State → Outcome → State → Prop} {XC : String → State → State → Prop} {free : Addr → Prop} {Ts : List Cond} {own C : String} {b : Addr} {As rest : List Value} {g : JFrame}
theorem vx_runVX {hh : List (Nat × Nat × Nat × Nat)} (S : CallFix p m c cc nL s args Ts own) (hM : vx_Met l y ws rm Pc Qc XC mc ms free) (cw : vx_CVW R s args own C index y bytes maxL ret hh ws rm mc ms n) (hp : PreV s H C b Pc As)
    (hg : g.method = m) (hn : As.length = n) (hsize : g.locals.size = nL) (hstack : g.stack = As.reverse ++ .ref b :: rest) (hW : 2 * g.monitorRoom + (rest.map fun v => v.category).sum ≤ 8) (hdg : decode cc g.pc = .ok (.invokevirtual index, 3)) (hf : cells + mc ≤ R.cells ∧ slots + ms ≤ R.slots) :
    vx_Run p l e R s m args below meth c H locs cells slots mc ms g rest (Qc (Value.ref b :: As).toArray) XC free := by
  obtain ⟨⟨hrc, hrs, hfr, hlo, hws, hcw⟩, hcode, hini, hy, hlen, hl, hin, hse⟩ := cw
  have hK : vx_Back l R p e below s args y 3 8 (PreOf R mc ms Pc) (PostOf Qc mc ms free) (vx_Post XC mc ms free) := vx_backW (hh := hh) (bytes := bytes) (maxL := maxL) (ret := ret) hM hp.1 hrc hrs hfr hlo hws hcw (fun a' U hW => word_at hW (Or.inl (by first | rfl | simp [Cond.onTables, Cond.keeps, Cond.steady])) hini)
  obtain ⟨hx, hb, hml, ho, -⟩ := S
  obtain ⟨-, ⟨cellB, hcB, hoB, hclB⟩, hPc⟩ := hp
  intro T hT X
  rcases vx_callVX X hx (C := C) (hh := hh) (bytes := bytes) (maxL := maxL) (ret := ret) ho hl hin hse hcode hy hK (by rw [hT]; exact hcB) hoB hclB hg (hsize.trans hml.symm) (argsL := As) (rest := rest) (fun sig h => hn.trans (hlen sig h)) hstack hW (by rw [hb]; exact hdg)
    (fun vm₁ hW₁ => ⟨hf.1, hf.2, hPc (T.setVm vm₁) hT hW₁⟩) with ⟨v, vm₁, ⟨U', l2, c2, s2⟩, hW₁, X', ⟨g', mk, t, L, e1, e2, hq, h1, hL, h2, h3⟩, st⟩ | ⟨q, vm₁, ⟨U', l2, c2, s2⟩, hW₁, X', ⟨g', mk, t, L, E, ce, e1, e2, hq, hce, hcv, hcl, h1, hL, h2, h3⟩, st⟩
  · dsimp only [Pt.U, Pt.locs, Pt.cells, Pt.slots] at X' e1 e2 h1 h2 h3 st
    subst h1; subst h2; subst h3
    exact Or.inl ⟨v, (T.setVm vm₁).calling g' mk (Value.ref b :: As).toArray, t, U', L, hT, X', hL, e1, e2, hq, st⟩
  · dsimp only [Pt.U, Pt.locs, Pt.cells, Pt.slots] at X' e1 e2 h1 h2 h3 st hcl
    subst h1; subst h2; subst h3
    exact Or.inr ⟨q, (T.setVm vm₁).calling g' mk (Value.ref b :: As).toArray, t, U', L, E, ce, hT, X', hL, e1, e2, hq, hce, hcv, vx_cls hW₁ hcl, st⟩
theorem vx_runSX {hh : List (Nat × Nat × Nat × Nat)} (S : CallFix p m c cc nL s args Ts own) (hM : vx_Met l y ws rm Pc Qc XC mc ms free) (cw : vx_CSW R s args own index y bytes maxL ret hh ws rm mc ms n) (hp : PreS s H Pc As)
    (hg : g.method = m) (hn : As.length = n) (hsize : g.locals.size = nL) (hstack : g.stack = As.reverse ++ rest) (hW : 2 * g.monitorRoom + (rest.map fun v => v.category).sum ≤ 8) (hdg : decode cc g.pc = .ok (.invokestatic index, 3)) (hf : cells + mc ≤ R.cells ∧ slots + ms ≤ R.slots) :
    vx_Run p l e R s m args below meth c H locs cells slots mc ms g rest (Qc As.toArray) XC free := by
  obtain ⟨⟨hrc, hrs, hfr, hlo, hws, hcw⟩, hcode, hini, hy, hlen, hl, hstt⟩ := cw
  have hK : vx_Back l R p e below s args y 3 8 (PreOf R mc ms Pc) (PostOf Qc mc ms free) (vx_Post XC mc ms free) := vx_backW (hh := hh) (bytes := bytes) (maxL := maxL) (ret := ret) hM hp.1 hrc hrs hfr hlo hws hcw (fun a' U hW => word_at hW (Or.inl (by first | rfl | simp [Cond.onTables, Cond.keeps, Cond.steady])) hini)
  obtain ⟨hx, hb, hml, ho, -⟩ := S
  intro T hT X
  rcases vx_callSX X hx (hh := hh) (bytes := bytes) (maxL := maxL) (ret := ret) ho hl hstt hini hcode hy hK hg (hsize.trans hml.symm) (argsL := As) (rest := rest) (fun sig h => hn.trans (hlen sig h)) hstack hW (by rw [hb]; exact hdg)
    (fun vm₁ hW₁ => ⟨hf.1, hf.2, hp.2 (T.setVm vm₁) hT hW₁⟩) with ⟨v, vm₁, ⟨U', l2, c2, s2⟩, hW₁, X', ⟨g', mk, t, L, e1, e2, hq, h1, hL, h2, h3⟩, st⟩ | ⟨q, vm₁, ⟨U', l2, c2, s2⟩, hW₁, X', ⟨g', mk, t, L, E, ce, e1, e2, hq, hce, hcv, hcl, h1, hL, h2, h3⟩, st⟩
  · dsimp only [Pt.U, Pt.locs, Pt.cells, Pt.slots] at X' e1 e2 h1 h2 h3 st
    subst h1; subst h2; subst h3
    exact Or.inl ⟨v, (T.setVm vm₁).calling g' mk As.toArray, t, U', L, hT, X', hL, e1, e2, hq, st⟩
  · dsimp only [Pt.U, Pt.locs, Pt.cells, Pt.slots] at X' e1 e2 h1 h2 h3 st hcl
    subst h1; subst h2; subst h3
    exact Or.inr ⟨q, (T.setVm vm₁).calling g' mk As.toArray, t, U', L, E, ce, hT, X', hL, e1, e2, hq, hce, hcv, vx_cls hW₁ hcl, st⟩
end
end VXH
theorem vx_ofWH {l : Launch} {y : MethodName} {ws ws' : List Cond} {rm : Room} {Pc : Array Value → State → Prop} {Qc : Array Value → State → Outcome → State → Prop} {XC : String → State → State → Prop} {mc ms : Nat} {free : Addr → Prop} {cc : ByteArray} {maxL : Nat} {ret : Option FieldType} {hh : List (Nat × Nat × Nat × Nat)}
    (hy : plainName y.cls = true) (hw : ws = Cond.codeWith y cc maxL ret hh :: ws')
    (body : ∀ p e s m args below meth c s₁, BodyLoose p l y (headSpec ws rm) cc maxL ret e s m args below meth c s₁ → c.maxLocals = maxL → Pc args s →
      W p l e (headSpec ws rm).room s m args below meth c s.heap [] 0 0 (vx_MQ below Qc XC args s mc ms free) (entryFrame m args maxL)) : vx_Met l y ws rm Pc Qc XC mc ms free := by
  refine MetFree.of_bodyS (code := cc) (maxLocals := maxL) (ret := ret) hy ?_ ?_
  · intro args s m h hn
    obtain ⟨m9, meth, c, hn9, h1, h2, h3, h4, -, h5, h6, -⟩ := Cond.codeWith_spec (atoms_spec (ws := ws) h _ (by rw [hw]; exact List.mem_cons_self))
    cases hn.symm.trans hn9
    exact ⟨meth, c, h1, h2, h3, h4, h5, h6⟩
  · intro p e s m args below meth c s₁ B hml hP _
    have hh0 : s₁.heap = s.heap := by rw [B.state]; rfl
    obtain ⟨t, a1, o, b1, b2, b3⟩ := body p e s m args below meth c s₁ B hml hP s₁ hh0 (Stand.of_body B)
    exact ⟨t, o, a1, b1, b2, b3⟩
/-! ===== END ===== -/

/-! ===== BEGIN a private method of a nest mate that may throw (follows va_callVN, va_callSN, va_runVN, va_runSN) ===== -/
section
variable {p : Program} {l : Launch} {e : Env} {R : Room} {s : State} {m : MethodId} {args : Array Value} {below : List Frame} {meth : Method} {c : Code} {H : Heap} {locs : List Loc} {cells slots : Nat}
variable {T : State}
theorem vx_callVN (X : Stand p l e R s m args below meth c T locs cells slots) (hexec : p.tables.exec = Jvm.exec) {own C : String} {index : Nat} {host : String} {y : MethodName} {bytes : ByteArray} {maxL : Nat} {ret : Option FieldType}
    (hown : s.vm.findClass own = some m.cls) (hlink : (Cond.methodLinkNest own index y host).before args s = true) (hinst : (Cond.instanceMethod y).before args s = true) (hsel : (Cond.selects C y y).before args s = true)
    (hcode : (Cond.code y bytes maxL ret).before args s = true) (hy : y.cls ≠ "java/lang/invoke/MethodHandle" ∧ y.cls ≠ "java/lang/invoke/VarHandle")
    {W : Nat} {Pre : Pt → Array Value → Prop} {Post : Pt → Array Value → Option Value → Pt → Prop} {PostX : Pt → Array Value → Addr → Pt → Prop} (hK : vx_Back l R p e below s args y 3 W Pre Post PostX)
    {b : Addr} {cellB : Cell} (hcell : T.heap[b]? = some cellB) (hobj : cellB.vm.isStatics = false) (hcls : s.vm.findClass C = some cellB.cls)
    {g : JFrame} (hg : g.method = m) (hsize : g.locals.size = c.maxLocals) {argsL rest : List Value} (hlen : ∀ sig, parseMethodDescriptor y.desc = some sig → argsL.length = sig.parameters.length)
    (hstack : g.stack = argsL.reverse ++ .ref b :: rest) (hW : 2 * g.monitorRoom + (rest.map fun v => v.category).sum ≤ W) (hdg : decode c.code g.pc = .ok (.invokevirtual index, 3))
    (hpre : ∀ vm₁, s.WarmedH vm₁ → Pre ⟨T.setVm vm₁, locs, cells, slots⟩ (Value.ref b :: argsL).toArray) :
    (∃ (v : Option Value) (vm₁ : Vm) (B : Pt), s.WarmedH vm₁ ∧ Stand p l e R s m args below meth c B.U B.locs B.cells B.slots ∧ Post ⟨T.setVm vm₁, locs, cells, slots⟩ (Value.ref b :: argsL).toArray v B ∧
      ∀ target, Steps p.tables e below (B.U.setTop { g with pc := g.pc + 3, stack := v.toList ++ rest }) target → Steps p.tables e below (T.setTop g) target) ∨
    (∃ (q : Addr) (vm₁ : Vm) (B : Pt), s.WarmedH vm₁ ∧ Stand p l e R s m args below meth c B.U B.locs B.cells B.slots ∧ PostX ⟨T.setVm vm₁, locs, cells, slots⟩ (Value.ref b :: argsL).toArray q B ∧
      Steps p.tables e below (T.setTop g) ((B.U.setTop { g with stack := rest }).pushFrame (.throwing q))) := by
  obtain ⟨mk, methM, hnamed, hmethM, hstM, habM⟩ := Cond.instanceMethod_spec hinst
  obtain ⟨methM', cM, hmethM', -, -, -, -, -, -, hsigM⟩ := Cond.code_spec hnamed hcode
  cases hmethM.symm.trans hmethM'
  obtain ⟨c2, r2, m2, q1, q2, q3, q4, kP, hkP, hkPi⟩ := Cond.selects_spec hsel
  cases hcls.symm.trans q1
  cases (State.methodFound?_of_named hnamed hy).symm.trans q2
  cases hnamed.symm.trans q3
  have hselP : selectMethod e.platform s.vm cellB.cls mk = .method mk := by rw [Launch.admits_selectMethod X.admits]; exact q4
  obtain ⟨vm₁, X₁, hstep₁⟩ := X.invokevirtualNest hexec hown hlink hnamed hmethM hstM hkP hkPi hy (a := b) (cell := cellB) hcell
    (fun z h => by rw [h] at hobj; cases hobj) hselP hmethM habM hkP hkPi (g := g) hg (argsL := argsL) (rest := rest) (hlen _ hsigM) hstack hdg
  rcases hK m meth c ⟨T.setVm vm₁, locs, cells, slots⟩ { g with stack := rest } (.invokevirtual index) mk (Value.ref b :: argsL).toArray X₁ hg hsize hdg hW (X₁.named hnamed) (hpre vm₁ X₁.warmed) with ⟨v, B, X', hpost, hsteps⟩ | ⟨q, B, X', hpost, hsteps⟩
  · exact Or.inl ⟨v, vm₁, B, X₁.warmed, X', hpost, fun target h => hstep₁ _ fun acts => by rw [doInvoke_state]; exact hsteps.trans h⟩
  · exact Or.inr ⟨q, vm₁, B, X₁.warmed, X', hpost, hstep₁ _ fun acts => by rw [doInvoke_state]; exact hsteps⟩
theorem vx_callSN (X : Stand p l e R s m args below meth c T locs cells slots) (hexec : p.tables.exec = Jvm.exec) {own : String} {index : Nat} {host : String} {y : MethodName} {bytes : ByteArray} {maxL : Nat} {ret : Option FieldType}
    (hown : s.vm.findClass own = some m.cls) (hlink : (Cond.methodLinkNest own index y host).before args s = true) (hstat : (Cond.static y).before args s = true) (hinit : (Cond.initialized y.cls).before args s = true)
    (hcode : (Cond.code y bytes maxL ret).before args s = true) (hy : y.cls ≠ "java/lang/invoke/MethodHandle" ∧ y.cls ≠ "java/lang/invoke/VarHandle")
    {W : Nat} {Pre : Pt → Array Value → Prop} {Post : Pt → Array Value → Option Value → Pt → Prop} {PostX : Pt → Array Value → Addr → Pt → Prop} (hK : vx_Back l R p e below s args y 3 W Pre Post PostX)
    {g : JFrame} (hg : g.method = m) (hsize : g.locals.size = c.maxLocals) {argsL rest : List Value} (hlen : ∀ sig, parseMethodDescriptor y.desc = some sig → argsL.length = sig.parameters.length)
    (hstack : g.stack = argsL.reverse ++ rest) (hW : 2 * g.monitorRoom + (rest.map fun v => v.category).sum ≤ W) (hdg : decode c.code g.pc = .ok (.invokestatic index, 3))
    (hpre : ∀ vm₁, s.WarmedH vm₁ → Pre ⟨T.setVm vm₁, locs, cells, slots⟩ argsL.toArray) :
    (∃ (v : Option Value) (vm₁ : Vm) (B : Pt), s.WarmedH vm₁ ∧ Stand p l e R s m args below meth c B.U B.locs B.cells B.slots ∧ Post ⟨T.setVm vm₁, locs, cells, slots⟩ argsL.toArray v B ∧
      ∀ target, Steps p.tables e below (B.U.setTop { g with pc := g.pc + 3, stack := v.toList ++ rest }) target → Steps p.tables e below (T.setTop g) target) ∨
    (∃ (q : Addr) (vm₁ : Vm) (B : Pt), s.WarmedH vm₁ ∧ Stand p l e R s m args below meth c B.U B.locs B.cells B.slots ∧ PostX ⟨T.setVm vm₁, locs, cells, slots⟩ argsL.toArray q B ∧
      Steps p.tables e below (T.setTop g) ((B.U.setTop { g with stack := rest }).pushFrame (.throwing q))) := by
  obtain ⟨mk, hnamed⟩ := Cond.code_named hcode
  obtain ⟨methM, cM, hmethM, -, -, -, -, -, -, hsigM⟩ := Cond.code_spec hnamed hcode
  have hstatic : methM.isStatic = true := Cond.static_spec hnamed hmethM hstat
  obtain ⟨kP, hkP, -⟩ := className_of_methodNamed hnamed
  have hinitP : kP.init = .initialized := Cond.initialized_spec (findClass_of_methodNamed hnamed) hkP hinit
  obtain ⟨vm₁, X₁, hstep₁⟩ := X.invokestaticNest hexec hown hlink hnamed hmethM hstatic hkP hinitP hy (g := g) hg (argsL := argsL) (rest := rest) (hlen _ hsigM) hstack hdg
  rcases hK m meth c ⟨T.setVm vm₁, locs, cells, slots⟩ { g with stack := rest } (.invokestatic index) mk argsL.toArray X₁ hg hsize hdg hW (X₁.named hnamed) (hpre vm₁ X₁.warmed) with ⟨v, B, X', hpost, hsteps⟩ | ⟨q, B, X', hpost, hsteps⟩
  · exact Or.inl ⟨v, vm₁, B, X₁.warmed, X', hpost, fun target h => hstep₁ _ fun acts => by rw [doInvoke_state]; exact hsteps.trans h⟩
  · exact Or.inr ⟨q, vm₁, B, X₁.warmed, X', hpost, hstep₁ _ fun acts => by rw [doInvoke_state]; exact hsteps⟩
theorem vx_runVN {y : MethodName} {bytes cc : ByteArray} {maxL nL mc ms n index : Nat} {ret : Option FieldType} {ws : List Cond} {rm : Room} {Pc : Array Value → State → Prop} {Qc : Array Value → State → Outcome → State → Prop} {XC : String → State → State → Prop} {free : Addr → Prop} {Ts : List Cond} {own C host : String} {b : Addr} {As rest : List Value} {g : JFrame}
    (S : CallFix p m c cc nL s args Ts own) (hM : vx_Met l y ws rm Pc Qc XC mc ms free) (cw : va_CN R s args own index y host bytes maxL ret ws rm mc ms n ∧ (Cond.instanceMethod y).before args s = true ∧ (Cond.selects C y y).before args s = true) (hp : PreV s H C b Pc As)
    (hg : g.method = m) (hn : As.length = n) (hsize : g.locals.size = nL) (hstack : g.stack = As.reverse ++ .ref b :: rest) (hW : 2 * g.monitorRoom + (rest.map fun v => v.category).sum ≤ 8) (hdg : decode cc g.pc = .ok (.invokevirtual index, 3)) (hf : cells + mc ≤ R.cells ∧ slots + ms ≤ R.slots) :
    vx_Run p l e R s m args below meth c H locs cells slots mc ms g rest (Qc (Value.ref b :: As).toArray) XC free := by
  obtain ⟨⟨⟨hrc, hrs, hfr, hlo, hws, hcw⟩, hcode, hini, hy, hlen, hl⟩, hx1, hx2⟩ := cw
  have hK : vx_Back l R p e below s args y 3 8 (PreOf R mc ms Pc) (PostOf Qc mc ms free) (vx_Post XC mc ms free) := vx_back (bytes := bytes) (maxL := maxL) (ret := ret) hM hp.1 hrc hrs hfr hlo hws hcw (fun a' U hW => word_at hW (Or.inl (by first | rfl | simp [Cond.onTables, Cond.keeps, Cond.steady])) hini)
  obtain ⟨hx, hb, hml, ho, -⟩ := S
  obtain ⟨-, ⟨cellB, hcB, hoB, hclB⟩, hPc⟩ := hp
  intro T hT X
  rcases vx_callVN X hx (C := C) (bytes := bytes) (maxL := maxL) (ret := ret) ho hl hx1 hx2 hcode hy hK (by rw [hT]; exact hcB) hoB hclB hg (hsize.trans hml.symm) (argsL := As) (rest := rest) (fun sig h => hn.trans (hlen sig h)) hstack hW (by rw [hb]; exact hdg)
    (fun vm₁ hW₁ => ⟨hf.1, hf.2, hPc (T.setVm vm₁) hT hW₁⟩) with ⟨v, vm₁, ⟨U', l2, c2, s2⟩, hW₁, X', ⟨g', mk, t, L, e1, e2, hq, h1, hL, h2, h3⟩, st⟩ | ⟨q, vm₁, ⟨U', l2, c2, s2⟩, hW₁, X', ⟨g', mk, t, L, E, ce, e1, e2, hq, hce, hcv, hcl, h1, hL, h2, h3⟩, st⟩
  · dsimp only [Pt.U, Pt.locs, Pt.cells, Pt.slots] at X' e1 e2 h1 h2 h3 st
    subst h1; subst h2; subst h3
    exact Or.inl ⟨v, (T.setVm vm₁).calling g' mk (Value.ref b :: As).toArray, t, U', L, hT, X', hL, e1, e2, hq, st⟩
  · dsimp only [Pt.U, Pt.locs, Pt.cells, Pt.slots] at X' e1 e2 h1 h2 h3 st hcl
    subst h1; subst h2; subst h3
    exact Or.inr ⟨q, (T.setVm vm₁).calling g' mk (Value.ref b :: As).toArray, t, U', L, E, ce, hT, X', hL, e1, e2, hq, hce, hcv, vx_cls hW₁ hcl, st⟩
theorem vx_runSN {y : MethodName} {bytes cc : ByteArray} {maxL nL mc ms n index : Nat} {ret : Option FieldType} {ws : List Cond} {rm : Room} {Pc : Array Value → State → Prop} {Qc : Array Value → State → Outcome → State → Prop} {XC : String → State → State → Prop} {free : Addr → Prop} {Ts : List Cond} {own host : String} {As rest : List Value} {g : JFrame}
    (S : CallFix p m c cc nL s args Ts own) (hM : vx_Met l y ws rm Pc Qc XC mc ms free) (cw : va_CN R s args own index y host bytes maxL ret ws rm mc ms n ∧ (Cond.static y).before args s = true ∧ True) (hp : PreS s H Pc As)
    (hg : g.method = m) (hn : As.length = n) (hsize : g.locals.size = nL) (hstack : g.stack = As.reverse ++ rest) (hW : 2 * g.monitorRoom + (rest.map fun v => v.category).sum ≤ 8) (hdg : decode cc g.pc = .ok (.invokestatic index, 3)) (hf : cells + mc ≤ R.cells ∧ slots + ms ≤ R.slots) :
    vx_Run p l e R s m args below meth c H locs cells slots mc ms g rest (Qc As.toArray) XC free := by
  obtain ⟨⟨⟨hrc, hrs, hfr, hlo, hws, hcw⟩, hcode, hini, hy, hlen, hl⟩, hx1, hx2⟩ := cw
  have hK : vx_Back l R p e below s args y 3 8 (PreOf R mc ms Pc) (PostOf Qc mc ms free) (vx_Post XC mc ms free) := vx_back (bytes := bytes) (maxL := maxL) (ret := ret) hM hp.1 hrc hrs hfr hlo hws hcw (fun a' U hW => word_at hW (Or.inl (by first | rfl | simp [Cond.onTables, Cond.keeps, Cond.steady])) hini)
  obtain ⟨hx, hb, hml, ho, -⟩ := S
  have hPc := hp.2
  intro T hT X
  rcases vx_callSN X hx (bytes := bytes) (maxL := maxL) (ret := ret) ho hl hx1 hini hcode hy hK hg (hsize.trans hml.symm) (argsL := As) (rest := rest) (fun sig h => hn.trans (hlen sig h)) hstack hW (by rw [hb]; exact hdg)
    (fun vm₁ hW₁ => ⟨hf.1, hf.2, hPc (T.setVm vm₁) hT hW₁⟩) with ⟨v, vm₁, ⟨U', l2, c2, s2⟩, hW₁, X', ⟨g', mk, t, L, e1, e2, hq, h1, hL, h2, h3⟩, st⟩ | ⟨q, vm₁, ⟨U', l2, c2, s2⟩, hW₁, X', ⟨g', mk, t, L, E, ce, e1, e2, hq, hce, hcv, hcl, h1, hL, h2, h3⟩, st⟩
  · dsimp only [Pt.U, Pt.locs, Pt.cells, Pt.slots] at X' e1 e2 h1 h2 h3 st
    subst h1; subst h2; subst h3
    exact Or.inl ⟨v, (T.setVm vm₁).calling g' mk As.toArray, t, U', L, hT, X', hL, e1, e2, hq, st⟩
  · dsimp only [Pt.U, Pt.locs, Pt.cells, Pt.slots] at X' e1 e2 h1 h2 h3 st hcl
    subst h1; subst h2; subst h3
    exact Or.inr ⟨q, (T.setVm vm₁).calling g' mk As.toArray, t, U', L, E, ce, hT, X', hL, e1, e2, hq, hce, hcv, vx_cls hW₁ hcl, st⟩
end
/-! ===== END ===== -/
end
section
def RX0 : String := "AxleScale$Plan"
def TX0 : u_T := fun k => match k with
  | 0 => ("AxleScale$Plan", "firstAxleOfTrain", "[I", true)
  | 1 => ("AxleScale$Plan", "firstCarOfTrain", "[I", true)
  | 2 => ("AxleScale$Plan", "costOfTrain", "[I", true)
  | 3 => ("AxleScale$Plan", "trainOfAxle", "[I", true)
  | 4 => ("AxleScale$Plan", "carOfAxle", "[I", true)
  | 5 => ("AxleScale$Plan", "firstAxleOfCar", "[I", true)
  | 6 => ("AxleScale$Plan", "valueWithCar", "[I", true)
  | 7 => ("AxleScale$Plan", "valueFrom", "[I", true)
  | 8 => ("AxleScale$Plan", "carFrom", "[I", true)
  | 9 => ("AxleScale$Plan", "trains", "I", false)
  | 10 => ("AxleScale$Plan", "cars", "I", false)
  | 11 => ("AxleScale$Plan", "cost", "I", false)
  | _ => ("AxleScale$Plan", "weight", "I", false)
def tyX0 : Nat → FieldType := fun k => match k with
  | 0 => .array .int
  | 1 => .array .int
  | 2 => .array .int
  | 3 => .array .int
  | 4 => .array .int
  | 5 => .array .int
  | 6 => .array .int
  | 7 => .array .int
  | 8 => .array .int
  | 9 => .int
  | 10 => .int
  | 11 => .int
  | _ => .int
abbrev wsX00 : List Cond := u_ws RX0 TX0 13
theorem nmX0 : ∀ a, a < 13 → ∀ b, b < 13 → a ≠ b → (TX0 a).2.1 ≠ (TX0 b).2.1 := by decide +kernel
theorem tyX0_ok : ∀ k, k < 13 → parseFieldDescriptor (TX0 k).2.2.1 = some (tyX0 k) := by decide +kernel
abbrev cX0_init : ByteArray := prog_2_method_1_code
def yX0_init : MethodName := ⟨RX0, "<init>", "()V"⟩
abbrev cX0_workOut : ByteArray := prog_2_method_2_code
def yX0_workOut : MethodName := ⟨RX0, "workOut", "(LAxleScale$Recording;)V"⟩
abbrev cX0_findTrains : ByteArray := prog_2_method_3_code
def yX0_findTrains : MethodName := ⟨RX0, "findTrains", "(LAxleScale$Recording;)V"⟩
abbrev cX0_findValues : ByteArray := prog_2_method_4_code
def yX0_findValues : MethodName := ⟨RX0, "findValues", "(LAxleScale$Recording;III)V"⟩
abbrev cX0_chooseCar : ByteArray := prog_2_method_5_code
def yX0_chooseCar : MethodName := ⟨RX0, "chooseCar", "(LAxleScale$Recording;III)V"⟩
abbrev cX0_costOf : ByteArray := prog_2_method_6_code
def yX0_costOf : MethodName := ⟨RX0, "costOf", "(I)I"⟩
abbrev cX0_takeCars : ByteArray := prog_2_method_7_code
def yX0_takeCars : MethodName := ⟨RX0, "takeCars", "(LAxleScale$Recording;I)V"⟩
abbrev cX0_axlesOfTrain : ByteArray := prog_2_method_8_code
def yX0_axlesOfTrain : MethodName := ⟨RX0, "axlesOfTrain", "(I)I"⟩
abbrev cX0_carsOfTrain : ByteArray := prog_2_method_9_code
def yX0_carsOfTrain : MethodName := ⟨RX0, "carsOfTrain", "(I)I"⟩
abbrev cX0_weightOfTrain : ByteArray := prog_2_method_10_code
def yX0_weightOfTrain : MethodName := ⟨RX0, "weightOfTrain", "(LAxleScale$Recording;I)I"⟩
abbrev cX0_greatestWeight : ByteArray := prog_2_method_11_code
def yX0_greatestWeight : MethodName := ⟨RX0, "greatestWeight", "(LAxleScale$Recording;I)I"⟩
abbrev cX0_speedDifference : ByteArray := prog_2_method_12_code
def yX0_speedDifference : MethodName := ⟨RX0, "speedDifference", "(LAxleScale$Recording;I)I"⟩
abbrev cX0_ticksBeforeCar : ByteArray := prog_2_method_13_code
def yX0_ticksBeforeCar : MethodName := ⟨RX0, "ticksBeforeCar", "(LAxleScale$Recording;I)I"⟩
abbrev cX0_costWithStray : ByteArray := prog_2_method_14_code
def yX0_costWithStray : MethodName := ⟨RX0, "costWithStray", "(LAxleScale$Recording;II)I"⟩
def RX1 : String := "AxleScale$Recording"
def TX1 : u_T := fun k => match k with
  | 0 => ("AxleScale$Recording", "pauses", "[I", true)
  | 1 => ("AxleScale$Recording", "weights", "[I", true)
  | 2 => ("AxleScale$Recording", "bills", "[I", true)
  | 3 => ("AxleScale$Recording", "settings", "[I", true)
  | _ => ("AxleScale$Recording", "axles", "I", false)
def tyX1 : Nat → FieldType := fun k => match k with
  | 0 => .array .int
  | 1 => .array .int
  | 2 => .array .int
  | 3 => .array .int
  | _ => .int
abbrev wsX10 : List Cond := u_ws RX1 TX1 5
theorem nmX1 : ∀ a, a < 5 → ∀ b, b < 5 → a ≠ b → (TX1 a).2.1 ≠ (TX1 b).2.1 := by decide +kernel
theorem tyX1_ok : ∀ k, k < 5 → parseFieldDescriptor (TX1 k).2.2.1 = some (tyX1 k) := by decide +kernel
abbrev cX1_init : ByteArray := prog_3_method_1_code
def yX1_init : MethodName := ⟨RX1, "<init>", "()V"⟩
abbrev cX1_has : ByteArray := prog_3_method_2_code
def yX1_has : MethodName := ⟨RX1, "has", "(I)Z"⟩
abbrev cX1_beginsTrain : ByteArray := prog_3_method_3_code
def yX1_beginsTrain : MethodName := ⟨RX1, "beginsTrain", "(I)Z"⟩
abbrev cX1_addAxle : ByteArray := prog_3_method_4_code
def yX1_addAxle : MethodName := ⟨RX1, "addAxle", "(II)Z"⟩
abbrev cX1_dropAxle : ByteArray := prog_3_method_5_code
def yX1_dropAxle : MethodName := ⟨RX1, "dropAxle", "(I)Z"⟩
abbrev cX1_putWeight : ByteArray := prog_3_method_6_code
def yX1_putWeight : MethodName := ⟨RX1, "putWeight", "(II)Z"⟩
abbrev cX1_putSetting : ByteArray := prog_3_method_7_code
def yX1_putSetting : MethodName := ⟨RX1, "putSetting", "(II)Z"⟩
abbrev cX1_dropFirstTrain : ByteArray := prog_3_method_8_code
def yX1_dropFirstTrain : MethodName := ⟨RX1, "dropFirstTrain", "()Z"⟩
abbrev cX1_dropAxles : ByteArray := prog_3_method_9_code
def yX1_dropAxles : MethodName := ⟨RX1, "dropAxles", "(II)V"⟩
abbrev cX1_carWeight : ByteArray := prog_3_method_10_code
def yX1_carWeight : MethodName := ⟨RX1, "carWeight", "(I)I"⟩
abbrev cX1_carSpeed : ByteArray := prog_3_method_11_code
def yX1_carSpeed : MethodName := ⟨RX1, "carSpeed", "(I)I"⟩
abbrev cX1_carCost : ByteArray := prog_3_method_12_code
def yX1_carCost : MethodName := ⟨RX1, "carCost", "(I)I"⟩
def RX2 : String := "AxleScale$Text"
def TX2 : u_T := fun k => match k with
  | 0 => ("AxleScale$Text", "characters", "[I", true)
  | 1 => ("AxleScale$Text", "length", "I", false)
  | 2 => ("AxleScale$Text", "pauses", "[I", true)
  | 3 => ("AxleScale$Text", "weights", "[I", true)
  | 4 => ("AxleScale$Text", "told", "I", false)
  | 5 => ("AxleScale$Text", "error", "I", false)
  | 6 => ("AxleScale$Text", "times", "[I", true)
  | 7 => ("AxleScale$Text", "toldBefore", "[I", true)
  | _ => ("AxleScale$Text", "open", "I", false)
def tyX2 : Nat → FieldType := fun k => match k with
  | 0 => .array .int
  | 1 => .int
  | 2 => .array .int
  | 3 => .array .int
  | 4 => .int
  | 5 => .int
  | 6 => .array .int
  | 7 => .array .int
  | _ => .int
abbrev wsX20 : List Cond := u_ws RX2 TX2 9
theorem nmX2 : ∀ a, a < 9 → ∀ b, b < 9 → a ≠ b → (TX2 a).2.1 ≠ (TX2 b).2.1 := by decide +kernel
theorem tyX2_ok : ∀ k, k < 9 → parseFieldDescriptor (TX2 k).2.2.1 = some (tyX2 k) := by decide +kernel
abbrev cX2_init : ByteArray := prog_4_method_1_code
def yX2_init : MethodName := ⟨RX2, "<init>", "()V"⟩
abbrev cX2_add : ByteArray := prog_4_method_2_code
def yX2_add : MethodName := ⟨RX2, "add", "(I)Z"⟩
abbrev cX2_read : ByteArray := prog_4_method_3_code
def yX2_read : MethodName := ⟨RX2, "read", "()V"⟩
abbrev cX2_readPart : ByteArray := prog_4_method_4_code
def yX2_readPart : MethodName := ⟨RX2, "readPart", "(I)I"⟩
abbrev cX2_closeRepeat : ByteArray := prog_4_method_5_code
def yX2_closeRepeat : MethodName := ⟨RX2, "closeRepeat", "(I)I"⟩
abbrev cX2_readAxle : ByteArray := prog_4_method_6_code
def yX2_readAxle : MethodName := ⟨RX2, "readAxle", "(I)I"⟩
abbrev cX2_readNumber : ByteArray := prog_4_method_7_code
def yX2_readNumber : MethodName := ⟨RX2, "readNumber", "(II)I"⟩
abbrev cX2_characterAt : ByteArray := prog_4_method_8_code
def yX2_characterAt : MethodName := ⟨RX2, "characterAt", "(I)I"⟩
abbrev cX2_digitAt : ByteArray := prog_4_method_9_code
def yX2_digitAt : MethodName := ⟨RX2, "digitAt", "(I)I"⟩
def RX3 : String := "AxleScale"
def TX3 : u_T := fun k => match k with
  | 0 => ("AxleScale", "text", "LAxleScale$Text;", true)
  | 1 => ("AxleScale", "now", "LAxleScale$Recording;", true)
  | 2 => ("AxleScale", "trial", "LAxleScale$Recording;", true)
  | 3 => ("AxleScale", "plan", "LAxleScale$Plan;", true)
  | 4 => ("AxleScale", "states", "[LAxleScale$Recording;", true)
  | 5 => ("AxleScale", "slots", "[LAxleScale$Recording;", true)
  | 6 => ("AxleScale", "saved", "[Z", true)
  | 7 => ("AxleScale", "nextState", "I", false)
  | _ => ("AxleScale", "remembered", "I", false)
def tyX3 : Nat → FieldType := fun k => match k with
  | 0 => .object "AxleScale$Text"
  | 1 => .object "AxleScale$Recording"
  | 2 => .object "AxleScale$Recording"
  | 3 => .object "AxleScale$Plan"
  | 4 => .array (.object "AxleScale$Recording")
  | 5 => .array (.object "AxleScale$Recording")
  | 6 => .array .boolean
  | 7 => .int
  | _ => .int
abbrev wsX30 : List Cond := u_ws RX3 TX3 9
theorem nmX3 : ∀ a, a < 9 → ∀ b, b < 9 → a ≠ b → (TX3 a).2.1 ≠ (TX3 b).2.1 := by decide +kernel
theorem tyX3_ok : ∀ k, k < 9 → parseFieldDescriptor (TX3 k).2.2.1 = some (tyX3 k) := by decide +kernel
abbrev cX3_init : ByteArray := prog_1_method_1_code
def yX3_init : MethodName := ⟨RX3, "<init>", "()V"⟩
abbrev cX3_append : ByteArray := prog_1_method_2_code
def yX3_append : MethodName := ⟨RX3, "append", "(I)I"⟩
abbrev cX3_clearText : ByteArray := prog_1_method_3_code
def yX3_clearText : MethodName := ⟨RX3, "clearText", "()I"⟩
abbrev cX3_errorPosition : ByteArray := prog_1_method_4_code
def yX3_errorPosition : MethodName := ⟨RX3, "errorPosition", "()I"⟩
abbrev cX3_axlesTold : ByteArray := prog_1_method_5_code
def yX3_axlesTold : MethodName := ⟨RX3, "axlesTold", "()I"⟩
abbrev cX3_about : ByteArray := prog_1_method_6_code
def yX3_about : MethodName := ⟨RX3, "about", "(I)I"⟩
abbrev cX3_axle : ByteArray := prog_1_method_7_code
def yX3_axle : MethodName := ⟨RX3, "axle", "(II)I"⟩
abbrev cX3_car : ByteArray := prog_1_method_8_code
def yX3_car : MethodName := ⟨RX3, "car", "(II)I"⟩
abbrev cX3_train : ByteArray := prog_1_method_9_code
def yX3_train : MethodName := ⟨RX3, "train", "(II)I"⟩
abbrev cX3_setting : ByteArray := prog_1_method_10_code
def yX3_setting : MethodName := ⟨RX3, "setting", "(I)I"⟩
abbrev cX3_roll : ByteArray := prog_1_method_11_code
def yX3_roll : MethodName := ⟨RX3, "roll", "(II)I"⟩
abbrev cX3_record : ByteArray := prog_1_method_12_code
def yX3_record : MethodName := ⟨RX3, "record", "()I"⟩
abbrev cX3_strike : ByteArray := prog_1_method_13_code
def yX3_strike : MethodName := ⟨RX3, "strike", "(I)I"⟩
abbrev cX3_weigh : ByteArray := prog_1_method_14_code
def yX3_weigh : MethodName := ⟨RX3, "weigh", "(II)I"⟩
abbrev cX3_bill : ByteArray := prog_1_method_15_code
def yX3_bill : MethodName := ⟨RX3, "bill", "(II)I"⟩
abbrev cX3_set : ByteArray := prog_1_method_16_code
def yX3_set : MethodName := ⟨RX3, "set", "(II)I"⟩
abbrev cX3_leave : ByteArray := prog_1_method_17_code
def yX3_leave : MethodName := ⟨RX3, "leave", "()I"⟩
abbrev cX3_undo : ByteArray := prog_1_method_18_code
def yX3_undo : MethodName := ⟨RX3, "undo", "()I"⟩
abbrev cX3_without : ByteArray := prog_1_method_19_code
def yX3_without : MethodName := ⟨RX3, "without", "(I)I"⟩
abbrev cX3_suspect : ByteArray := prog_1_method_20_code
def yX3_suspect : MethodName := ⟨RX3, "suspect", "()I"⟩
abbrev cX3_bestBase : ByteArray := prog_1_method_21_code
def yX3_bestBase : MethodName := ⟨RX3, "bestBase", "()I"⟩
abbrev cX3_sureness : ByteArray := prog_1_method_22_code
def yX3_sureness : MethodName := ⟨RX3, "sureness", "(I)I"⟩
abbrev cX3_plans : ByteArray := prog_1_method_23_code
def yX3_plans : MethodName := ⟨RX3, "plans", "(I)I"⟩
abbrev cX3_heavy : ByteArray := prog_1_method_24_code
def yX3_heavy : MethodName := ⟨RX3, "heavy", "(I)I"⟩
abbrev cX3_runScript : ByteArray := prog_1_method_25_code
def yX3_runScript : MethodName := ⟨RX3, "runScript", "(IJ)I"⟩
abbrev cX3_simulate : ByteArray := prog_1_method_26_code
def yX3_simulate : MethodName := ⟨RX3, "simulate", "(JI)I"⟩
abbrev cX3_save : ByteArray := prog_1_method_27_code
def yX3_save : MethodName := ⟨RX3, "save", "(I)I"⟩
abbrev cX3_restore : ByteArray := prog_1_method_28_code
def yX3_restore : MethodName := ⟨RX3, "restore", "(I)I"⟩
abbrev cX3_remember : ByteArray := prog_1_method_29_code
def yX3_remember : MethodName := ⟨RX3, "remember", "()V"⟩
abbrev cX3_demandAxle : ByteArray := prog_1_method_30_code
def yX3_demandAxle : MethodName := ⟨RX3, "demandAxle", "(I)V"⟩
abbrev cX3_demandTrain : ByteArray := prog_1_method_31_code
def yX3_demandTrain : MethodName := ⟨RX3, "demandTrain", "(I)V"⟩
abbrev cX3_demandSlot : ByteArray := prog_1_method_32_code
def yX3_demandSlot : MethodName := ⟨RX3, "demandSlot", "(I)V"⟩
abbrev cX3_billOrNone : ByteArray := prog_1_method_33_code
def yX3_billOrNone : MethodName := ⟨RX3, "billOrNone", "(I)I"⟩
abbrev cX3_countBills : ByteArray := prog_1_method_34_code
def yX3_countBills : MethodName := ⟨RX3, "countBills", "(Z)I"⟩
abbrev cX3_commandSucceeds : ByteArray := prog_1_method_35_code
def yX3_commandSucceeds : MethodName := ⟨RX3, "commandSucceeds", "(I)Z"⟩
abbrev cX3_conditionHolds : ByteArray := prog_1_method_36_code
def yX3_conditionHolds : MethodName := ⟨RX3, "conditionHolds", "(I)Z"⟩
abbrev cX3_simulatedPause : ByteArray := prog_1_method_37_code
def yX3_simulatedPause : MethodName := ⟨RX3, "simulatedPause", "(I)I"⟩
abbrev cX3_withoutLastGroups : ByteArray := prog_1_method_38_code
def yX3_withoutLastGroups : MethodName := ⟨RX3, "withoutLastGroups", "(JI)J"⟩
abbrev cX3_isPause : ByteArray := prog_1_method_39_code
def yX3_isPause : MethodName := ⟨RX3, "isPause", "(I)Z"⟩
abbrev cX3_isWeight : ByteArray := prog_1_method_40_code
def yX3_isWeight : MethodName := ⟨RX3, "isWeight", "(I)Z"⟩
abbrev cX3_isSetting : ByteArray := prog_1_method_41_code
def yX3_isSetting : MethodName := ⟨RX3, "isSetting", "(I)Z"⟩
abbrev cX3_isValueOfSetting : ByteArray := prog_1_method_42_code
def yX3_isValueOfSetting : MethodName := ⟨RX3, "isValueOfSetting", "(II)Z"⟩
abbrev cX3_at : ByteArray := prog_1_method_43_code
def yX3_at : MethodName := ⟨RX3, "at", "([II)I"⟩
abbrev cX3_copy : ByteArray := prog_1_method_44_code
def yX3_copy : MethodName := ⟨RX3, "copy", "(LAxleScale$Recording;LAxleScale$Recording;)V"⟩
def RX4 : String := "AxleScaleModel"
def TX4 : u_T := fun k => match k with
  | 0 => ("AxleScaleModel", "refusal", "I", false)
  | 1 => ("AxleScaleModel", "script", "[I", true)
  | 2 => ("AxleScaleModel", "scriptSize", "I", false)
  | 3 => ("AxleScaleModel", "spot", "I", false)
  | 4 => ("AxleScaleModel", "isGood", "Z", false)
  | 5 => ("AxleScaleModel", "readPause", "[I", true)
  | 6 => ("AxleScaleModel", "readWeight", "[I", true)
  | 7 => ("AxleScaleModel", "readMany", "I", false)
  | 8 => ("AxleScaleModel", "begun", "[I", true)
  | 9 => ("AxleScaleModel", "times", "[I", true)
  | 10 => ("AxleScaleModel", "parts", "[I", true)
  | 11 => ("AxleScaleModel", "deep", "I", false)
  | 12 => ("AxleScaleModel", "now", "[I", true)
  | 13 => ("AxleScaleModel", "trial", "[I", true)
  | 14 => ("AxleScaleModel", "diary", "[I", true)
  | 15 => ("AxleScaleModel", "acts", "I", false)
  | 16 => ("AxleScaleModel", "kept", "[I", true)
  | 17 => ("AxleScaleModel", "isKept", "[Z", true)
  | 18 => ("AxleScaleModel", "rest", "[I", true)
  | 19 => ("AxleScaleModel", "sum", "[I", true)
  | 20 => ("AxleScaleModel", "trainFirst", "[I", true)
  | 21 => ("AxleScaleModel", "trainCost", "[I", true)
  | 22 => ("AxleScaleModel", "trains", "I", false)
  | 23 => ("AxleScaleModel", "carFirst", "[I", true)
  | 24 => ("AxleScaleModel", "cars", "I", false)
  | _ => ("AxleScaleModel", "costs", "I", false)
def tyX4 : Nat → FieldType := fun k => match k with
  | 0 => .int
  | 1 => .array .int
  | 2 => .int
  | 3 => .int
  | 4 => .boolean
  | 5 => .array .int
  | 6 => .array .int
  | 7 => .int
  | 8 => .array .int
  | 9 => .array .int
  | 10 => .array .int
  | 11 => .int
  | 12 => .array .int
  | 13 => .array .int
  | 14 => .array .int
  | 15 => .int
  | 16 => .array .int
  | 17 => .array .boolean
  | 18 => .array .int
  | 19 => .array .int
  | 20 => .array .int
  | 21 => .array .int
  | 22 => .int
  | 23 => .array .int
  | 24 => .int
  | _ => .int
abbrev wsX40 : List Cond := u_ws RX4 TX4 26
theorem nmX4 : ∀ a, a < 26 → ∀ b, b < 26 → a ≠ b → (TX4 a).2.1 ≠ (TX4 b).2.1 := by decide +kernel
theorem tyX4_ok : ∀ k, k < 26 → parseFieldDescriptor (TX4 k).2.2.1 = some (tyX4 k) := by decide +kernel
abbrev cX4_init : ByteArray := prog_6_method_1_code
def yX4_init : MethodName := ⟨RX4, "<init>", "()V"⟩
abbrev cX4_thrown : ByteArray := prog_6_method_2_code
def yX4_thrown : MethodName := ⟨RX4, "thrown", "()I"⟩
abbrev cX4_refused : ByteArray := prog_6_method_3_code
def yX4_refused : MethodName := ⟨RX4, "refused", "(I)Z"⟩
abbrev cX4_in : ByteArray := prog_6_method_4_code
def yX4_in : MethodName := ⟨RX4, "in", "(JJJ)Z"⟩
abbrev cX4_size : ByteArray := prog_6_method_5_code
def yX4_size : MethodName := ⟨RX4, "size", "(I)I"⟩
abbrev cX4_copy : ByteArray := prog_6_method_6_code
def yX4_copy : MethodName := ⟨RX4, "copy", "([II[III)V"⟩
abbrev cX4_tenTo : ByteArray := prog_6_method_7_code
def yX4_tenTo : MethodName := ⟨RX4, "tenTo", "(I)J"⟩
abbrev cX4_remember : ByteArray := prog_6_method_8_code
def yX4_remember : MethodName := ⟨RX4, "remember", "()V"⟩
abbrev cX4_tryIt : ByteArray := prog_6_method_9_code
def yX4_tryIt : MethodName := ⟨RX4, "tryIt", "()V"⟩
abbrev cX4_carCost : ByteArray := prog_6_method_10_code
def yX4_carCost : MethodName := ⟨RX4, "carCost", "([II)I"⟩
abbrev cX4_gapCost : ByteArray := prog_6_method_11_code
def yX4_gapCost : MethodName := ⟨RX4, "gapCost", "([III)I"⟩
abbrev cX4_place : ByteArray := prog_6_method_12_code
def yX4_place : MethodName := ⟨RX4, "place", "(III)I"⟩
abbrev cX4_withCar : ByteArray := prog_6_method_13_code
def yX4_withCar : MethodName := ⟨RX4, "withCar", "([IIII)I"⟩
abbrev cX4_withStray : ByteArray := prog_6_method_14_code
def yX4_withStray : MethodName := ⟨RX4, "withStray", "([IIII)I"⟩
abbrev cX4_canPair : ByteArray := prog_6_method_15_code
def yX4_canPair : MethodName := ⟨RX4, "canPair", "(III)Z"⟩
abbrev cX4_layRest : ByteArray := prog_6_method_16_code
def yX4_layRest : MethodName := ⟨RX4, "layRest", "([IIII)I"⟩
abbrev cX4_layCars : ByteArray := prog_6_method_17_code
def yX4_layCars : MethodName := ⟨RX4, "layCars", "([III)V"⟩
abbrev cX4_lay : ByteArray := prog_6_method_18_code
def yX4_lay : MethodName := ⟨RX4, "lay", "([I)V"⟩
abbrev cX4_carWeight : ByteArray := prog_6_method_19_code
def yX4_carWeight : MethodName := ⟨RX4, "carWeight", "([II)I"⟩
abbrev cX4_allWeight : ByteArray := prog_6_method_20_code
def yX4_allWeight : MethodName := ⟨RX4, "allWeight", "([I)I"⟩
abbrev cX4_trainOf : ByteArray := prog_6_method_21_code
def yX4_trainOf : MethodName := ⟨RX4, "trainOf", "(I)I"⟩
abbrev cX4_carOf : ByteArray := prog_6_method_22_code
def yX4_carOf : MethodName := ⟨RX4, "carOf", "(I)I"⟩
abbrev cX4_rollIn : ByteArray := prog_6_method_23_code
def yX4_rollIn : MethodName := ⟨RX4, "rollIn", "([III)I"⟩
abbrev cX4_cutOut : ByteArray := prog_6_method_24_code
def yX4_cutOut : MethodName := ⟨RX4, "cutOut", "([III)V"⟩
abbrev cX4_strikeIn : ByteArray := prog_6_method_25_code
def yX4_strikeIn : MethodName := ⟨RX4, "strikeIn", "([II)I"⟩
abbrev cX4_leaveIn : ByteArray := prog_6_method_26_code
def yX4_leaveIn : MethodName := ⟨RX4, "leaveIn", "([I)I"⟩
abbrev cX4_append : ByteArray := prog_6_method_27_code
def yX4_append : MethodName := ⟨RX4, "append", "(I)I"⟩
abbrev cX4_clearText : ByteArray := prog_6_method_28_code
def yX4_clearText : MethodName := ⟨RX4, "clearText", "()I"⟩
abbrev cX4_isNext : ByteArray := prog_6_method_29_code
def yX4_isNext : MethodName := ⟨RX4, "isNext", "(I)Z"⟩
abbrev cX4_digitAt : ByteArray := prog_6_method_30_code
def yX4_digitAt : MethodName := ⟨RX4, "digitAt", "(I)I"⟩
abbrev cX4_accept : ByteArray := prog_6_method_31_code
def yX4_accept : MethodName := ⟨RX4, "accept", "(Z)V"⟩
abbrev cX4_digit : ByteArray := prog_6_method_32_code
def yX4_digit : MethodName := ⟨RX4, "digit", "(II)I"⟩
abbrev cX4_take : ByteArray := prog_6_method_33_code
def yX4_take : MethodName := ⟨RX4, "take", "(II)V"⟩
abbrev cX4_readAxle : ByteArray := prog_6_method_34_code
def yX4_readAxle : MethodName := ⟨RX4, "readAxle", "()V"⟩
abbrev cX4_openRow : ByteArray := prog_6_method_35_code
def yX4_openRow : MethodName := ⟨RX4, "openRow", "()V"⟩
abbrev cX4_closeRow : ByteArray := prog_6_method_36_code
def yX4_closeRow : MethodName := ⟨RX4, "closeRow", "()V"⟩
abbrev cX4_readPart : ByteArray := prog_6_method_37_code
def yX4_readPart : MethodName := ⟨RX4, "readPart", "()V"⟩
abbrev cX4_readText : ByteArray := prog_6_method_38_code
def yX4_readText : MethodName := ⟨RX4, "readText", "()I"⟩
abbrev cX4_errorPosition : ByteArray := prog_6_method_39_code
def yX4_errorPosition : MethodName := ⟨RX4, "errorPosition", "()I"⟩
abbrev cX4_axlesTold : ByteArray := prog_6_method_40_code
def yX4_axlesTold : MethodName := ⟨RX4, "axlesTold", "()I"⟩
abbrev cX4_badBills : ByteArray := prog_6_method_41_code
def yX4_badBills : MethodName := ⟨RX4, "badBills", "(Z)I"⟩
abbrev cX4_trainWeight : ByteArray := prog_6_method_42_code
def yX4_trainWeight : MethodName := ⟨RX4, "trainWeight", "(I)I"⟩
abbrev cX4_about : ByteArray := prog_6_method_43_code
def yX4_about : MethodName := ⟨RX4, "about", "(I)I"⟩
abbrev cX4_isAxle : ByteArray := prog_6_method_44_code
def yX4_isAxle : MethodName := ⟨RX4, "isAxle", "(I)Z"⟩
abbrev cX4_axle : ByteArray := prog_6_method_45_code
def yX4_axle : MethodName := ⟨RX4, "axle", "(II)I"⟩
abbrev cX4_speed : ByteArray := prog_6_method_46_code
def yX4_speed : MethodName := ⟨RX4, "speed", "(I)I"⟩
abbrev cX4_between : ByteArray := prog_6_method_47_code
def yX4_between : MethodName := ⟨RX4, "between", "(I)I"⟩
abbrev cX4_car : ByteArray := prog_6_method_48_code
def yX4_car : MethodName := ⟨RX4, "car", "(II)I"⟩
abbrev cX4_carsOf : ByteArray := prog_6_method_49_code
def yX4_carsOf : MethodName := ⟨RX4, "carsOf", "(I)I"⟩
abbrev cX4_heaviest : ByteArray := prog_6_method_50_code
def yX4_heaviest : MethodName := ⟨RX4, "heaviest", "(I)I"⟩
abbrev cX4_speeds : ByteArray := prog_6_method_51_code
def yX4_speeds : MethodName := ⟨RX4, "speeds", "(I)I"⟩
abbrev cX4_train : ByteArray := prog_6_method_52_code
def yX4_train : MethodName := ⟨RX4, "train", "(II)I"⟩
abbrev cX4_setting : ByteArray := prog_6_method_53_code
def yX4_setting : MethodName := ⟨RX4, "setting", "(I)I"⟩
abbrev cX4_isPause : ByteArray := prog_6_method_54_code
def yX4_isPause : MethodName := ⟨RX4, "isPause", "(I)Z"⟩
abbrev cX4_isWeight : ByteArray := prog_6_method_55_code
def yX4_isWeight : MethodName := ⟨RX4, "isWeight", "(I)Z"⟩
abbrev cX4_roll : ByteArray := prog_6_method_56_code
def yX4_roll : MethodName := ⟨RX4, "roll", "(II)I"⟩
abbrev cX4_record : ByteArray := prog_6_method_57_code
def yX4_record : MethodName := ⟨RX4, "record", "()I"⟩
abbrev cX4_strike : ByteArray := prog_6_method_58_code
def yX4_strike : MethodName := ⟨RX4, "strike", "(I)I"⟩
abbrev cX4_weigh : ByteArray := prog_6_method_59_code
def yX4_weigh : MethodName := ⟨RX4, "weigh", "(II)I"⟩
abbrev cX4_bill : ByteArray := prog_6_method_60_code
def yX4_bill : MethodName := ⟨RX4, "bill", "(II)I"⟩
abbrev cX4_isSetting : ByteArray := prog_6_method_61_code
def yX4_isSetting : MethodName := ⟨RX4, "isSetting", "(II)Z"⟩
abbrev cX4_set : ByteArray := prog_6_method_62_code
def yX4_set : MethodName := ⟨RX4, "set", "(II)I"⟩
abbrev cX4_leave : ByteArray := prog_6_method_63_code
def yX4_leave : MethodName := ⟨RX4, "leave", "()I"⟩
abbrev cX4_undo : ByteArray := prog_6_method_64_code
def yX4_undo : MethodName := ⟨RX4, "undo", "()I"⟩
abbrev cX4_without : ByteArray := prog_6_method_65_code
def yX4_without : MethodName := ⟨RX4, "without", "(I)I"⟩
abbrev cX4_suspect : ByteArray := prog_6_method_66_code
def yX4_suspect : MethodName := ⟨RX4, "suspect", "()I"⟩
abbrev cX4_bestBase : ByteArray := prog_6_method_67_code
def yX4_bestBase : MethodName := ⟨RX4, "bestBase", "()I"⟩
abbrev cX4_sureness : ByteArray := prog_6_method_68_code
def yX4_sureness : MethodName := ⟨RX4, "sureness", "(I)I"⟩
abbrev cX4_plans : ByteArray := prog_6_method_69_code
def yX4_plans : MethodName := ⟨RX4, "plans", "(I)I"⟩
abbrev cX4_heavy : ByteArray := prog_6_method_70_code
def yX4_heavy : MethodName := ⟨RX4, "heavy", "(I)I"⟩
abbrev cX4_rolls : ByteArray := prog_6_method_71_code
def yX4_rolls : MethodName := ⟨RX4, "rolls", "(II)Z"⟩
abbrev cX4_strikes : ByteArray := prog_6_method_72_code
def yX4_strikes : MethodName := ⟨RX4, "strikes", "(I)Z"⟩
abbrev cX4_weighs : ByteArray := prog_6_method_73_code
def yX4_weighs : MethodName := ⟨RX4, "weighs", "(II)Z"⟩
abbrev cX4_sets : ByteArray := prog_6_method_74_code
def yX4_sets : MethodName := ⟨RX4, "sets", "(II)Z"⟩
abbrev cX4_leaves : ByteArray := prog_6_method_75_code
def yX4_leaves : MethodName := ⟨RX4, "leaves", "()Z"⟩
abbrev cX4_does : ByteArray := prog_6_method_76_code
def yX4_does : MethodName := ⟨RX4, "does", "(I)Z"⟩
abbrev cX4_runScript : ByteArray := prog_6_method_77_code
def yX4_runScript : MethodName := ⟨RX4, "runScript", "(IJ)I"⟩
abbrev cX4_pauseOf : ByteArray := prog_6_method_78_code
def yX4_pauseOf : MethodName := ⟨RX4, "pauseOf", "(I)I"⟩
abbrev cX4_simulate : ByteArray := prog_6_method_79_code
def yX4_simulate : MethodName := ⟨RX4, "simulate", "(JI)I"⟩
abbrev cX4_save : ByteArray := prog_6_method_80_code
def yX4_save : MethodName := ⟨RX4, "save", "(I)I"⟩
abbrev cX4_restore : ByteArray := prog_6_method_81_code
def yX4_restore : MethodName := ⟨RX4, "restore", "(I)I"⟩
def RJ9 : String := "java/lang/Math"
def TJ9 : u_T := fun k => match k with
  | _ => ("", "", "", false)
def tyJ9 : Nat → FieldType := fun k => match k with
  | _ => .int
abbrev wsJ90 : List Cond := u_ws RJ9 TJ9 0
theorem nmJ9 : ∀ a, a < 0 → ∀ b, b < 0 → a ≠ b → (TJ9 a).2.1 ≠ (TJ9 b).2.1 := by decide +kernel
theorem tyJ9_ok : ∀ k, k < 0 → parseFieldDescriptor (TJ9 k).2.2.1 = some (tyJ9 k) := by decide +kernel
abbrev cJ9_floorDiv_7cf53 : ByteArray := prog_11_method_47_code
def yJ9_floorDiv_7cf53 : MethodName := ⟨RJ9, "floorDiv", "(II)I"⟩
abbrev cJ9_abs_0f7a4 : ByteArray := prog_11_method_59_code
def yJ9_abs_0f7a4 : MethodName := ⟨RJ9, "abs", "(I)I"⟩
abbrev cJ9_max_7cf53 : ByteArray := prog_11_method_65_code
def yJ9_max_7cf53 : MethodName := ⟨RJ9, "max", "(II)I"⟩
abbrev cJ9_min_7cf53 : ByteArray := prog_11_method_69_code
def yJ9_min_7cf53 : MethodName := ⟨RJ9, "min", "(II)I"⟩
def RJ0 : String := "java/lang/String"
def TJ0 : u_T := fun k => match k with
  | _ => ("", "", "", false)
def tyJ0 : Nat → FieldType := fun k => match k with
  | _ => .int
abbrev wsJ00 : List Cond := u_ws RJ0 TJ0 0
theorem nmJ0 : ∀ a, a < 0 → ∀ b, b < 0 → a ≠ b → (TJ0 a).2.1 ≠ (TJ0 b).2.1 := by decide +kernel
theorem tyJ0_ok : ∀ k, k < 0 → parseFieldDescriptor (TJ0 k).2.2.1 = some (tyJ0 k) := by decide +kernel
def RL : String := "AxleScaleLaw"
abbrev cL_append : ByteArray := method_3_code
def yL_append : MethodName := ⟨RL, "append", "(LAxleScale;I[J)I"⟩
abbrev cL_about : ByteArray := method_4_code
def yL_about : MethodName := ⟨RL, "about", "(LAxleScale;I[J)I"⟩
abbrev cL_axle : ByteArray := method_5_code
def yL_axle : MethodName := ⟨RL, "axle", "(LAxleScale;II[J)I"⟩
abbrev cL_car : ByteArray := method_6_code
def yL_car : MethodName := ⟨RL, "car", "(LAxleScale;II[J)I"⟩
abbrev cL_train : ByteArray := method_7_code
def yL_train : MethodName := ⟨RL, "train", "(LAxleScale;II[J)I"⟩
abbrev cL_setting : ByteArray := method_8_code
def yL_setting : MethodName := ⟨RL, "setting", "(LAxleScale;I[J)I"⟩
abbrev cL_roll : ByteArray := method_9_code
def yL_roll : MethodName := ⟨RL, "roll", "(LAxleScale;II[J)I"⟩
abbrev cL_record : ByteArray := method_10_code
def yL_record : MethodName := ⟨RL, "record", "(LAxleScale;[J)I"⟩
abbrev cL_strike : ByteArray := method_11_code
def yL_strike : MethodName := ⟨RL, "strike", "(LAxleScale;I[J)I"⟩
abbrev cL_weigh : ByteArray := method_12_code
def yL_weigh : MethodName := ⟨RL, "weigh", "(LAxleScale;II[J)I"⟩
abbrev cL_bill : ByteArray := method_13_code
def yL_bill : MethodName := ⟨RL, "bill", "(LAxleScale;II[J)I"⟩
abbrev cL_set : ByteArray := method_14_code
def yL_set : MethodName := ⟨RL, "set", "(LAxleScale;II[J)I"⟩
abbrev cL_leave : ByteArray := method_15_code
def yL_leave : MethodName := ⟨RL, "leave", "(LAxleScale;[J)I"⟩
abbrev cL_undo : ByteArray := method_16_code
def yL_undo : MethodName := ⟨RL, "undo", "(LAxleScale;[J)I"⟩
abbrev cL_without : ByteArray := method_17_code
def yL_without : MethodName := ⟨RL, "without", "(LAxleScale;I[J)I"⟩
abbrev cL_sureness : ByteArray := method_18_code
def yL_sureness : MethodName := ⟨RL, "sureness", "(LAxleScale;I[J)I"⟩
abbrev cL_plans : ByteArray := method_19_code
def yL_plans : MethodName := ⟨RL, "plans", "(LAxleScale;I[J)I"⟩
abbrev cL_heavy : ByteArray := method_20_code
def yL_heavy : MethodName := ⟨RL, "heavy", "(LAxleScale;I[J)I"⟩
abbrev cL_runScript : ByteArray := method_21_code
def yL_runScript : MethodName := ⟨RL, "runScript", "(LAxleScale;IJ[J)I"⟩
abbrev cL_simulate : ByteArray := method_22_code
def yL_simulate : MethodName := ⟨RL, "simulate", "(LAxleScale;JI[J)I"⟩
abbrev cL_save : ByteArray := method_23_code
def yL_save : MethodName := ⟨RL, "save", "(LAxleScale;I[J)I"⟩
abbrev cL_restore : ByteArray := method_24_code
def yL_restore : MethodName := ⟨RL, "restore", "(LAxleScale;I[J)I"⟩
abbrev cL_law : ByteArray := code
def yL_law : MethodName := ⟨RL, "law", "([I)Z"⟩
end
section
theorem dX0_init_0 : decode cX0_init 0 = .ok (.aload_n 0, 1) := by decide +kernel
theorem dX0_init_1 : decode cX0_init 1 = .ok (.invokespecial 3, 3) := by decide +kernel
theorem dX0_init_4 : decode cX0_init 4 = .ok (.aload_n 0, 1) := by decide +kernel
theorem dX0_init_5 : decode cX0_init 5 = .ok (.bipush 31, 2) := by decide +kernel
theorem dX0_init_7 : decode cX0_init 7 = .ok (.newarray .int, 2) := by decide +kernel
theorem dX0_init_9 : decode cX0_init 9 = .ok (.putfield 9, 3) := by decide +kernel
theorem dX0_init_12 : decode cX0_init 12 = .ok (.aload_n 0, 1) := by decide +kernel
theorem dX0_init_13 : decode cX0_init 13 = .ok (.bipush 31, 2) := by decide +kernel
theorem dX0_init_15 : decode cX0_init 15 = .ok (.newarray .int, 2) := by decide +kernel
theorem dX0_init_17 : decode cX0_init 17 = .ok (.putfield 15, 3) := by decide +kernel
theorem dX0_init_20 : decode cX0_init 20 = .ok (.aload_n 0, 1) := by decide +kernel
theorem dX0_init_21 : decode cX0_init 21 = .ok (.bipush 30, 2) := by decide +kernel
theorem dX0_init_23 : decode cX0_init 23 = .ok (.newarray .int, 2) := by decide +kernel
theorem dX0_init_25 : decode cX0_init 25 = .ok (.putfield 18, 3) := by decide +kernel
theorem dX0_init_28 : decode cX0_init 28 = .ok (.aload_n 0, 1) := by decide +kernel
theorem dX0_init_29 : decode cX0_init 29 = .ok (.bipush 30, 2) := by decide +kernel
theorem dX0_init_31 : decode cX0_init 31 = .ok (.newarray .int, 2) := by decide +kernel
theorem dX0_init_33 : decode cX0_init 33 = .ok (.putfield 21, 3) := by decide +kernel
theorem dX0_init_36 : decode cX0_init 36 = .ok (.aload_n 0, 1) := by decide +kernel
theorem dX0_init_37 : decode cX0_init 37 = .ok (.bipush 30, 2) := by decide +kernel
theorem dX0_init_39 : decode cX0_init 39 = .ok (.newarray .int, 2) := by decide +kernel
theorem dX0_init_41 : decode cX0_init 41 = .ok (.putfield 24, 3) := by decide +kernel
theorem dX0_init_44 : decode cX0_init 44 = .ok (.aload_n 0, 1) := by decide +kernel
theorem dX0_init_45 : decode cX0_init 45 = .ok (.bipush 15, 2) := by decide +kernel
theorem dX0_init_47 : decode cX0_init 47 = .ok (.newarray .int, 2) := by decide +kernel
theorem dX0_init_49 : decode cX0_init 49 = .ok (.putfield 27, 3) := by decide +kernel
theorem dX0_init_52 : decode cX0_init 52 = .ok (.aload_n 0, 1) := by decide +kernel
theorem dX0_init_53 : decode cX0_init 53 = .ok (.bipush 31, 2) := by decide +kernel
theorem dX0_init_55 : decode cX0_init 55 = .ok (.newarray .int, 2) := by decide +kernel
theorem dX0_init_57 : decode cX0_init 57 = .ok (.putfield 30, 3) := by decide +kernel
theorem dX0_init_60 : decode cX0_init 60 = .ok (.aload_n 0, 1) := by decide +kernel
theorem dX0_init_61 : decode cX0_init 61 = .ok (.bipush 31, 2) := by decide +kernel
theorem dX0_init_63 : decode cX0_init 63 = .ok (.newarray .int, 2) := by decide +kernel
theorem dX0_init_65 : decode cX0_init 65 = .ok (.putfield 33, 3) := by decide +kernel
theorem dX0_init_68 : decode cX0_init 68 = .ok (.aload_n 0, 1) := by decide +kernel
theorem dX0_init_69 : decode cX0_init 69 = .ok (.bipush 31, 2) := by decide +kernel
theorem dX0_init_71 : decode cX0_init 71 = .ok (.newarray .int, 2) := by decide +kernel
theorem dX0_init_73 : decode cX0_init 73 = .ok (.putfield 36, 3) := by decide +kernel
theorem dX0_init_76 : decode cX0_init 76 = .ok (.return_, 1) := by decide +kernel
theorem dX0_workOut_0 : decode cX0_workOut 0 = .ok (.aload_n 0, 1) := by decide +kernel
theorem dX0_workOut_1 : decode cX0_workOut 1 = .ok (.aload_n 1, 1) := by decide +kernel
theorem dX0_workOut_2 : decode cX0_workOut 2 = .ok (.invokevirtual 39, 3) := by decide +kernel
theorem dX0_workOut_5 : decode cX0_workOut 5 = .ok (.aload_n 0, 1) := by decide +kernel
theorem dX0_workOut_6 : decode cX0_workOut 6 = .ok (.iconst 0, 1) := by decide +kernel
theorem dX0_workOut_7 : decode cX0_workOut 7 = .ok (.putfield 43, 3) := by decide +kernel
theorem dX0_workOut_10 : decode cX0_workOut 10 = .ok (.aload_n 0, 1) := by decide +kernel
theorem dX0_workOut_11 : decode cX0_workOut 11 = .ok (.iconst 0, 1) := by decide +kernel
theorem dX0_workOut_12 : decode cX0_workOut 12 = .ok (.putfield 47, 3) := by decide +kernel
theorem dX0_workOut_15 : decode cX0_workOut 15 = .ok (.aload_n 0, 1) := by decide +kernel
theorem dX0_workOut_16 : decode cX0_workOut 16 = .ok (.iconst 0, 1) := by decide +kernel
theorem dX0_workOut_17 : decode cX0_workOut 17 = .ok (.putfield 50, 3) := by decide +kernel
theorem dX0_workOut_20 : decode cX0_workOut 20 = .ok (.iconst 0, 1) := by decide +kernel
theorem dX0_workOut_21 : decode cX0_workOut 21 = .ok (.istore_n 2, 1) := by decide +kernel
theorem dX0_workOut_22 : decode cX0_workOut 22 = .ok (.iload_n 2, 1) := by decide +kernel
theorem dX0_workOut_23 : decode cX0_workOut 23 = .ok (.aload_n 0, 1) := by decide +kernel
theorem dX0_workOut_24 : decode cX0_workOut 24 = .ok (.getfield 53, 3) := by decide +kernel
theorem dX0_workOut_27 : decode cX0_workOut 27 = .ok (.if_icmp .ge 87, 3) := by decide +kernel
theorem dX0_workOut_30 : decode cX0_workOut 30 = .ok (.iload_n 2, 1) := by decide +kernel
theorem dX0_workOut_31 : decode cX0_workOut 31 = .ok (.bipush 30, 2) := by decide +kernel
theorem dX0_workOut_33 : decode cX0_workOut 33 = .ok (.if_icmp .ge 81, 3) := by decide +kernel
theorem dX0_workOut_36 : decode cX0_workOut 36 = .ok (.aload_n 0, 1) := by decide +kernel
theorem dX0_workOut_37 : decode cX0_workOut 37 = .ok (.getfield 9, 3) := by decide +kernel
theorem dX0_workOut_40 : decode cX0_workOut 40 = .ok (.iload_n 2, 1) := by decide +kernel
theorem dX0_workOut_41 : decode cX0_workOut 41 = .ok (.iaload, 1) := by decide +kernel
theorem dX0_workOut_42 : decode cX0_workOut 42 = .ok (.istore_n 3, 1) := by decide +kernel
theorem dX0_workOut_43 : decode cX0_workOut 43 = .ok (.aload_n 0, 1) := by decide +kernel
theorem dX0_workOut_44 : decode cX0_workOut 44 = .ok (.aload_n 1, 1) := by decide +kernel
theorem dX0_workOut_45 : decode cX0_workOut 45 = .ok (.iload_n 3, 1) := by decide +kernel
theorem dX0_workOut_46 : decode cX0_workOut 46 = .ok (.aload_n 0, 1) := by decide +kernel
theorem dX0_workOut_47 : decode cX0_workOut 47 = .ok (.getfield 9, 3) := by decide +kernel
theorem dX0_workOut_50 : decode cX0_workOut 50 = .ok (.iload_n 2, 1) := by decide +kernel
theorem dX0_workOut_51 : decode cX0_workOut 51 = .ok (.iconst 1, 1) := by decide +kernel
theorem dX0_workOut_52 : decode cX0_workOut 52 = .ok (.iadd, 1) := by decide +kernel
theorem dX0_workOut_53 : decode cX0_workOut 53 = .ok (.iaload, 1) := by decide +kernel
theorem dX0_workOut_54 : decode cX0_workOut 54 = .ok (.iconst (-1), 1) := by decide +kernel
theorem dX0_workOut_55 : decode cX0_workOut 55 = .ok (.invokevirtual 56, 3) := by decide +kernel
theorem dX0_workOut_58 : decode cX0_workOut 58 = .ok (.aload_n 0, 1) := by decide +kernel
theorem dX0_workOut_59 : decode cX0_workOut 59 = .ok (.getfield 18, 3) := by decide +kernel
theorem dX0_workOut_62 : decode cX0_workOut 62 = .ok (.iload_n 2, 1) := by decide +kernel
theorem dX0_workOut_63 : decode cX0_workOut 63 = .ok (.aload_n 0, 1) := by decide +kernel
theorem dX0_workOut_64 : decode cX0_workOut 64 = .ok (.getfield 33, 3) := by decide +kernel
theorem dX0_workOut_67 : decode cX0_workOut 67 = .ok (.iload_n 3, 1) := by decide +kernel
theorem dX0_workOut_68 : decode cX0_workOut 68 = .ok (.invokestatic 60, 3) := by decide +kernel
theorem dX0_workOut_71 : decode cX0_workOut 71 = .ok (.invokestatic 64, 3) := by decide +kernel
theorem dX0_workOut_74 : decode cX0_workOut 74 = .ok (.iastore, 1) := by decide +kernel
theorem dX0_workOut_75 : decode cX0_workOut 75 = .ok (.aload_n 0, 1) := by decide +kernel
theorem dX0_workOut_76 : decode cX0_workOut 76 = .ok (.dup, 1) := by decide +kernel
theorem dX0_workOut_77 : decode cX0_workOut 77 = .ok (.getfield 47, 3) := by decide +kernel
theorem dX0_workOut_80 : decode cX0_workOut 80 = .ok (.aload_n 0, 1) := by decide +kernel
theorem dX0_workOut_81 : decode cX0_workOut 81 = .ok (.getfield 18, 3) := by decide +kernel
theorem dX0_workOut_84 : decode cX0_workOut 84 = .ok (.iload_n 2, 1) := by decide +kernel
theorem dX0_workOut_85 : decode cX0_workOut 85 = .ok (.iaload, 1) := by decide +kernel
theorem dX0_workOut_86 : decode cX0_workOut 86 = .ok (.iadd, 1) := by decide +kernel
theorem dX0_workOut_87 : decode cX0_workOut 87 = .ok (.putfield 47, 3) := by decide +kernel
theorem dX0_workOut_90 : decode cX0_workOut 90 = .ok (.aload_n 0, 1) := by decide +kernel
theorem dX0_workOut_91 : decode cX0_workOut 91 = .ok (.aload_n 1, 1) := by decide +kernel
theorem dX0_workOut_92 : decode cX0_workOut 92 = .ok (.iload_n 3, 1) := by decide +kernel
theorem dX0_workOut_93 : decode cX0_workOut 93 = .ok (.invokevirtual 68, 3) := by decide +kernel
theorem dX0_workOut_96 : decode cX0_workOut 96 = .ok (.aload_n 0, 1) := by decide +kernel
theorem dX0_workOut_97 : decode cX0_workOut 97 = .ok (.getfield 15, 3) := by decide +kernel
theorem dX0_workOut_100 : decode cX0_workOut 100 = .ok (.iload_n 2, 1) := by decide +kernel
theorem dX0_workOut_101 : decode cX0_workOut 101 = .ok (.iconst 1, 1) := by decide +kernel
theorem dX0_workOut_102 : decode cX0_workOut 102 = .ok (.iadd, 1) := by decide +kernel
theorem dX0_workOut_103 : decode cX0_workOut 103 = .ok (.aload_n 0, 1) := by decide +kernel
theorem dX0_workOut_104 : decode cX0_workOut 104 = .ok (.getfield 43, 3) := by decide +kernel
theorem dX0_workOut_107 : decode cX0_workOut 107 = .ok (.iastore, 1) := by decide +kernel
theorem dX0_workOut_108 : decode cX0_workOut 108 = .ok (.iinc 2 1, 3) := by decide +kernel
theorem dX0_workOut_111 : decode cX0_workOut 111 = .ok (.goto (-89), 3) := by decide +kernel
theorem dX0_workOut_114 : decode cX0_workOut 114 = .ok (.return_, 1) := by decide +kernel
theorem dX0_findTrains_0 : decode cX0_findTrains 0 = .ok (.aload_n 0, 1) := by decide +kernel
theorem dX0_findTrains_1 : decode cX0_findTrains 1 = .ok (.iconst 0, 1) := by decide +kernel
theorem dX0_findTrains_2 : decode cX0_findTrains 2 = .ok (.putfield 53, 3) := by decide +kernel
theorem dX0_findTrains_5 : decode cX0_findTrains 5 = .ok (.iconst 0, 1) := by decide +kernel
theorem dX0_findTrains_6 : decode cX0_findTrains 6 = .ok (.istore_n 2, 1) := by decide +kernel
theorem dX0_findTrains_7 : decode cX0_findTrains 7 = .ok (.iload_n 2, 1) := by decide +kernel
theorem dX0_findTrains_8 : decode cX0_findTrains 8 = .ok (.aload_n 1, 1) := by decide +kernel
theorem dX0_findTrains_9 : decode cX0_findTrains 9 = .ok (.getfield 72, 3) := by decide +kernel
theorem dX0_findTrains_12 : decode cX0_findTrains 12 = .ok (.if_icmp .ge 71, 3) := by decide +kernel
theorem dX0_findTrains_15 : decode cX0_findTrains 15 = .ok (.iload_n 2, 1) := by decide +kernel
theorem dX0_findTrains_16 : decode cX0_findTrains 16 = .ok (.bipush 30, 2) := by decide +kernel
theorem dX0_findTrains_18 : decode cX0_findTrains 18 = .ok (.if_icmp .ge 65, 3) := by decide +kernel
theorem dX0_findTrains_21 : decode cX0_findTrains 21 = .ok (.aload_n 1, 1) := by decide +kernel
theorem dX0_findTrains_22 : decode cX0_findTrains 22 = .ok (.iload_n 2, 1) := by decide +kernel
theorem dX0_findTrains_23 : decode cX0_findTrains 23 = .ok (.invokevirtual 77, 3) := by decide +kernel
theorem dX0_findTrains_26 : decode cX0_findTrains 26 = .ok (.ifCond .eq 32, 3) := by decide +kernel
theorem dX0_findTrains_29 : decode cX0_findTrains 29 = .ok (.aload_n 0, 1) := by decide +kernel
theorem dX0_findTrains_30 : decode cX0_findTrains 30 = .ok (.getfield 53, 3) := by decide +kernel
theorem dX0_findTrains_33 : decode cX0_findTrains 33 = .ok (.bipush 30, 2) := by decide +kernel
theorem dX0_findTrains_35 : decode cX0_findTrains 35 = .ok (.if_icmp .ge 23, 3) := by decide +kernel
theorem dX0_findTrains_38 : decode cX0_findTrains 38 = .ok (.aload_n 0, 1) := by decide +kernel
theorem dX0_findTrains_39 : decode cX0_findTrains 39 = .ok (.getfield 9, 3) := by decide +kernel
theorem dX0_findTrains_42 : decode cX0_findTrains 42 = .ok (.aload_n 0, 1) := by decide +kernel
theorem dX0_findTrains_43 : decode cX0_findTrains 43 = .ok (.getfield 53, 3) := by decide +kernel
theorem dX0_findTrains_46 : decode cX0_findTrains 46 = .ok (.iload_n 2, 1) := by decide +kernel
theorem dX0_findTrains_47 : decode cX0_findTrains 47 = .ok (.iastore, 1) := by decide +kernel
theorem dX0_findTrains_48 : decode cX0_findTrains 48 = .ok (.aload_n 0, 1) := by decide +kernel
theorem dX0_findTrains_49 : decode cX0_findTrains 49 = .ok (.dup, 1) := by decide +kernel
theorem dX0_findTrains_50 : decode cX0_findTrains 50 = .ok (.getfield 53, 3) := by decide +kernel
theorem dX0_findTrains_53 : decode cX0_findTrains 53 = .ok (.iconst 1, 1) := by decide +kernel
theorem dX0_findTrains_54 : decode cX0_findTrains 54 = .ok (.iadd, 1) := by decide +kernel
theorem dX0_findTrains_55 : decode cX0_findTrains 55 = .ok (.putfield 53, 3) := by decide +kernel
theorem dX0_findTrains_58 : decode cX0_findTrains 58 = .ok (.aload_n 0, 1) := by decide +kernel
theorem dX0_findTrains_59 : decode cX0_findTrains 59 = .ok (.getfield 21, 3) := by decide +kernel
theorem dX0_findTrains_62 : decode cX0_findTrains 62 = .ok (.iload_n 2, 1) := by decide +kernel
theorem dX0_findTrains_63 : decode cX0_findTrains 63 = .ok (.aload_n 0, 1) := by decide +kernel
theorem dX0_findTrains_64 : decode cX0_findTrains 64 = .ok (.getfield 53, 3) := by decide +kernel
theorem dX0_findTrains_67 : decode cX0_findTrains 67 = .ok (.iconst 1, 1) := by decide +kernel
theorem dX0_findTrains_68 : decode cX0_findTrains 68 = .ok (.isub, 1) := by decide +kernel
theorem dX0_findTrains_69 : decode cX0_findTrains 69 = .ok (.iastore, 1) := by decide +kernel
theorem dX0_findTrains_70 : decode cX0_findTrains 70 = .ok (.aload_n 0, 1) := by decide +kernel
theorem dX0_findTrains_71 : decode cX0_findTrains 71 = .ok (.getfield 24, 3) := by decide +kernel
theorem dX0_findTrains_74 : decode cX0_findTrains 74 = .ok (.iload_n 2, 1) := by decide +kernel
theorem dX0_findTrains_75 : decode cX0_findTrains 75 = .ok (.iconst (-1), 1) := by decide +kernel
theorem dX0_findTrains_76 : decode cX0_findTrains 76 = .ok (.iastore, 1) := by decide +kernel
theorem dX0_findTrains_77 : decode cX0_findTrains 77 = .ok (.iinc 2 1, 3) := by decide +kernel
theorem dX0_findTrains_80 : decode cX0_findTrains 80 = .ok (.goto (-73), 3) := by decide +kernel
theorem dX0_findTrains_83 : decode cX0_findTrains 83 = .ok (.aload_n 0, 1) := by decide +kernel
theorem dX0_findTrains_84 : decode cX0_findTrains 84 = .ok (.getfield 53, 3) := by decide +kernel
theorem dX0_findTrains_87 : decode cX0_findTrains 87 = .ok (.bipush 30, 2) := by decide +kernel
theorem dX0_findTrains_89 : decode cX0_findTrains 89 = .ok (.if_icmp .gt 16, 3) := by decide +kernel
theorem dX0_findTrains_92 : decode cX0_findTrains 92 = .ok (.aload_n 0, 1) := by decide +kernel
theorem dX0_findTrains_93 : decode cX0_findTrains 93 = .ok (.getfield 9, 3) := by decide +kernel
theorem dX0_findTrains_96 : decode cX0_findTrains 96 = .ok (.aload_n 0, 1) := by decide +kernel
theorem dX0_findTrains_97 : decode cX0_findTrains 97 = .ok (.getfield 53, 3) := by decide +kernel
theorem dX0_findTrains_100 : decode cX0_findTrains 100 = .ok (.aload_n 1, 1) := by decide +kernel
theorem dX0_findTrains_101 : decode cX0_findTrains 101 = .ok (.getfield 72, 3) := by decide +kernel
theorem dX0_findTrains_104 : decode cX0_findTrains 104 = .ok (.iastore, 1) := by decide +kernel
theorem dX0_findTrains_105 : decode cX0_findTrains 105 = .ok (.return_, 1) := by decide +kernel
theorem dX0_findValues_0 : decode cX0_findValues 0 = .ok (.aload_n 1, 1) := by decide +kernel
theorem dX0_findValues_1 : decode cX0_findValues 1 = .ok (.getfield 81, 3) := by decide +kernel
theorem dX0_findValues_4 : decode cX0_findValues 4 = .ok (.iconst 1, 1) := by decide +kernel
theorem dX0_findValues_5 : decode cX0_findValues 5 = .ok (.invokestatic 60, 3) := by decide +kernel
theorem dX0_findValues_8 : decode cX0_findValues 8 = .ok (.istore 5, 2) := by decide +kernel
theorem dX0_findValues_10 : decode cX0_findValues 10 = .ok (.iload_n 3, 1) := by decide +kernel
theorem dX0_findValues_11 : decode cX0_findValues 11 = .ok (.bipush 30, 2) := by decide +kernel
theorem dX0_findValues_13 : decode cX0_findValues 13 = .ok (.invokestatic 84, 3) := by decide +kernel
theorem dX0_findValues_16 : decode cX0_findValues 16 = .ok (.istore 6, 2) := by decide +kernel
theorem dX0_findValues_18 : decode cX0_findValues 18 = .ok (.iload 6, 2) := by decide +kernel
theorem dX0_findValues_20 : decode cX0_findValues 20 = .ok (.iload_n 2, 1) := by decide +kernel
theorem dX0_findValues_21 : decode cX0_findValues 21 = .ok (.if_icmp .lt 105, 3) := by decide +kernel
theorem dX0_findValues_24 : decode cX0_findValues 24 = .ok (.iload 6, 2) := by decide +kernel
theorem dX0_findValues_26 : decode cX0_findValues 26 = .ok (.ifCond .lt 100, 3) := by decide +kernel
theorem dX0_findValues_29 : decode cX0_findValues 29 = .ok (.iload 6, 2) := by decide +kernel
theorem dX0_findValues_31 : decode cX0_findValues 31 = .ok (.iconst 1, 1) := by decide +kernel
theorem dX0_findValues_32 : decode cX0_findValues 32 = .ok (.iadd, 1) := by decide +kernel
theorem dX0_findValues_33 : decode cX0_findValues 33 = .ok (.iload_n 3, 1) := by decide +kernel
theorem dX0_findValues_34 : decode cX0_findValues 34 = .ok (.if_icmp .ge 23, 3) := by decide +kernel
theorem dX0_findValues_37 : decode cX0_findValues 37 = .ok (.iload 6, 2) := by decide +kernel
theorem dX0_findValues_39 : decode cX0_findValues 39 = .ok (.iload 4, 2) := by decide +kernel
theorem dX0_findValues_41 : decode cX0_findValues 41 = .ok (.if_icmp .eq 16, 3) := by decide +kernel
theorem dX0_findValues_44 : decode cX0_findValues 44 = .ok (.iload 6, 2) := by decide +kernel
theorem dX0_findValues_46 : decode cX0_findValues 46 = .ok (.iconst 1, 1) := by decide +kernel
theorem dX0_findValues_47 : decode cX0_findValues 47 = .ok (.iadd, 1) := by decide +kernel
theorem dX0_findValues_48 : decode cX0_findValues 48 = .ok (.iload 4, 2) := by decide +kernel
theorem dX0_findValues_50 : decode cX0_findValues 50 = .ok (.if_icmp .eq 7, 3) := by decide +kernel
theorem dX0_findValues_53 : decode cX0_findValues 53 = .ok (.iconst 1, 1) := by decide +kernel
theorem dX0_findValues_54 : decode cX0_findValues 54 = .ok (.goto 4, 3) := by decide +kernel
theorem dX0_findValues_57 : decode cX0_findValues 57 = .ok (.iconst 0, 1) := by decide +kernel
theorem dX0_findValues_58 : decode cX0_findValues 58 = .ok (.istore 7, 2) := by decide +kernel
theorem dX0_findValues_60 : decode cX0_findValues 60 = .ok (.aload_n 0, 1) := by decide +kernel
theorem dX0_findValues_61 : decode cX0_findValues 61 = .ok (.getfield 30, 3) := by decide +kernel
theorem dX0_findValues_64 : decode cX0_findValues 64 = .ok (.iload 6, 2) := by decide +kernel
theorem dX0_findValues_66 : decode cX0_findValues 66 = .ok (.iload 7, 2) := by decide +kernel
theorem dX0_findValues_68 : decode cX0_findValues 68 = .ok (.ifCond .eq 29, 3) := by decide +kernel
theorem dX0_findValues_71 : decode cX0_findValues 71 = .ok (.bipush 100, 2) := by decide +kernel
theorem dX0_findValues_73 : decode cX0_findValues 73 = .ok (.aload_n 1, 1) := by decide +kernel
theorem dX0_findValues_74 : decode cX0_findValues 74 = .ok (.iload 6, 2) := by decide +kernel
theorem dX0_findValues_76 : decode cX0_findValues 76 = .ok (.invokevirtual 90, 3) := by decide +kernel
theorem dX0_findValues_79 : decode cX0_findValues 79 = .ok (.imul, 1) := by decide +kernel
theorem dX0_findValues_80 : decode cX0_findValues 80 = .ok (.iconst 1, 1) := by decide +kernel
theorem dX0_findValues_81 : decode cX0_findValues 81 = .ok (.isub, 1) := by decide +kernel
theorem dX0_findValues_82 : decode cX0_findValues 82 = .ok (.aload_n 0, 1) := by decide +kernel
theorem dX0_findValues_83 : decode cX0_findValues 83 = .ok (.getfield 33, 3) := by decide +kernel
theorem dX0_findValues_86 : decode cX0_findValues 86 = .ok (.iload 6, 2) := by decide +kernel
theorem dX0_findValues_88 : decode cX0_findValues 88 = .ok (.iconst 2, 1) := by decide +kernel
theorem dX0_findValues_89 : decode cX0_findValues 89 = .ok (.iadd, 1) := by decide +kernel
theorem dX0_findValues_90 : decode cX0_findValues 90 = .ok (.invokestatic 60, 3) := by decide +kernel
theorem dX0_findValues_93 : decode cX0_findValues 93 = .ok (.iadd, 1) := by decide +kernel
theorem dX0_findValues_94 : decode cX0_findValues 94 = .ok (.goto 5, 3) := by decide +kernel
theorem dX0_findValues_97 : decode cX0_findValues 97 = .ok (.ldc 93, 2) := by decide +kernel
theorem dX0_findValues_99 : decode cX0_findValues 99 = .ok (.iastore, 1) := by decide +kernel
theorem dX0_findValues_100 : decode cX0_findValues 100 = .ok (.aload_n 0, 1) := by decide +kernel
theorem dX0_findValues_101 : decode cX0_findValues 101 = .ok (.aload_n 1, 1) := by decide +kernel
theorem dX0_findValues_102 : decode cX0_findValues 102 = .ok (.iload 6, 2) := by decide +kernel
theorem dX0_findValues_104 : decode cX0_findValues 104 = .ok (.iload_n 3, 1) := by decide +kernel
theorem dX0_findValues_105 : decode cX0_findValues 105 = .ok (.iload 6, 2) := by decide +kernel
theorem dX0_findValues_107 : decode cX0_findValues 107 = .ok (.iload_n 2, 1) := by decide +kernel
theorem dX0_findValues_108 : decode cX0_findValues 108 = .ok (.if_icmp .ne 7, 3) := by decide +kernel
theorem dX0_findValues_111 : decode cX0_findValues 111 = .ok (.iconst 0, 1) := by decide +kernel
theorem dX0_findValues_112 : decode cX0_findValues 112 = .ok (.goto 5, 3) := by decide +kernel
theorem dX0_findValues_115 : decode cX0_findValues 115 = .ok (.iload 5, 2) := by decide +kernel
theorem dX0_findValues_117 : decode cX0_findValues 117 = .ok (.invokevirtual 94, 3) := by decide +kernel
theorem dX0_findValues_120 : decode cX0_findValues 120 = .ok (.iinc 6 (-1), 3) := by decide +kernel
theorem dX0_findValues_123 : decode cX0_findValues 123 = .ok (.goto (-105), 3) := by decide +kernel
theorem dX0_findValues_126 : decode cX0_findValues 126 = .ok (.return_, 1) := by decide +kernel
theorem dX0_chooseCar_0 : decode cX0_chooseCar 0 = .ok (.aload_n 1, 1) := by decide +kernel
theorem dX0_chooseCar_1 : decode cX0_chooseCar 1 = .ok (.getfield 81, 3) := by decide +kernel
theorem dX0_chooseCar_4 : decode cX0_chooseCar 4 = .ok (.iconst 2, 1) := by decide +kernel
theorem dX0_chooseCar_5 : decode cX0_chooseCar 5 = .ok (.invokestatic 60, 3) := by decide +kernel
theorem dX0_chooseCar_8 : decode cX0_chooseCar 8 = .ok (.istore 5, 2) := by decide +kernel
theorem dX0_chooseCar_10 : decode cX0_chooseCar 10 = .ok (.bipush 100, 2) := by decide +kernel
theorem dX0_chooseCar_12 : decode cX0_chooseCar 12 = .ok (.iload 5, 2) := by decide +kernel
theorem dX0_chooseCar_14 : decode cX0_chooseCar 14 = .ok (.imul, 1) := by decide +kernel
theorem dX0_chooseCar_15 : decode cX0_chooseCar 15 = .ok (.iload_n 3, 1) := by decide +kernel
theorem dX0_chooseCar_16 : decode cX0_chooseCar 16 = .ok (.iload_n 2, 1) := by decide +kernel
theorem dX0_chooseCar_17 : decode cX0_chooseCar 17 = .ok (.isub, 1) := by decide +kernel
theorem dX0_chooseCar_18 : decode cX0_chooseCar 18 = .ok (.imul, 1) := by decide +kernel
theorem dX0_chooseCar_19 : decode cX0_chooseCar 19 = .ok (.istore 6, 2) := by decide +kernel
theorem dX0_chooseCar_21 : decode cX0_chooseCar 21 = .ok (.iconst (-1), 1) := by decide +kernel
theorem dX0_chooseCar_22 : decode cX0_chooseCar 22 = .ok (.istore 7, 2) := by decide +kernel
theorem dX0_chooseCar_24 : decode cX0_chooseCar 24 = .ok (.iconst 0, 1) := by decide +kernel
theorem dX0_chooseCar_25 : decode cX0_chooseCar 25 = .ok (.istore 8, 2) := by decide +kernel
theorem dX0_chooseCar_27 : decode cX0_chooseCar 27 = .ok (.iload_n 2, 1) := by decide +kernel
theorem dX0_chooseCar_28 : decode cX0_chooseCar 28 = .ok (.istore 9, 2) := by decide +kernel
theorem dX0_chooseCar_30 : decode cX0_chooseCar 30 = .ok (.iload 9, 2) := by decide +kernel
theorem dX0_chooseCar_32 : decode cX0_chooseCar 32 = .ok (.iconst 1, 1) := by decide +kernel
theorem dX0_chooseCar_33 : decode cX0_chooseCar 33 = .ok (.iadd, 1) := by decide +kernel
theorem dX0_chooseCar_34 : decode cX0_chooseCar 34 = .ok (.iload_n 3, 1) := by decide +kernel
theorem dX0_chooseCar_35 : decode cX0_chooseCar 35 = .ok (.if_icmp .ge 76, 3) := by decide +kernel
theorem dX0_chooseCar_38 : decode cX0_chooseCar 38 = .ok (.iload 8, 2) := by decide +kernel
theorem dX0_chooseCar_40 : decode cX0_chooseCar 40 = .ok (.aload_n 1, 1) := by decide +kernel
theorem dX0_chooseCar_41 : decode cX0_chooseCar 41 = .ok (.getfield 97, 3) := by decide +kernel
theorem dX0_chooseCar_44 : decode cX0_chooseCar 44 = .ok (.iload 9, 2) := by decide +kernel
theorem dX0_chooseCar_46 : decode cX0_chooseCar 46 = .ok (.invokestatic 60, 3) := by decide +kernel
theorem dX0_chooseCar_49 : decode cX0_chooseCar 49 = .ok (.iadd, 1) := by decide +kernel
theorem dX0_chooseCar_50 : decode cX0_chooseCar 50 = .ok (.istore 8, 2) := by decide +kernel
theorem dX0_chooseCar_52 : decode cX0_chooseCar 52 = .ok (.iload 5, 2) := by decide +kernel
theorem dX0_chooseCar_54 : decode cX0_chooseCar 54 = .ok (.iload 9, 2) := by decide +kernel
theorem dX0_chooseCar_56 : decode cX0_chooseCar 56 = .ok (.iload_n 2, 1) := by decide +kernel
theorem dX0_chooseCar_57 : decode cX0_chooseCar 57 = .ok (.isub, 1) := by decide +kernel
theorem dX0_chooseCar_58 : decode cX0_chooseCar 58 = .ok (.imul, 1) := by decide +kernel
theorem dX0_chooseCar_59 : decode cX0_chooseCar 59 = .ok (.iconst 2, 1) := by decide +kernel
theorem dX0_chooseCar_60 : decode cX0_chooseCar 60 = .ok (.iload 4, 2) := by decide +kernel
theorem dX0_chooseCar_62 : decode cX0_chooseCar 62 = .ok (.iload 8, 2) := by decide +kernel
theorem dX0_chooseCar_64 : decode cX0_chooseCar 64 = .ok (.isub, 1) := by decide +kernel
theorem dX0_chooseCar_65 : decode cX0_chooseCar 65 = .ok (.iconst 0, 1) := by decide +kernel
theorem dX0_chooseCar_66 : decode cX0_chooseCar 66 = .ok (.invokestatic 100, 3) := by decide +kernel
theorem dX0_chooseCar_69 : decode cX0_chooseCar 69 = .ok (.imul, 1) := by decide +kernel
theorem dX0_chooseCar_70 : decode cX0_chooseCar 70 = .ok (.iadd, 1) := by decide +kernel
theorem dX0_chooseCar_71 : decode cX0_chooseCar 71 = .ok (.istore 10, 2) := by decide +kernel
theorem dX0_chooseCar_73 : decode cX0_chooseCar 73 = .ok (.bipush 100, 2) := by decide +kernel
theorem dX0_chooseCar_75 : decode cX0_chooseCar 75 = .ok (.iload 10, 2) := by decide +kernel
theorem dX0_chooseCar_77 : decode cX0_chooseCar 77 = .ok (.imul, 1) := by decide +kernel
theorem dX0_chooseCar_78 : decode cX0_chooseCar 78 = .ok (.aload_n 0, 1) := by decide +kernel
theorem dX0_chooseCar_79 : decode cX0_chooseCar 79 = .ok (.getfield 30, 3) := by decide +kernel
theorem dX0_chooseCar_82 : decode cX0_chooseCar 82 = .ok (.iload 9, 2) := by decide +kernel
theorem dX0_chooseCar_84 : decode cX0_chooseCar 84 = .ok (.invokestatic 60, 3) := by decide +kernel
theorem dX0_chooseCar_87 : decode cX0_chooseCar 87 = .ok (.iadd, 1) := by decide +kernel
theorem dX0_chooseCar_88 : decode cX0_chooseCar 88 = .ok (.istore 11, 2) := by decide +kernel
theorem dX0_chooseCar_90 : decode cX0_chooseCar 90 = .ok (.iload 11, 2) := by decide +kernel
theorem dX0_chooseCar_92 : decode cX0_chooseCar 92 = .ok (.iload 6, 2) := by decide +kernel
theorem dX0_chooseCar_94 : decode cX0_chooseCar 94 = .ok (.if_icmp .ge 11, 3) := by decide +kernel
theorem dX0_chooseCar_97 : decode cX0_chooseCar 97 = .ok (.iload 11, 2) := by decide +kernel
theorem dX0_chooseCar_99 : decode cX0_chooseCar 99 = .ok (.istore 6, 2) := by decide +kernel
theorem dX0_chooseCar_101 : decode cX0_chooseCar 101 = .ok (.iload 9, 2) := by decide +kernel
theorem dX0_chooseCar_103 : decode cX0_chooseCar 103 = .ok (.istore 7, 2) := by decide +kernel
theorem dX0_chooseCar_105 : decode cX0_chooseCar 105 = .ok (.iinc 9 1, 3) := by decide +kernel
theorem dX0_chooseCar_108 : decode cX0_chooseCar 108 = .ok (.goto (-78), 3) := by decide +kernel
theorem dX0_chooseCar_111 : decode cX0_chooseCar 111 = .ok (.iload_n 2, 1) := by decide +kernel
theorem dX0_chooseCar_112 : decode cX0_chooseCar 112 = .ok (.ifCond .lt 25, 3) := by decide +kernel
theorem dX0_chooseCar_115 : decode cX0_chooseCar 115 = .ok (.iload_n 2, 1) := by decide +kernel
theorem dX0_chooseCar_116 : decode cX0_chooseCar 116 = .ok (.bipush 30, 2) := by decide +kernel
theorem dX0_chooseCar_118 : decode cX0_chooseCar 118 = .ok (.if_icmp .gt 19, 3) := by decide +kernel
theorem dX0_chooseCar_121 : decode cX0_chooseCar 121 = .ok (.aload_n 0, 1) := by decide +kernel
theorem dX0_chooseCar_122 : decode cX0_chooseCar 122 = .ok (.getfield 33, 3) := by decide +kernel
theorem dX0_chooseCar_125 : decode cX0_chooseCar 125 = .ok (.iload_n 2, 1) := by decide +kernel
theorem dX0_chooseCar_126 : decode cX0_chooseCar 126 = .ok (.iload 6, 2) := by decide +kernel
theorem dX0_chooseCar_128 : decode cX0_chooseCar 128 = .ok (.iastore, 1) := by decide +kernel
theorem dX0_chooseCar_129 : decode cX0_chooseCar 129 = .ok (.aload_n 0, 1) := by decide +kernel
theorem dX0_chooseCar_130 : decode cX0_chooseCar 130 = .ok (.getfield 36, 3) := by decide +kernel
theorem dX0_chooseCar_133 : decode cX0_chooseCar 133 = .ok (.iload_n 2, 1) := by decide +kernel
theorem dX0_chooseCar_134 : decode cX0_chooseCar 134 = .ok (.iload 7, 2) := by decide +kernel
theorem dX0_chooseCar_136 : decode cX0_chooseCar 136 = .ok (.iastore, 1) := by decide +kernel
theorem dX0_chooseCar_137 : decode cX0_chooseCar 137 = .ok (.return_, 1) := by decide +kernel
theorem dX0_costOf_0 : decode cX0_costOf 0 = .ok (.iload_n 0, 1) := by decide +kernel
theorem dX0_costOf_1 : decode cX0_costOf 1 = .ok (.bipush 100, 2) := by decide +kernel
theorem dX0_costOf_3 : decode cX0_costOf 3 = .ok (.iadd, 1) := by decide +kernel
theorem dX0_costOf_4 : decode cX0_costOf 4 = .ok (.iconst 1, 1) := by decide +kernel
theorem dX0_costOf_5 : decode cX0_costOf 5 = .ok (.isub, 1) := by decide +kernel
theorem dX0_costOf_6 : decode cX0_costOf 6 = .ok (.bipush 100, 2) := by decide +kernel
theorem dX0_costOf_8 : decode cX0_costOf 8 = .ok (.invokestatic 103, 3) := by decide +kernel
theorem dX0_costOf_11 : decode cX0_costOf 11 = .ok (.ireturn, 1) := by decide +kernel
theorem dX0_takeCars_0 : decode cX0_takeCars 0 = .ok (.aload_n 0, 1) := by decide +kernel
theorem dX0_takeCars_1 : decode cX0_takeCars 1 = .ok (.getfield 36, 3) := by decide +kernel
theorem dX0_takeCars_4 : decode cX0_takeCars 4 = .ok (.iload_n 2, 1) := by decide +kernel
theorem dX0_takeCars_5 : decode cX0_takeCars 5 = .ok (.invokestatic 60, 3) := by decide +kernel
theorem dX0_takeCars_8 : decode cX0_takeCars 8 = .ok (.istore_n 3, 1) := by decide +kernel
theorem dX0_takeCars_9 : decode cX0_takeCars 9 = .ok (.iload_n 3, 1) := by decide +kernel
theorem dX0_takeCars_10 : decode cX0_takeCars 10 = .ok (.iconst (-1), 1) := by decide +kernel
theorem dX0_takeCars_11 : decode cX0_takeCars 11 = .ok (.if_icmp .eq 97, 3) := by decide +kernel
theorem dX0_takeCars_14 : decode cX0_takeCars 14 = .ok (.aload_n 0, 1) := by decide +kernel
theorem dX0_takeCars_15 : decode cX0_takeCars 15 = .ok (.getfield 43, 3) := by decide +kernel
theorem dX0_takeCars_18 : decode cX0_takeCars 18 = .ok (.bipush 15, 2) := by decide +kernel
theorem dX0_takeCars_20 : decode cX0_takeCars 20 = .ok (.if_icmp .ge 88, 3) := by decide +kernel
theorem dX0_takeCars_23 : decode cX0_takeCars 23 = .ok (.iload_n 3, 1) := by decide +kernel
theorem dX0_takeCars_24 : decode cX0_takeCars 24 = .ok (.ifCond .lt 84, 3) := by decide +kernel
theorem dX0_takeCars_27 : decode cX0_takeCars 27 = .ok (.iload_n 3, 1) := by decide +kernel
theorem dX0_takeCars_28 : decode cX0_takeCars 28 = .ok (.iconst 1, 1) := by decide +kernel
theorem dX0_takeCars_29 : decode cX0_takeCars 29 = .ok (.iadd, 1) := by decide +kernel
theorem dX0_takeCars_30 : decode cX0_takeCars 30 = .ok (.bipush 30, 2) := by decide +kernel
theorem dX0_takeCars_32 : decode cX0_takeCars 32 = .ok (.if_icmp .lt 6, 3) := by decide +kernel
theorem dX0_takeCars_35 : decode cX0_takeCars 35 = .ok (.goto 73, 3) := by decide +kernel
theorem dX0_takeCars_38 : decode cX0_takeCars 38 = .ok (.aload_n 0, 1) := by decide +kernel
theorem dX0_takeCars_39 : decode cX0_takeCars 39 = .ok (.getfield 27, 3) := by decide +kernel
theorem dX0_takeCars_42 : decode cX0_takeCars 42 = .ok (.aload_n 0, 1) := by decide +kernel
theorem dX0_takeCars_43 : decode cX0_takeCars 43 = .ok (.getfield 43, 3) := by decide +kernel
theorem dX0_takeCars_46 : decode cX0_takeCars 46 = .ok (.iload_n 3, 1) := by decide +kernel
theorem dX0_takeCars_47 : decode cX0_takeCars 47 = .ok (.iastore, 1) := by decide +kernel
theorem dX0_takeCars_48 : decode cX0_takeCars 48 = .ok (.aload_n 0, 1) := by decide +kernel
theorem dX0_takeCars_49 : decode cX0_takeCars 49 = .ok (.getfield 24, 3) := by decide +kernel
theorem dX0_takeCars_52 : decode cX0_takeCars 52 = .ok (.iload_n 3, 1) := by decide +kernel
theorem dX0_takeCars_53 : decode cX0_takeCars 53 = .ok (.aload_n 0, 1) := by decide +kernel
theorem dX0_takeCars_54 : decode cX0_takeCars 54 = .ok (.getfield 43, 3) := by decide +kernel
theorem dX0_takeCars_57 : decode cX0_takeCars 57 = .ok (.iastore, 1) := by decide +kernel
theorem dX0_takeCars_58 : decode cX0_takeCars 58 = .ok (.aload_n 0, 1) := by decide +kernel
theorem dX0_takeCars_59 : decode cX0_takeCars 59 = .ok (.getfield 24, 3) := by decide +kernel
theorem dX0_takeCars_62 : decode cX0_takeCars 62 = .ok (.iload_n 3, 1) := by decide +kernel
theorem dX0_takeCars_63 : decode cX0_takeCars 63 = .ok (.iconst 1, 1) := by decide +kernel
theorem dX0_takeCars_64 : decode cX0_takeCars 64 = .ok (.iadd, 1) := by decide +kernel
theorem dX0_takeCars_65 : decode cX0_takeCars 65 = .ok (.aload_n 0, 1) := by decide +kernel
theorem dX0_takeCars_66 : decode cX0_takeCars 66 = .ok (.getfield 43, 3) := by decide +kernel
theorem dX0_takeCars_69 : decode cX0_takeCars 69 = .ok (.iastore, 1) := by decide +kernel
theorem dX0_takeCars_70 : decode cX0_takeCars 70 = .ok (.aload_n 0, 1) := by decide +kernel
theorem dX0_takeCars_71 : decode cX0_takeCars 71 = .ok (.dup, 1) := by decide +kernel
theorem dX0_takeCars_72 : decode cX0_takeCars 72 = .ok (.getfield 50, 3) := by decide +kernel
theorem dX0_takeCars_75 : decode cX0_takeCars 75 = .ok (.aload_n 1, 1) := by decide +kernel
theorem dX0_takeCars_76 : decode cX0_takeCars 76 = .ok (.iload_n 3, 1) := by decide +kernel
theorem dX0_takeCars_77 : decode cX0_takeCars 77 = .ok (.invokevirtual 106, 3) := by decide +kernel
theorem dX0_takeCars_80 : decode cX0_takeCars 80 = .ok (.iadd, 1) := by decide +kernel
theorem dX0_takeCars_81 : decode cX0_takeCars 81 = .ok (.putfield 50, 3) := by decide +kernel
theorem dX0_takeCars_84 : decode cX0_takeCars 84 = .ok (.aload_n 0, 1) := by decide +kernel
theorem dX0_takeCars_85 : decode cX0_takeCars 85 = .ok (.dup, 1) := by decide +kernel
theorem dX0_takeCars_86 : decode cX0_takeCars 86 = .ok (.getfield 43, 3) := by decide +kernel
theorem dX0_takeCars_89 : decode cX0_takeCars 89 = .ok (.iconst 1, 1) := by decide +kernel
theorem dX0_takeCars_90 : decode cX0_takeCars 90 = .ok (.iadd, 1) := by decide +kernel
theorem dX0_takeCars_91 : decode cX0_takeCars 91 = .ok (.putfield 43, 3) := by decide +kernel
theorem dX0_takeCars_94 : decode cX0_takeCars 94 = .ok (.aload_n 0, 1) := by decide +kernel
theorem dX0_takeCars_95 : decode cX0_takeCars 95 = .ok (.getfield 36, 3) := by decide +kernel
theorem dX0_takeCars_98 : decode cX0_takeCars 98 = .ok (.iload_n 3, 1) := by decide +kernel
theorem dX0_takeCars_99 : decode cX0_takeCars 99 = .ok (.iconst 2, 1) := by decide +kernel
theorem dX0_takeCars_100 : decode cX0_takeCars 100 = .ok (.iadd, 1) := by decide +kernel
theorem dX0_takeCars_101 : decode cX0_takeCars 101 = .ok (.invokestatic 60, 3) := by decide +kernel
theorem dX0_takeCars_104 : decode cX0_takeCars 104 = .ok (.istore_n 3, 1) := by decide +kernel
theorem dX0_takeCars_105 : decode cX0_takeCars 105 = .ok (.goto (-96), 3) := by decide +kernel
theorem dX0_takeCars_108 : decode cX0_takeCars 108 = .ok (.return_, 1) := by decide +kernel
theorem dX0_axlesOfTrain_0 : decode cX0_axlesOfTrain 0 = .ok (.aload_n 0, 1) := by decide +kernel
theorem dX0_axlesOfTrain_1 : decode cX0_axlesOfTrain 1 = .ok (.getfield 9, 3) := by decide +kernel
theorem dX0_axlesOfTrain_4 : decode cX0_axlesOfTrain 4 = .ok (.iload_n 1, 1) := by decide +kernel
theorem dX0_axlesOfTrain_5 : decode cX0_axlesOfTrain 5 = .ok (.iconst 1, 1) := by decide +kernel
theorem dX0_axlesOfTrain_6 : decode cX0_axlesOfTrain 6 = .ok (.iadd, 1) := by decide +kernel
theorem dX0_axlesOfTrain_7 : decode cX0_axlesOfTrain 7 = .ok (.invokestatic 60, 3) := by decide +kernel
theorem dX0_axlesOfTrain_10 : decode cX0_axlesOfTrain 10 = .ok (.aload_n 0, 1) := by decide +kernel
theorem dX0_axlesOfTrain_11 : decode cX0_axlesOfTrain 11 = .ok (.getfield 9, 3) := by decide +kernel
theorem dX0_axlesOfTrain_14 : decode cX0_axlesOfTrain 14 = .ok (.iload_n 1, 1) := by decide +kernel
theorem dX0_axlesOfTrain_15 : decode cX0_axlesOfTrain 15 = .ok (.invokestatic 60, 3) := by decide +kernel
theorem dX0_axlesOfTrain_18 : decode cX0_axlesOfTrain 18 = .ok (.isub, 1) := by decide +kernel
theorem dX0_axlesOfTrain_19 : decode cX0_axlesOfTrain 19 = .ok (.ireturn, 1) := by decide +kernel
theorem dX0_carsOfTrain_0 : decode cX0_carsOfTrain 0 = .ok (.aload_n 0, 1) := by decide +kernel
theorem dX0_carsOfTrain_1 : decode cX0_carsOfTrain 1 = .ok (.getfield 15, 3) := by decide +kernel
theorem dX0_carsOfTrain_4 : decode cX0_carsOfTrain 4 = .ok (.iload_n 1, 1) := by decide +kernel
theorem dX0_carsOfTrain_5 : decode cX0_carsOfTrain 5 = .ok (.iconst 1, 1) := by decide +kernel
theorem dX0_carsOfTrain_6 : decode cX0_carsOfTrain 6 = .ok (.iadd, 1) := by decide +kernel
theorem dX0_carsOfTrain_7 : decode cX0_carsOfTrain 7 = .ok (.invokestatic 60, 3) := by decide +kernel
theorem dX0_carsOfTrain_10 : decode cX0_carsOfTrain 10 = .ok (.aload_n 0, 1) := by decide +kernel
theorem dX0_carsOfTrain_11 : decode cX0_carsOfTrain 11 = .ok (.getfield 15, 3) := by decide +kernel
theorem dX0_carsOfTrain_14 : decode cX0_carsOfTrain 14 = .ok (.iload_n 1, 1) := by decide +kernel
theorem dX0_carsOfTrain_15 : decode cX0_carsOfTrain 15 = .ok (.invokestatic 60, 3) := by decide +kernel
theorem dX0_carsOfTrain_18 : decode cX0_carsOfTrain 18 = .ok (.isub, 1) := by decide +kernel
theorem dX0_carsOfTrain_19 : decode cX0_carsOfTrain 19 = .ok (.ireturn, 1) := by decide +kernel
theorem dX0_weightOfTrain_0 : decode cX0_weightOfTrain 0 = .ok (.iconst 0, 1) := by decide +kernel
theorem dX0_weightOfTrain_1 : decode cX0_weightOfTrain 1 = .ok (.istore_n 3, 1) := by decide +kernel
theorem dX0_weightOfTrain_2 : decode cX0_weightOfTrain 2 = .ok (.aload_n 0, 1) := by decide +kernel
theorem dX0_weightOfTrain_3 : decode cX0_weightOfTrain 3 = .ok (.getfield 15, 3) := by decide +kernel
theorem dX0_weightOfTrain_6 : decode cX0_weightOfTrain 6 = .ok (.iload_n 2, 1) := by decide +kernel
theorem dX0_weightOfTrain_7 : decode cX0_weightOfTrain 7 = .ok (.invokestatic 60, 3) := by decide +kernel
theorem dX0_weightOfTrain_10 : decode cX0_weightOfTrain 10 = .ok (.istore 4, 2) := by decide +kernel
theorem dX0_weightOfTrain_12 : decode cX0_weightOfTrain 12 = .ok (.iload 4, 2) := by decide +kernel
theorem dX0_weightOfTrain_14 : decode cX0_weightOfTrain 14 = .ok (.aload_n 0, 1) := by decide +kernel
theorem dX0_weightOfTrain_15 : decode cX0_weightOfTrain 15 = .ok (.getfield 15, 3) := by decide +kernel
theorem dX0_weightOfTrain_18 : decode cX0_weightOfTrain 18 = .ok (.iload_n 2, 1) := by decide +kernel
theorem dX0_weightOfTrain_19 : decode cX0_weightOfTrain 19 = .ok (.iconst 1, 1) := by decide +kernel
theorem dX0_weightOfTrain_20 : decode cX0_weightOfTrain 20 = .ok (.iadd, 1) := by decide +kernel
theorem dX0_weightOfTrain_21 : decode cX0_weightOfTrain 21 = .ok (.invokestatic 60, 3) := by decide +kernel
theorem dX0_weightOfTrain_24 : decode cX0_weightOfTrain 24 = .ok (.if_icmp .ge 25, 3) := by decide +kernel
theorem dX0_weightOfTrain_27 : decode cX0_weightOfTrain 27 = .ok (.iload_n 3, 1) := by decide +kernel
theorem dX0_weightOfTrain_28 : decode cX0_weightOfTrain 28 = .ok (.aload_n 1, 1) := by decide +kernel
theorem dX0_weightOfTrain_29 : decode cX0_weightOfTrain 29 = .ok (.aload_n 0, 1) := by decide +kernel
theorem dX0_weightOfTrain_30 : decode cX0_weightOfTrain 30 = .ok (.getfield 27, 3) := by decide +kernel
theorem dX0_weightOfTrain_33 : decode cX0_weightOfTrain 33 = .ok (.iload 4, 2) := by decide +kernel
theorem dX0_weightOfTrain_35 : decode cX0_weightOfTrain 35 = .ok (.invokestatic 60, 3) := by decide +kernel
theorem dX0_weightOfTrain_38 : decode cX0_weightOfTrain 38 = .ok (.invokevirtual 106, 3) := by decide +kernel
theorem dX0_weightOfTrain_41 : decode cX0_weightOfTrain 41 = .ok (.iadd, 1) := by decide +kernel
theorem dX0_weightOfTrain_42 : decode cX0_weightOfTrain 42 = .ok (.istore_n 3, 1) := by decide +kernel
theorem dX0_weightOfTrain_43 : decode cX0_weightOfTrain 43 = .ok (.iinc 4 1, 3) := by decide +kernel
theorem dX0_weightOfTrain_46 : decode cX0_weightOfTrain 46 = .ok (.goto (-34), 3) := by decide +kernel
theorem dX0_weightOfTrain_49 : decode cX0_weightOfTrain 49 = .ok (.iload_n 3, 1) := by decide +kernel
theorem dX0_weightOfTrain_50 : decode cX0_weightOfTrain 50 = .ok (.ireturn, 1) := by decide +kernel
theorem dX0_greatestWeight_0 : decode cX0_greatestWeight 0 = .ok (.iconst (-1), 1) := by decide +kernel
theorem dX0_greatestWeight_1 : decode cX0_greatestWeight 1 = .ok (.istore_n 3, 1) := by decide +kernel
theorem dX0_greatestWeight_2 : decode cX0_greatestWeight 2 = .ok (.aload_n 0, 1) := by decide +kernel
theorem dX0_greatestWeight_3 : decode cX0_greatestWeight 3 = .ok (.getfield 15, 3) := by decide +kernel
theorem dX0_greatestWeight_6 : decode cX0_greatestWeight 6 = .ok (.iload_n 2, 1) := by decide +kernel
theorem dX0_greatestWeight_7 : decode cX0_greatestWeight 7 = .ok (.invokestatic 60, 3) := by decide +kernel
theorem dX0_greatestWeight_10 : decode cX0_greatestWeight 10 = .ok (.istore 4, 2) := by decide +kernel
theorem dX0_greatestWeight_12 : decode cX0_greatestWeight 12 = .ok (.iload 4, 2) := by decide +kernel
theorem dX0_greatestWeight_14 : decode cX0_greatestWeight 14 = .ok (.aload_n 0, 1) := by decide +kernel
theorem dX0_greatestWeight_15 : decode cX0_greatestWeight 15 = .ok (.getfield 15, 3) := by decide +kernel
theorem dX0_greatestWeight_18 : decode cX0_greatestWeight 18 = .ok (.iload_n 2, 1) := by decide +kernel
theorem dX0_greatestWeight_19 : decode cX0_greatestWeight 19 = .ok (.iconst 1, 1) := by decide +kernel
theorem dX0_greatestWeight_20 : decode cX0_greatestWeight 20 = .ok (.iadd, 1) := by decide +kernel
theorem dX0_greatestWeight_21 : decode cX0_greatestWeight 21 = .ok (.invokestatic 60, 3) := by decide +kernel
theorem dX0_greatestWeight_24 : decode cX0_greatestWeight 24 = .ok (.if_icmp .ge 27, 3) := by decide +kernel
theorem dX0_greatestWeight_27 : decode cX0_greatestWeight 27 = .ok (.iload_n 3, 1) := by decide +kernel
theorem dX0_greatestWeight_28 : decode cX0_greatestWeight 28 = .ok (.aload_n 1, 1) := by decide +kernel
theorem dX0_greatestWeight_29 : decode cX0_greatestWeight 29 = .ok (.aload_n 0, 1) := by decide +kernel
theorem dX0_greatestWeight_30 : decode cX0_greatestWeight 30 = .ok (.getfield 27, 3) := by decide +kernel
theorem dX0_greatestWeight_33 : decode cX0_greatestWeight 33 = .ok (.iload 4, 2) := by decide +kernel
theorem dX0_greatestWeight_35 : decode cX0_greatestWeight 35 = .ok (.invokestatic 60, 3) := by decide +kernel
theorem dX0_greatestWeight_38 : decode cX0_greatestWeight 38 = .ok (.invokevirtual 106, 3) := by decide +kernel
theorem dX0_greatestWeight_41 : decode cX0_greatestWeight 41 = .ok (.invokestatic 100, 3) := by decide +kernel
theorem dX0_greatestWeight_44 : decode cX0_greatestWeight 44 = .ok (.istore_n 3, 1) := by decide +kernel
theorem dX0_greatestWeight_45 : decode cX0_greatestWeight 45 = .ok (.iinc 4 1, 3) := by decide +kernel
theorem dX0_greatestWeight_48 : decode cX0_greatestWeight 48 = .ok (.goto (-36), 3) := by decide +kernel
theorem dX0_greatestWeight_51 : decode cX0_greatestWeight 51 = .ok (.iload_n 3, 1) := by decide +kernel
theorem dX0_greatestWeight_52 : decode cX0_greatestWeight 52 = .ok (.ireturn, 1) := by decide +kernel
theorem dX0_speedDifference_0 : decode cX0_speedDifference 0 = .ok (.aload_n 0, 1) := by decide +kernel
theorem dX0_speedDifference_1 : decode cX0_speedDifference 1 = .ok (.iload_n 2, 1) := by decide +kernel
theorem dX0_speedDifference_2 : decode cX0_speedDifference 2 = .ok (.invokevirtual 109, 3) := by decide +kernel
theorem dX0_speedDifference_5 : decode cX0_speedDifference 5 = .ok (.ifCond .ne 5, 3) := by decide +kernel
theorem dX0_speedDifference_8 : decode cX0_speedDifference 8 = .ok (.iconst (-1), 1) := by decide +kernel
theorem dX0_speedDifference_9 : decode cX0_speedDifference 9 = .ok (.ireturn, 1) := by decide +kernel
theorem dX0_speedDifference_10 : decode cX0_speedDifference 10 = .ok (.sipush 600, 3) := by decide +kernel
theorem dX0_speedDifference_13 : decode cX0_speedDifference 13 = .ok (.istore_n 3, 1) := by decide +kernel
theorem dX0_speedDifference_14 : decode cX0_speedDifference 14 = .ok (.iconst 0, 1) := by decide +kernel
theorem dX0_speedDifference_15 : decode cX0_speedDifference 15 = .ok (.istore 4, 2) := by decide +kernel
theorem dX0_speedDifference_17 : decode cX0_speedDifference 17 = .ok (.aload_n 0, 1) := by decide +kernel
theorem dX0_speedDifference_18 : decode cX0_speedDifference 18 = .ok (.getfield 15, 3) := by decide +kernel
theorem dX0_speedDifference_21 : decode cX0_speedDifference 21 = .ok (.iload_n 2, 1) := by decide +kernel
theorem dX0_speedDifference_22 : decode cX0_speedDifference 22 = .ok (.invokestatic 60, 3) := by decide +kernel
theorem dX0_speedDifference_25 : decode cX0_speedDifference 25 = .ok (.istore 5, 2) := by decide +kernel
theorem dX0_speedDifference_27 : decode cX0_speedDifference 27 = .ok (.iload 5, 2) := by decide +kernel
theorem dX0_speedDifference_29 : decode cX0_speedDifference 29 = .ok (.aload_n 0, 1) := by decide +kernel
theorem dX0_speedDifference_30 : decode cX0_speedDifference 30 = .ok (.getfield 15, 3) := by decide +kernel
theorem dX0_speedDifference_33 : decode cX0_speedDifference 33 = .ok (.iload_n 2, 1) := by decide +kernel
theorem dX0_speedDifference_34 : decode cX0_speedDifference 34 = .ok (.iconst 1, 1) := by decide +kernel
theorem dX0_speedDifference_35 : decode cX0_speedDifference 35 = .ok (.iadd, 1) := by decide +kernel
theorem dX0_speedDifference_36 : decode cX0_speedDifference 36 = .ok (.invokestatic 60, 3) := by decide +kernel
theorem dX0_speedDifference_39 : decode cX0_speedDifference 39 = .ok (.if_icmp .ge 40, 3) := by decide +kernel
theorem dX0_speedDifference_42 : decode cX0_speedDifference 42 = .ok (.aload_n 1, 1) := by decide +kernel
theorem dX0_speedDifference_43 : decode cX0_speedDifference 43 = .ok (.aload_n 0, 1) := by decide +kernel
theorem dX0_speedDifference_44 : decode cX0_speedDifference 44 = .ok (.getfield 27, 3) := by decide +kernel
theorem dX0_speedDifference_47 : decode cX0_speedDifference 47 = .ok (.iload 5, 2) := by decide +kernel
theorem dX0_speedDifference_49 : decode cX0_speedDifference 49 = .ok (.invokestatic 60, 3) := by decide +kernel
theorem dX0_speedDifference_52 : decode cX0_speedDifference 52 = .ok (.invokevirtual 112, 3) := by decide +kernel
theorem dX0_speedDifference_55 : decode cX0_speedDifference 55 = .ok (.istore 6, 2) := by decide +kernel
theorem dX0_speedDifference_57 : decode cX0_speedDifference 57 = .ok (.iload_n 3, 1) := by decide +kernel
theorem dX0_speedDifference_58 : decode cX0_speedDifference 58 = .ok (.iload 6, 2) := by decide +kernel
theorem dX0_speedDifference_60 : decode cX0_speedDifference 60 = .ok (.invokestatic 84, 3) := by decide +kernel
theorem dX0_speedDifference_63 : decode cX0_speedDifference 63 = .ok (.istore_n 3, 1) := by decide +kernel
theorem dX0_speedDifference_64 : decode cX0_speedDifference 64 = .ok (.iload 4, 2) := by decide +kernel
theorem dX0_speedDifference_66 : decode cX0_speedDifference 66 = .ok (.iload 6, 2) := by decide +kernel
theorem dX0_speedDifference_68 : decode cX0_speedDifference 68 = .ok (.invokestatic 100, 3) := by decide +kernel
theorem dX0_speedDifference_71 : decode cX0_speedDifference 71 = .ok (.istore 4, 2) := by decide +kernel
theorem dX0_speedDifference_73 : decode cX0_speedDifference 73 = .ok (.iinc 5 1, 3) := by decide +kernel
theorem dX0_speedDifference_76 : decode cX0_speedDifference 76 = .ok (.goto (-49), 3) := by decide +kernel
theorem dX0_speedDifference_79 : decode cX0_speedDifference 79 = .ok (.iload 4, 2) := by decide +kernel
theorem dX0_speedDifference_81 : decode cX0_speedDifference 81 = .ok (.iload_n 3, 1) := by decide +kernel
theorem dX0_speedDifference_82 : decode cX0_speedDifference 82 = .ok (.isub, 1) := by decide +kernel
theorem dX0_speedDifference_83 : decode cX0_speedDifference 83 = .ok (.ireturn, 1) := by decide +kernel
theorem dX0_ticksBeforeCar_0 : decode cX0_ticksBeforeCar 0 = .ok (.aload_n 0, 1) := by decide +kernel
theorem dX0_ticksBeforeCar_1 : decode cX0_ticksBeforeCar 1 = .ok (.getfield 27, 3) := by decide +kernel
theorem dX0_ticksBeforeCar_4 : decode cX0_ticksBeforeCar 4 = .ok (.iload_n 2, 1) := by decide +kernel
theorem dX0_ticksBeforeCar_5 : decode cX0_ticksBeforeCar 5 = .ok (.invokestatic 60, 3) := by decide +kernel
theorem dX0_ticksBeforeCar_8 : decode cX0_ticksBeforeCar 8 = .ok (.istore_n 3, 1) := by decide +kernel
theorem dX0_ticksBeforeCar_9 : decode cX0_ticksBeforeCar 9 = .ok (.iload_n 2, 1) := by decide +kernel
theorem dX0_ticksBeforeCar_10 : decode cX0_ticksBeforeCar 10 = .ok (.aload_n 0, 1) := by decide +kernel
theorem dX0_ticksBeforeCar_11 : decode cX0_ticksBeforeCar 11 = .ok (.getfield 15, 3) := by decide +kernel
theorem dX0_ticksBeforeCar_14 : decode cX0_ticksBeforeCar 14 = .ok (.aload_n 0, 1) := by decide +kernel
theorem dX0_ticksBeforeCar_15 : decode cX0_ticksBeforeCar 15 = .ok (.getfield 21, 3) := by decide +kernel
theorem dX0_ticksBeforeCar_18 : decode cX0_ticksBeforeCar 18 = .ok (.iload_n 3, 1) := by decide +kernel
theorem dX0_ticksBeforeCar_19 : decode cX0_ticksBeforeCar 19 = .ok (.invokestatic 60, 3) := by decide +kernel
theorem dX0_ticksBeforeCar_22 : decode cX0_ticksBeforeCar 22 = .ok (.invokestatic 60, 3) := by decide +kernel
theorem dX0_ticksBeforeCar_25 : decode cX0_ticksBeforeCar 25 = .ok (.if_icmp .ne 5, 3) := by decide +kernel
theorem dX0_ticksBeforeCar_28 : decode cX0_ticksBeforeCar 28 = .ok (.iconst (-1), 1) := by decide +kernel
theorem dX0_ticksBeforeCar_29 : decode cX0_ticksBeforeCar 29 = .ok (.ireturn, 1) := by decide +kernel
theorem dX0_ticksBeforeCar_30 : decode cX0_ticksBeforeCar 30 = .ok (.iconst 0, 1) := by decide +kernel
theorem dX0_ticksBeforeCar_31 : decode cX0_ticksBeforeCar 31 = .ok (.istore 4, 2) := by decide +kernel
theorem dX0_ticksBeforeCar_33 : decode cX0_ticksBeforeCar 33 = .ok (.aload_n 0, 1) := by decide +kernel
theorem dX0_ticksBeforeCar_34 : decode cX0_ticksBeforeCar 34 = .ok (.getfield 27, 3) := by decide +kernel
theorem dX0_ticksBeforeCar_37 : decode cX0_ticksBeforeCar 37 = .ok (.iload_n 2, 1) := by decide +kernel
theorem dX0_ticksBeforeCar_38 : decode cX0_ticksBeforeCar 38 = .ok (.iconst 1, 1) := by decide +kernel
theorem dX0_ticksBeforeCar_39 : decode cX0_ticksBeforeCar 39 = .ok (.isub, 1) := by decide +kernel
theorem dX0_ticksBeforeCar_40 : decode cX0_ticksBeforeCar 40 = .ok (.invokestatic 60, 3) := by decide +kernel
theorem dX0_ticksBeforeCar_43 : decode cX0_ticksBeforeCar 43 = .ok (.iconst 2, 1) := by decide +kernel
theorem dX0_ticksBeforeCar_44 : decode cX0_ticksBeforeCar 44 = .ok (.iadd, 1) := by decide +kernel
theorem dX0_ticksBeforeCar_45 : decode cX0_ticksBeforeCar 45 = .ok (.istore 5, 2) := by decide +kernel
theorem dX0_ticksBeforeCar_47 : decode cX0_ticksBeforeCar 47 = .ok (.iload 5, 2) := by decide +kernel
theorem dX0_ticksBeforeCar_49 : decode cX0_ticksBeforeCar 49 = .ok (.iload_n 3, 1) := by decide +kernel
theorem dX0_ticksBeforeCar_50 : decode cX0_ticksBeforeCar 50 = .ok (.if_icmp .gt 23, 3) := by decide +kernel
theorem dX0_ticksBeforeCar_53 : decode cX0_ticksBeforeCar 53 = .ok (.iload 4, 2) := by decide +kernel
theorem dX0_ticksBeforeCar_55 : decode cX0_ticksBeforeCar 55 = .ok (.aload_n 1, 1) := by decide +kernel
theorem dX0_ticksBeforeCar_56 : decode cX0_ticksBeforeCar 56 = .ok (.getfield 97, 3) := by decide +kernel
theorem dX0_ticksBeforeCar_59 : decode cX0_ticksBeforeCar 59 = .ok (.iload 5, 2) := by decide +kernel
theorem dX0_ticksBeforeCar_61 : decode cX0_ticksBeforeCar 61 = .ok (.invokestatic 60, 3) := by decide +kernel
theorem dX0_ticksBeforeCar_64 : decode cX0_ticksBeforeCar 64 = .ok (.iadd, 1) := by decide +kernel
theorem dX0_ticksBeforeCar_65 : decode cX0_ticksBeforeCar 65 = .ok (.istore 4, 2) := by decide +kernel
theorem dX0_ticksBeforeCar_67 : decode cX0_ticksBeforeCar 67 = .ok (.iinc 5 1, 3) := by decide +kernel
theorem dX0_ticksBeforeCar_70 : decode cX0_ticksBeforeCar 70 = .ok (.goto (-23), 3) := by decide +kernel
theorem dX0_ticksBeforeCar_73 : decode cX0_ticksBeforeCar 73 = .ok (.iload 4, 2) := by decide +kernel
theorem dX0_ticksBeforeCar_75 : decode cX0_ticksBeforeCar 75 = .ok (.ireturn, 1) := by decide +kernel
theorem dX0_costWithStray_0 : decode cX0_costWithStray 0 = .ok (.aload_n 0, 1) := by decide +kernel
theorem dX0_costWithStray_1 : decode cX0_costWithStray 1 = .ok (.getfield 9, 3) := by decide +kernel
theorem dX0_costWithStray_4 : decode cX0_costWithStray 4 = .ok (.iload_n 2, 1) := by decide +kernel
theorem dX0_costWithStray_5 : decode cX0_costWithStray 5 = .ok (.invokestatic 60, 3) := by decide +kernel
theorem dX0_costWithStray_8 : decode cX0_costWithStray 8 = .ok (.istore 4, 2) := by decide +kernel
theorem dX0_costWithStray_10 : decode cX0_costWithStray 10 = .ok (.aload_n 0, 1) := by decide +kernel
theorem dX0_costWithStray_11 : decode cX0_costWithStray 11 = .ok (.aload_n 1, 1) := by decide +kernel
theorem dX0_costWithStray_12 : decode cX0_costWithStray 12 = .ok (.iload 4, 2) := by decide +kernel
theorem dX0_costWithStray_14 : decode cX0_costWithStray 14 = .ok (.aload_n 0, 1) := by decide +kernel
theorem dX0_costWithStray_15 : decode cX0_costWithStray 15 = .ok (.getfield 9, 3) := by decide +kernel
theorem dX0_costWithStray_18 : decode cX0_costWithStray 18 = .ok (.iload_n 2, 1) := by decide +kernel
theorem dX0_costWithStray_19 : decode cX0_costWithStray 19 = .ok (.iconst 1, 1) := by decide +kernel
theorem dX0_costWithStray_20 : decode cX0_costWithStray 20 = .ok (.iadd, 1) := by decide +kernel
theorem dX0_costWithStray_21 : decode cX0_costWithStray 21 = .ok (.invokestatic 60, 3) := by decide +kernel
theorem dX0_costWithStray_24 : decode cX0_costWithStray 24 = .ok (.iload_n 3, 1) := by decide +kernel
theorem dX0_costWithStray_25 : decode cX0_costWithStray 25 = .ok (.invokevirtual 56, 3) := by decide +kernel
theorem dX0_costWithStray_28 : decode cX0_costWithStray 28 = .ok (.aload_n 0, 1) := by decide +kernel
theorem dX0_costWithStray_29 : decode cX0_costWithStray 29 = .ok (.getfield 33, 3) := by decide +kernel
theorem dX0_costWithStray_32 : decode cX0_costWithStray 32 = .ok (.iload 4, 2) := by decide +kernel
theorem dX0_costWithStray_34 : decode cX0_costWithStray 34 = .ok (.invokestatic 60, 3) := by decide +kernel
theorem dX0_costWithStray_37 : decode cX0_costWithStray 37 = .ok (.invokestatic 64, 3) := by decide +kernel
theorem dX0_costWithStray_40 : decode cX0_costWithStray 40 = .ok (.ireturn, 1) := by decide +kernel
theorem dX1_init_0 : decode cX1_init 0 = .ok (.aload_n 0, 1) := by decide +kernel
theorem dX1_init_1 : decode cX1_init 1 = .ok (.invokespecial 3, 3) := by decide +kernel
theorem dX1_init_4 : decode cX1_init 4 = .ok (.aload_n 0, 1) := by decide +kernel
theorem dX1_init_5 : decode cX1_init 5 = .ok (.bipush 30, 2) := by decide +kernel
theorem dX1_init_7 : decode cX1_init 7 = .ok (.newarray .int, 2) := by decide +kernel
theorem dX1_init_9 : decode cX1_init 9 = .ok (.putfield 9, 3) := by decide +kernel
theorem dX1_init_12 : decode cX1_init 12 = .ok (.aload_n 0, 1) := by decide +kernel
theorem dX1_init_13 : decode cX1_init 13 = .ok (.bipush 30, 2) := by decide +kernel
theorem dX1_init_15 : decode cX1_init 15 = .ok (.newarray .int, 2) := by decide +kernel
theorem dX1_init_17 : decode cX1_init 17 = .ok (.putfield 15, 3) := by decide +kernel
theorem dX1_init_20 : decode cX1_init 20 = .ok (.aload_n 0, 1) := by decide +kernel
theorem dX1_init_21 : decode cX1_init 21 = .ok (.bipush 30, 2) := by decide +kernel
theorem dX1_init_23 : decode cX1_init 23 = .ok (.newarray .int, 2) := by decide +kernel
theorem dX1_init_25 : decode cX1_init 25 = .ok (.putfield 18, 3) := by decide +kernel
theorem dX1_init_28 : decode cX1_init 28 = .ok (.aload_n 0, 1) := by decide +kernel
theorem dX1_init_29 : decode cX1_init 29 = .ok (.getstatic 21, 3) := by decide +kernel
theorem dX1_init_32 : decode cX1_init 32 = .ok (.arraylength, 1) := by decide +kernel
theorem dX1_init_33 : decode cX1_init 33 = .ok (.newarray .int, 2) := by decide +kernel
theorem dX1_init_35 : decode cX1_init 35 = .ok (.putfield 24, 3) := by decide +kernel
theorem dX1_init_38 : decode cX1_init 38 = .ok (.iconst 0, 1) := by decide +kernel
theorem dX1_init_39 : decode cX1_init 39 = .ok (.istore_n 1, 1) := by decide +kernel
theorem dX1_init_40 : decode cX1_init 40 = .ok (.iload_n 1, 1) := by decide +kernel
theorem dX1_init_41 : decode cX1_init 41 = .ok (.getstatic 21, 3) := by decide +kernel
theorem dX1_init_44 : decode cX1_init 44 = .ok (.arraylength, 1) := by decide +kernel
theorem dX1_init_45 : decode cX1_init 45 = .ok (.if_icmp .ge 20, 3) := by decide +kernel
theorem dX1_init_48 : decode cX1_init 48 = .ok (.aload_n 0, 1) := by decide +kernel
theorem dX1_init_49 : decode cX1_init 49 = .ok (.getfield 24, 3) := by decide +kernel
theorem dX1_init_52 : decode cX1_init 52 = .ok (.iload_n 1, 1) := by decide +kernel
theorem dX1_init_53 : decode cX1_init 53 = .ok (.getstatic 21, 3) := by decide +kernel
theorem dX1_init_56 : decode cX1_init 56 = .ok (.iload_n 1, 1) := by decide +kernel
theorem dX1_init_57 : decode cX1_init 57 = .ok (.iaload, 1) := by decide +kernel
theorem dX1_init_58 : decode cX1_init 58 = .ok (.iastore, 1) := by decide +kernel
theorem dX1_init_59 : decode cX1_init 59 = .ok (.iinc 1 1, 3) := by decide +kernel
theorem dX1_init_62 : decode cX1_init 62 = .ok (.goto (-22), 3) := by decide +kernel
theorem dX1_init_65 : decode cX1_init 65 = .ok (.return_, 1) := by decide +kernel
theorem dX1_has_0 : decode cX1_has 0 = .ok (.iload_n 1, 1) := by decide +kernel
theorem dX1_has_1 : decode cX1_has 1 = .ok (.ifCond .lt 15, 3) := by decide +kernel
theorem dX1_has_4 : decode cX1_has 4 = .ok (.iload_n 1, 1) := by decide +kernel
theorem dX1_has_5 : decode cX1_has 5 = .ok (.aload_n 0, 1) := by decide +kernel
theorem dX1_has_6 : decode cX1_has 6 = .ok (.getfield 27, 3) := by decide +kernel
theorem dX1_has_9 : decode cX1_has 9 = .ok (.if_icmp .ge 7, 3) := by decide +kernel
theorem dX1_has_12 : decode cX1_has 12 = .ok (.iconst 1, 1) := by decide +kernel
theorem dX1_has_13 : decode cX1_has 13 = .ok (.goto 4, 3) := by decide +kernel
theorem dX1_has_16 : decode cX1_has 16 = .ok (.iconst 0, 1) := by decide +kernel
theorem dX1_has_17 : decode cX1_has 17 = .ok (.ireturn, 1) := by decide +kernel
theorem dX1_beginsTrain_0 : decode cX1_beginsTrain 0 = .ok (.iload_n 1, 1) := by decide +kernel
theorem dX1_beginsTrain_1 : decode cX1_beginsTrain 1 = .ok (.ifCond .eq 22, 3) := by decide +kernel
theorem dX1_beginsTrain_4 : decode cX1_beginsTrain 4 = .ok (.aload_n 0, 1) := by decide +kernel
theorem dX1_beginsTrain_5 : decode cX1_beginsTrain 5 = .ok (.getfield 9, 3) := by decide +kernel
theorem dX1_beginsTrain_8 : decode cX1_beginsTrain 8 = .ok (.iload_n 1, 1) := by decide +kernel
theorem dX1_beginsTrain_9 : decode cX1_beginsTrain 9 = .ok (.invokestatic 31, 3) := by decide +kernel
theorem dX1_beginsTrain_12 : decode cX1_beginsTrain 12 = .ok (.aload_n 0, 1) := by decide +kernel
theorem dX1_beginsTrain_13 : decode cX1_beginsTrain 13 = .ok (.getfield 24, 3) := by decide +kernel
theorem dX1_beginsTrain_16 : decode cX1_beginsTrain 16 = .ok (.iconst 3, 1) := by decide +kernel
theorem dX1_beginsTrain_17 : decode cX1_beginsTrain 17 = .ok (.invokestatic 31, 3) := by decide +kernel
theorem dX1_beginsTrain_20 : decode cX1_beginsTrain 20 = .ok (.if_icmp .lt 7, 3) := by decide +kernel
theorem dX1_beginsTrain_23 : decode cX1_beginsTrain 23 = .ok (.iconst 1, 1) := by decide +kernel
theorem dX1_beginsTrain_24 : decode cX1_beginsTrain 24 = .ok (.goto 4, 3) := by decide +kernel
theorem dX1_beginsTrain_27 : decode cX1_beginsTrain 27 = .ok (.iconst 0, 1) := by decide +kernel
theorem dX1_beginsTrain_28 : decode cX1_beginsTrain 28 = .ok (.ireturn, 1) := by decide +kernel
theorem dX1_addAxle_0 : decode cX1_addAxle 0 = .ok (.iload_n 1, 1) := by decide +kernel
theorem dX1_addAxle_1 : decode cX1_addAxle 1 = .ok (.invokestatic 35, 3) := by decide +kernel
theorem dX1_addAxle_4 : decode cX1_addAxle 4 = .ok (.ifCond .eq 26, 3) := by decide +kernel
theorem dX1_addAxle_7 : decode cX1_addAxle 7 = .ok (.iload_n 2, 1) := by decide +kernel
theorem dX1_addAxle_8 : decode cX1_addAxle 8 = .ok (.invokestatic 39, 3) := by decide +kernel
theorem dX1_addAxle_11 : decode cX1_addAxle 11 = .ok (.ifCond .eq 19, 3) := by decide +kernel
theorem dX1_addAxle_14 : decode cX1_addAxle 14 = .ok (.aload_n 0, 1) := by decide +kernel
theorem dX1_addAxle_15 : decode cX1_addAxle 15 = .ok (.getfield 27, 3) := by decide +kernel
theorem dX1_addAxle_18 : decode cX1_addAxle 18 = .ok (.ifCond .lt 12, 3) := by decide +kernel
theorem dX1_addAxle_21 : decode cX1_addAxle 21 = .ok (.aload_n 0, 1) := by decide +kernel
theorem dX1_addAxle_22 : decode cX1_addAxle 22 = .ok (.getfield 27, 3) := by decide +kernel
theorem dX1_addAxle_25 : decode cX1_addAxle 25 = .ok (.bipush 30, 2) := by decide +kernel
theorem dX1_addAxle_27 : decode cX1_addAxle 27 = .ok (.if_icmp .lt 5, 3) := by decide +kernel
theorem dX1_addAxle_30 : decode cX1_addAxle 30 = .ok (.iconst 0, 1) := by decide +kernel
theorem dX1_addAxle_31 : decode cX1_addAxle 31 = .ok (.ireturn, 1) := by decide +kernel
theorem dX1_addAxle_32 : decode cX1_addAxle 32 = .ok (.aload_n 0, 1) := by decide +kernel
theorem dX1_addAxle_33 : decode cX1_addAxle 33 = .ok (.getfield 9, 3) := by decide +kernel
theorem dX1_addAxle_36 : decode cX1_addAxle 36 = .ok (.aload_n 0, 1) := by decide +kernel
theorem dX1_addAxle_37 : decode cX1_addAxle 37 = .ok (.getfield 27, 3) := by decide +kernel
theorem dX1_addAxle_40 : decode cX1_addAxle 40 = .ok (.iload_n 1, 1) := by decide +kernel
theorem dX1_addAxle_41 : decode cX1_addAxle 41 = .ok (.iastore, 1) := by decide +kernel
theorem dX1_addAxle_42 : decode cX1_addAxle 42 = .ok (.aload_n 0, 1) := by decide +kernel
theorem dX1_addAxle_43 : decode cX1_addAxle 43 = .ok (.getfield 15, 3) := by decide +kernel
theorem dX1_addAxle_46 : decode cX1_addAxle 46 = .ok (.aload_n 0, 1) := by decide +kernel
theorem dX1_addAxle_47 : decode cX1_addAxle 47 = .ok (.getfield 27, 3) := by decide +kernel
theorem dX1_addAxle_50 : decode cX1_addAxle 50 = .ok (.iload_n 2, 1) := by decide +kernel
theorem dX1_addAxle_51 : decode cX1_addAxle 51 = .ok (.iastore, 1) := by decide +kernel
theorem dX1_addAxle_52 : decode cX1_addAxle 52 = .ok (.aload_n 0, 1) := by decide +kernel
theorem dX1_addAxle_53 : decode cX1_addAxle 53 = .ok (.dup, 1) := by decide +kernel
theorem dX1_addAxle_54 : decode cX1_addAxle 54 = .ok (.getfield 27, 3) := by decide +kernel
theorem dX1_addAxle_57 : decode cX1_addAxle 57 = .ok (.iconst 1, 1) := by decide +kernel
theorem dX1_addAxle_58 : decode cX1_addAxle 58 = .ok (.iadd, 1) := by decide +kernel
theorem dX1_addAxle_59 : decode cX1_addAxle 59 = .ok (.putfield 27, 3) := by decide +kernel
theorem dX1_addAxle_62 : decode cX1_addAxle 62 = .ok (.iconst 1, 1) := by decide +kernel
theorem dX1_addAxle_63 : decode cX1_addAxle 63 = .ok (.ireturn, 1) := by decide +kernel
theorem dX1_dropAxle_0 : decode cX1_dropAxle 0 = .ok (.aload_n 0, 1) := by decide +kernel
theorem dX1_dropAxle_1 : decode cX1_dropAxle 1 = .ok (.iload_n 1, 1) := by decide +kernel
theorem dX1_dropAxle_2 : decode cX1_dropAxle 2 = .ok (.invokevirtual 42, 3) := by decide +kernel
theorem dX1_dropAxle_5 : decode cX1_dropAxle 5 = .ok (.ifCond .ne 5, 3) := by decide +kernel
theorem dX1_dropAxle_8 : decode cX1_dropAxle 8 = .ok (.iconst 0, 1) := by decide +kernel
theorem dX1_dropAxle_9 : decode cX1_dropAxle 9 = .ok (.ireturn, 1) := by decide +kernel
theorem dX1_dropAxle_10 : decode cX1_dropAxle 10 = .ok (.aload_n 0, 1) := by decide +kernel
theorem dX1_dropAxle_11 : decode cX1_dropAxle 11 = .ok (.getfield 9, 3) := by decide +kernel
theorem dX1_dropAxle_14 : decode cX1_dropAxle 14 = .ok (.iload_n 1, 1) := by decide +kernel
theorem dX1_dropAxle_15 : decode cX1_dropAxle 15 = .ok (.invokestatic 31, 3) := by decide +kernel
theorem dX1_dropAxle_18 : decode cX1_dropAxle 18 = .ok (.istore_n 2, 1) := by decide +kernel
theorem dX1_dropAxle_19 : decode cX1_dropAxle 19 = .ok (.aload_n 0, 1) := by decide +kernel
theorem dX1_dropAxle_20 : decode cX1_dropAxle 20 = .ok (.iload_n 1, 1) := by decide +kernel
theorem dX1_dropAxle_21 : decode cX1_dropAxle 21 = .ok (.iconst 1, 1) := by decide +kernel
theorem dX1_dropAxle_22 : decode cX1_dropAxle 22 = .ok (.invokevirtual 45, 3) := by decide +kernel
theorem dX1_dropAxle_25 : decode cX1_dropAxle 25 = .ok (.aload_n 0, 1) := by decide +kernel
theorem dX1_dropAxle_26 : decode cX1_dropAxle 26 = .ok (.iload_n 1, 1) := by decide +kernel
theorem dX1_dropAxle_27 : decode cX1_dropAxle 27 = .ok (.invokevirtual 42, 3) := by decide +kernel
theorem dX1_dropAxle_30 : decode cX1_dropAxle 30 = .ok (.ifCond .eq 22, 3) := by decide +kernel
theorem dX1_dropAxle_33 : decode cX1_dropAxle 33 = .ok (.aload_n 0, 1) := by decide +kernel
theorem dX1_dropAxle_34 : decode cX1_dropAxle 34 = .ok (.getfield 9, 3) := by decide +kernel
theorem dX1_dropAxle_37 : decode cX1_dropAxle 37 = .ok (.iload_n 1, 1) := by decide +kernel
theorem dX1_dropAxle_38 : decode cX1_dropAxle 38 = .ok (.aload_n 0, 1) := by decide +kernel
theorem dX1_dropAxle_39 : decode cX1_dropAxle 39 = .ok (.getfield 9, 3) := by decide +kernel
theorem dX1_dropAxle_42 : decode cX1_dropAxle 42 = .ok (.iload_n 1, 1) := by decide +kernel
theorem dX1_dropAxle_43 : decode cX1_dropAxle 43 = .ok (.iaload, 1) := by decide +kernel
theorem dX1_dropAxle_44 : decode cX1_dropAxle 44 = .ok (.iload_n 2, 1) := by decide +kernel
theorem dX1_dropAxle_45 : decode cX1_dropAxle 45 = .ok (.iadd, 1) := by decide +kernel
theorem dX1_dropAxle_46 : decode cX1_dropAxle 46 = .ok (.bipush 60, 2) := by decide +kernel
theorem dX1_dropAxle_48 : decode cX1_dropAxle 48 = .ok (.invokestatic 49, 3) := by decide +kernel
theorem dX1_dropAxle_51 : decode cX1_dropAxle 51 = .ok (.iastore, 1) := by decide +kernel
theorem dX1_dropAxle_52 : decode cX1_dropAxle 52 = .ok (.iconst 1, 1) := by decide +kernel
theorem dX1_dropAxle_53 : decode cX1_dropAxle 53 = .ok (.ireturn, 1) := by decide +kernel
theorem dX1_putWeight_0 : decode cX1_putWeight 0 = .ok (.aload_n 0, 1) := by decide +kernel
theorem dX1_putWeight_1 : decode cX1_putWeight 1 = .ok (.iload_n 1, 1) := by decide +kernel
theorem dX1_putWeight_2 : decode cX1_putWeight 2 = .ok (.invokevirtual 42, 3) := by decide +kernel
theorem dX1_putWeight_5 : decode cX1_putWeight 5 = .ok (.ifCond .eq 10, 3) := by decide +kernel
theorem dX1_putWeight_8 : decode cX1_putWeight 8 = .ok (.iload_n 2, 1) := by decide +kernel
theorem dX1_putWeight_9 : decode cX1_putWeight 9 = .ok (.invokestatic 39, 3) := by decide +kernel
theorem dX1_putWeight_12 : decode cX1_putWeight 12 = .ok (.ifCond .ne 5, 3) := by decide +kernel
theorem dX1_putWeight_15 : decode cX1_putWeight 15 = .ok (.iconst 0, 1) := by decide +kernel
theorem dX1_putWeight_16 : decode cX1_putWeight 16 = .ok (.ireturn, 1) := by decide +kernel
theorem dX1_putWeight_17 : decode cX1_putWeight 17 = .ok (.aload_n 0, 1) := by decide +kernel
theorem dX1_putWeight_18 : decode cX1_putWeight 18 = .ok (.getfield 15, 3) := by decide +kernel
theorem dX1_putWeight_21 : decode cX1_putWeight 21 = .ok (.iload_n 1, 1) := by decide +kernel
theorem dX1_putWeight_22 : decode cX1_putWeight 22 = .ok (.iload_n 2, 1) := by decide +kernel
theorem dX1_putWeight_23 : decode cX1_putWeight 23 = .ok (.iastore, 1) := by decide +kernel
theorem dX1_putWeight_24 : decode cX1_putWeight 24 = .ok (.iconst 1, 1) := by decide +kernel
theorem dX1_putWeight_25 : decode cX1_putWeight 25 = .ok (.ireturn, 1) := by decide +kernel
theorem dX1_putSetting_0 : decode cX1_putSetting 0 = .ok (.iload_n 1, 1) := by decide +kernel
theorem dX1_putSetting_1 : decode cX1_putSetting 1 = .ok (.iload_n 2, 1) := by decide +kernel
theorem dX1_putSetting_2 : decode cX1_putSetting 2 = .ok (.invokestatic 55, 3) := by decide +kernel
theorem dX1_putSetting_5 : decode cX1_putSetting 5 = .ok (.ifCond .ne 5, 3) := by decide +kernel
theorem dX1_putSetting_8 : decode cX1_putSetting 8 = .ok (.iconst 0, 1) := by decide +kernel
theorem dX1_putSetting_9 : decode cX1_putSetting 9 = .ok (.ireturn, 1) := by decide +kernel
theorem dX1_putSetting_10 : decode cX1_putSetting 10 = .ok (.aload_n 0, 1) := by decide +kernel
theorem dX1_putSetting_11 : decode cX1_putSetting 11 = .ok (.getfield 24, 3) := by decide +kernel
theorem dX1_putSetting_14 : decode cX1_putSetting 14 = .ok (.iload_n 1, 1) := by decide +kernel
theorem dX1_putSetting_15 : decode cX1_putSetting 15 = .ok (.iload_n 2, 1) := by decide +kernel
theorem dX1_putSetting_16 : decode cX1_putSetting 16 = .ok (.iastore, 1) := by decide +kernel
theorem dX1_putSetting_17 : decode cX1_putSetting 17 = .ok (.iconst 1, 1) := by decide +kernel
theorem dX1_putSetting_18 : decode cX1_putSetting 18 = .ok (.ireturn, 1) := by decide +kernel
theorem dX1_dropFirstTrain_0 : decode cX1_dropFirstTrain 0 = .ok (.aload_n 0, 1) := by decide +kernel
theorem dX1_dropFirstTrain_1 : decode cX1_dropFirstTrain 1 = .ok (.getfield 27, 3) := by decide +kernel
theorem dX1_dropFirstTrain_4 : decode cX1_dropFirstTrain 4 = .ok (.ifCond .ne 5, 3) := by decide +kernel
theorem dX1_dropFirstTrain_7 : decode cX1_dropFirstTrain 7 = .ok (.iconst 0, 1) := by decide +kernel
theorem dX1_dropFirstTrain_8 : decode cX1_dropFirstTrain 8 = .ok (.ireturn, 1) := by decide +kernel
theorem dX1_dropFirstTrain_9 : decode cX1_dropFirstTrain 9 = .ok (.iconst 1, 1) := by decide +kernel
theorem dX1_dropFirstTrain_10 : decode cX1_dropFirstTrain 10 = .ok (.istore_n 1, 1) := by decide +kernel
theorem dX1_dropFirstTrain_11 : decode cX1_dropFirstTrain 11 = .ok (.iload_n 1, 1) := by decide +kernel
theorem dX1_dropFirstTrain_12 : decode cX1_dropFirstTrain 12 = .ok (.aload_n 0, 1) := by decide +kernel
theorem dX1_dropFirstTrain_13 : decode cX1_dropFirstTrain 13 = .ok (.getfield 27, 3) := by decide +kernel
theorem dX1_dropFirstTrain_16 : decode cX1_dropFirstTrain 16 = .ok (.if_icmp .ge 17, 3) := by decide +kernel
theorem dX1_dropFirstTrain_19 : decode cX1_dropFirstTrain 19 = .ok (.aload_n 0, 1) := by decide +kernel
theorem dX1_dropFirstTrain_20 : decode cX1_dropFirstTrain 20 = .ok (.iload_n 1, 1) := by decide +kernel
theorem dX1_dropFirstTrain_21 : decode cX1_dropFirstTrain 21 = .ok (.invokevirtual 59, 3) := by decide +kernel
theorem dX1_dropFirstTrain_24 : decode cX1_dropFirstTrain 24 = .ok (.ifCond .ne 9, 3) := by decide +kernel
theorem dX1_dropFirstTrain_27 : decode cX1_dropFirstTrain 27 = .ok (.iinc 1 1, 3) := by decide +kernel
theorem dX1_dropFirstTrain_30 : decode cX1_dropFirstTrain 30 = .ok (.goto (-19), 3) := by decide +kernel
theorem dX1_dropFirstTrain_33 : decode cX1_dropFirstTrain 33 = .ok (.aload_n 0, 1) := by decide +kernel
theorem dX1_dropFirstTrain_34 : decode cX1_dropFirstTrain 34 = .ok (.iconst 0, 1) := by decide +kernel
theorem dX1_dropFirstTrain_35 : decode cX1_dropFirstTrain 35 = .ok (.iload_n 1, 1) := by decide +kernel
theorem dX1_dropFirstTrain_36 : decode cX1_dropFirstTrain 36 = .ok (.invokevirtual 45, 3) := by decide +kernel
theorem dX1_dropFirstTrain_39 : decode cX1_dropFirstTrain 39 = .ok (.iconst 0, 1) := by decide +kernel
theorem dX1_dropFirstTrain_40 : decode cX1_dropFirstTrain 40 = .ok (.istore_n 2, 1) := by decide +kernel
theorem dX1_dropFirstTrain_41 : decode cX1_dropFirstTrain 41 = .ok (.iload_n 2, 1) := by decide +kernel
theorem dX1_dropFirstTrain_42 : decode cX1_dropFirstTrain 42 = .ok (.bipush 30, 2) := by decide +kernel
theorem dX1_dropFirstTrain_44 : decode cX1_dropFirstTrain 44 = .ok (.if_icmp .ge 25, 3) := by decide +kernel
theorem dX1_dropFirstTrain_47 : decode cX1_dropFirstTrain 47 = .ok (.aload_n 0, 1) := by decide +kernel
theorem dX1_dropFirstTrain_48 : decode cX1_dropFirstTrain 48 = .ok (.getfield 18, 3) := by decide +kernel
theorem dX1_dropFirstTrain_51 : decode cX1_dropFirstTrain 51 = .ok (.iload_n 2, 1) := by decide +kernel
theorem dX1_dropFirstTrain_52 : decode cX1_dropFirstTrain 52 = .ok (.aload_n 0, 1) := by decide +kernel
theorem dX1_dropFirstTrain_53 : decode cX1_dropFirstTrain 53 = .ok (.getfield 18, 3) := by decide +kernel
theorem dX1_dropFirstTrain_56 : decode cX1_dropFirstTrain 56 = .ok (.iload_n 2, 1) := by decide +kernel
theorem dX1_dropFirstTrain_57 : decode cX1_dropFirstTrain 57 = .ok (.iconst 1, 1) := by decide +kernel
theorem dX1_dropFirstTrain_58 : decode cX1_dropFirstTrain 58 = .ok (.iadd, 1) := by decide +kernel
theorem dX1_dropFirstTrain_59 : decode cX1_dropFirstTrain 59 = .ok (.invokestatic 31, 3) := by decide +kernel
theorem dX1_dropFirstTrain_62 : decode cX1_dropFirstTrain 62 = .ok (.iastore, 1) := by decide +kernel
theorem dX1_dropFirstTrain_63 : decode cX1_dropFirstTrain 63 = .ok (.iinc 2 1, 3) := by decide +kernel
theorem dX1_dropFirstTrain_66 : decode cX1_dropFirstTrain 66 = .ok (.goto (-25), 3) := by decide +kernel
theorem dX1_dropFirstTrain_69 : decode cX1_dropFirstTrain 69 = .ok (.iconst 1, 1) := by decide +kernel
theorem dX1_dropFirstTrain_70 : decode cX1_dropFirstTrain 70 = .ok (.ireturn, 1) := by decide +kernel
theorem dX1_dropAxles_0 : decode cX1_dropAxles 0 = .ok (.iload_n 1, 1) := by decide +kernel
theorem dX1_dropAxles_1 : decode cX1_dropAxles 1 = .ok (.iconst 0, 1) := by decide +kernel
theorem dX1_dropAxles_2 : decode cX1_dropAxles 2 = .ok (.invokestatic 62, 3) := by decide +kernel
theorem dX1_dropAxles_5 : decode cX1_dropAxles 5 = .ok (.istore_n 3, 1) := by decide +kernel
theorem dX1_dropAxles_6 : decode cX1_dropAxles 6 = .ok (.iload_n 3, 1) := by decide +kernel
theorem dX1_dropAxles_7 : decode cX1_dropAxles 7 = .ok (.bipush 30, 2) := by decide +kernel
theorem dX1_dropAxles_9 : decode cX1_dropAxles 9 = .ok (.if_icmp .ge 41, 3) := by decide +kernel
theorem dX1_dropAxles_12 : decode cX1_dropAxles 12 = .ok (.aload_n 0, 1) := by decide +kernel
theorem dX1_dropAxles_13 : decode cX1_dropAxles 13 = .ok (.getfield 9, 3) := by decide +kernel
theorem dX1_dropAxles_16 : decode cX1_dropAxles 16 = .ok (.iload_n 3, 1) := by decide +kernel
theorem dX1_dropAxles_17 : decode cX1_dropAxles 17 = .ok (.aload_n 0, 1) := by decide +kernel
theorem dX1_dropAxles_18 : decode cX1_dropAxles 18 = .ok (.getfield 9, 3) := by decide +kernel
theorem dX1_dropAxles_21 : decode cX1_dropAxles 21 = .ok (.iload_n 3, 1) := by decide +kernel
theorem dX1_dropAxles_22 : decode cX1_dropAxles 22 = .ok (.iload_n 2, 1) := by decide +kernel
theorem dX1_dropAxles_23 : decode cX1_dropAxles 23 = .ok (.iadd, 1) := by decide +kernel
theorem dX1_dropAxles_24 : decode cX1_dropAxles 24 = .ok (.invokestatic 31, 3) := by decide +kernel
theorem dX1_dropAxles_27 : decode cX1_dropAxles 27 = .ok (.iastore, 1) := by decide +kernel
theorem dX1_dropAxles_28 : decode cX1_dropAxles 28 = .ok (.aload_n 0, 1) := by decide +kernel
theorem dX1_dropAxles_29 : decode cX1_dropAxles 29 = .ok (.getfield 15, 3) := by decide +kernel
theorem dX1_dropAxles_32 : decode cX1_dropAxles 32 = .ok (.iload_n 3, 1) := by decide +kernel
theorem dX1_dropAxles_33 : decode cX1_dropAxles 33 = .ok (.aload_n 0, 1) := by decide +kernel
theorem dX1_dropAxles_34 : decode cX1_dropAxles 34 = .ok (.getfield 15, 3) := by decide +kernel
theorem dX1_dropAxles_37 : decode cX1_dropAxles 37 = .ok (.iload_n 3, 1) := by decide +kernel
theorem dX1_dropAxles_38 : decode cX1_dropAxles 38 = .ok (.iload_n 2, 1) := by decide +kernel
theorem dX1_dropAxles_39 : decode cX1_dropAxles 39 = .ok (.iadd, 1) := by decide +kernel
theorem dX1_dropAxles_40 : decode cX1_dropAxles 40 = .ok (.invokestatic 31, 3) := by decide +kernel
theorem dX1_dropAxles_43 : decode cX1_dropAxles 43 = .ok (.iastore, 1) := by decide +kernel
theorem dX1_dropAxles_44 : decode cX1_dropAxles 44 = .ok (.iinc 3 1, 3) := by decide +kernel
theorem dX1_dropAxles_47 : decode cX1_dropAxles 47 = .ok (.goto (-41), 3) := by decide +kernel
theorem dX1_dropAxles_50 : decode cX1_dropAxles 50 = .ok (.aload_n 0, 1) := by decide +kernel
theorem dX1_dropAxles_51 : decode cX1_dropAxles 51 = .ok (.dup, 1) := by decide +kernel
theorem dX1_dropAxles_52 : decode cX1_dropAxles 52 = .ok (.getfield 27, 3) := by decide +kernel
theorem dX1_dropAxles_55 : decode cX1_dropAxles 55 = .ok (.iload_n 2, 1) := by decide +kernel
theorem dX1_dropAxles_56 : decode cX1_dropAxles 56 = .ok (.isub, 1) := by decide +kernel
theorem dX1_dropAxles_57 : decode cX1_dropAxles 57 = .ok (.putfield 27, 3) := by decide +kernel
theorem dX1_dropAxles_60 : decode cX1_dropAxles 60 = .ok (.return_, 1) := by decide +kernel
theorem dX1_carWeight_0 : decode cX1_carWeight 0 = .ok (.aload_n 0, 1) := by decide +kernel
theorem dX1_carWeight_1 : decode cX1_carWeight 1 = .ok (.getfield 15, 3) := by decide +kernel
theorem dX1_carWeight_4 : decode cX1_carWeight 4 = .ok (.iload_n 1, 1) := by decide +kernel
theorem dX1_carWeight_5 : decode cX1_carWeight 5 = .ok (.invokestatic 31, 3) := by decide +kernel
theorem dX1_carWeight_8 : decode cX1_carWeight 8 = .ok (.aload_n 0, 1) := by decide +kernel
theorem dX1_carWeight_9 : decode cX1_carWeight 9 = .ok (.getfield 15, 3) := by decide +kernel
theorem dX1_carWeight_12 : decode cX1_carWeight 12 = .ok (.iload_n 1, 1) := by decide +kernel
theorem dX1_carWeight_13 : decode cX1_carWeight 13 = .ok (.iconst 1, 1) := by decide +kernel
theorem dX1_carWeight_14 : decode cX1_carWeight 14 = .ok (.iadd, 1) := by decide +kernel
theorem dX1_carWeight_15 : decode cX1_carWeight 15 = .ok (.invokestatic 31, 3) := by decide +kernel
theorem dX1_carWeight_18 : decode cX1_carWeight 18 = .ok (.iadd, 1) := by decide +kernel
theorem dX1_carWeight_19 : decode cX1_carWeight 19 = .ok (.ireturn, 1) := by decide +kernel
theorem dX1_carSpeed_0 : decode cX1_carSpeed 0 = .ok (.aload_n 0, 1) := by decide +kernel
theorem dX1_carSpeed_1 : decode cX1_carSpeed 1 = .ok (.getfield 9, 3) := by decide +kernel
theorem dX1_carSpeed_4 : decode cX1_carSpeed 4 = .ok (.iload_n 1, 1) := by decide +kernel
theorem dX1_carSpeed_5 : decode cX1_carSpeed 5 = .ok (.iconst 1, 1) := by decide +kernel
theorem dX1_carSpeed_6 : decode cX1_carSpeed 6 = .ok (.iadd, 1) := by decide +kernel
theorem dX1_carSpeed_7 : decode cX1_carSpeed 7 = .ok (.invokestatic 31, 3) := by decide +kernel
theorem dX1_carSpeed_10 : decode cX1_carSpeed 10 = .ok (.istore_n 2, 1) := by decide +kernel
theorem dX1_carSpeed_11 : decode cX1_carSpeed 11 = .ok (.iload_n 2, 1) := by decide +kernel
theorem dX1_carSpeed_12 : decode cX1_carSpeed 12 = .ok (.ifCond .le 11, 3) := by decide +kernel
theorem dX1_carSpeed_15 : decode cX1_carSpeed 15 = .ok (.sipush 600, 3) := by decide +kernel
theorem dX1_carSpeed_18 : decode cX1_carSpeed 18 = .ok (.iload_n 2, 1) := by decide +kernel
theorem dX1_carSpeed_19 : decode cX1_carSpeed 19 = .ok (.idiv, 1) := by decide +kernel
theorem dX1_carSpeed_20 : decode cX1_carSpeed 20 = .ok (.goto 4, 3) := by decide +kernel
theorem dX1_carSpeed_23 : decode cX1_carSpeed 23 = .ok (.iconst 0, 1) := by decide +kernel
theorem dX1_carSpeed_24 : decode cX1_carSpeed 24 = .ok (.ireturn, 1) := by decide +kernel
theorem dX1_carCost_0 : decode cX1_carCost 0 = .ok (.iconst 3, 1) := by decide +kernel
theorem dX1_carCost_1 : decode cX1_carCost 1 = .ok (.aload_n 0, 1) := by decide +kernel
theorem dX1_carCost_2 : decode cX1_carCost 2 = .ok (.getfield 9, 3) := by decide +kernel
theorem dX1_carCost_5 : decode cX1_carCost 5 = .ok (.iload_n 1, 1) := by decide +kernel
theorem dX1_carCost_6 : decode cX1_carCost 6 = .ok (.iconst 1, 1) := by decide +kernel
theorem dX1_carCost_7 : decode cX1_carCost 7 = .ok (.iadd, 1) := by decide +kernel
theorem dX1_carCost_8 : decode cX1_carCost 8 = .ok (.invokestatic 31, 3) := by decide +kernel
theorem dX1_carCost_11 : decode cX1_carCost 11 = .ok (.aload_n 0, 1) := by decide +kernel
theorem dX1_carCost_12 : decode cX1_carCost 12 = .ok (.getfield 24, 3) := by decide +kernel
theorem dX1_carCost_15 : decode cX1_carCost 15 = .ok (.iconst 0, 1) := by decide +kernel
theorem dX1_carCost_16 : decode cX1_carCost 16 = .ok (.invokestatic 31, 3) := by decide +kernel
theorem dX1_carCost_19 : decode cX1_carCost 19 = .ok (.isub, 1) := by decide +kernel
theorem dX1_carCost_20 : decode cX1_carCost 20 = .ok (.invokestatic 65, 3) := by decide +kernel
theorem dX1_carCost_23 : decode cX1_carCost 23 = .ok (.imul, 1) := by decide +kernel
theorem dX1_carCost_24 : decode cX1_carCost 24 = .ok (.aload_n 0, 1) := by decide +kernel
theorem dX1_carCost_25 : decode cX1_carCost 25 = .ok (.getfield 15, 3) := by decide +kernel
theorem dX1_carCost_28 : decode cX1_carCost 28 = .ok (.iload_n 1, 1) := by decide +kernel
theorem dX1_carCost_29 : decode cX1_carCost 29 = .ok (.invokestatic 31, 3) := by decide +kernel
theorem dX1_carCost_32 : decode cX1_carCost 32 = .ok (.aload_n 0, 1) := by decide +kernel
theorem dX1_carCost_33 : decode cX1_carCost 33 = .ok (.getfield 15, 3) := by decide +kernel
theorem dX1_carCost_36 : decode cX1_carCost 36 = .ok (.iload_n 1, 1) := by decide +kernel
theorem dX1_carCost_37 : decode cX1_carCost 37 = .ok (.iconst 1, 1) := by decide +kernel
theorem dX1_carCost_38 : decode cX1_carCost 38 = .ok (.iadd, 1) := by decide +kernel
theorem dX1_carCost_39 : decode cX1_carCost 39 = .ok (.invokestatic 31, 3) := by decide +kernel
theorem dX1_carCost_42 : decode cX1_carCost 42 = .ok (.isub, 1) := by decide +kernel
theorem dX1_carCost_43 : decode cX1_carCost 43 = .ok (.invokestatic 65, 3) := by decide +kernel
theorem dX1_carCost_46 : decode cX1_carCost 46 = .ok (.iadd, 1) := by decide +kernel
theorem dX1_carCost_47 : decode cX1_carCost 47 = .ok (.ireturn, 1) := by decide +kernel
theorem dX2_init_0 : decode cX2_init 0 = .ok (.aload_n 0, 1) := by decide +kernel
theorem dX2_init_1 : decode cX2_init 1 = .ok (.invokespecial 3, 3) := by decide +kernel
theorem dX2_init_4 : decode cX2_init 4 = .ok (.aload_n 0, 1) := by decide +kernel
theorem dX2_init_5 : decode cX2_init 5 = .ok (.bipush 120, 2) := by decide +kernel
theorem dX2_init_7 : decode cX2_init 7 = .ok (.newarray .int, 2) := by decide +kernel
theorem dX2_init_9 : decode cX2_init 9 = .ok (.putfield 9, 3) := by decide +kernel
theorem dX2_init_12 : decode cX2_init 12 = .ok (.aload_n 0, 1) := by decide +kernel
theorem dX2_init_13 : decode cX2_init 13 = .ok (.bipush 30, 2) := by decide +kernel
theorem dX2_init_15 : decode cX2_init 15 = .ok (.newarray .int, 2) := by decide +kernel
theorem dX2_init_17 : decode cX2_init 17 = .ok (.putfield 15, 3) := by decide +kernel
theorem dX2_init_20 : decode cX2_init 20 = .ok (.aload_n 0, 1) := by decide +kernel
theorem dX2_init_21 : decode cX2_init 21 = .ok (.bipush 30, 2) := by decide +kernel
theorem dX2_init_23 : decode cX2_init 23 = .ok (.newarray .int, 2) := by decide +kernel
theorem dX2_init_25 : decode cX2_init 25 = .ok (.putfield 18, 3) := by decide +kernel
theorem dX2_init_28 : decode cX2_init 28 = .ok (.aload_n 0, 1) := by decide +kernel
theorem dX2_init_29 : decode cX2_init 29 = .ok (.iconst 3, 1) := by decide +kernel
theorem dX2_init_30 : decode cX2_init 30 = .ok (.newarray .int, 2) := by decide +kernel
theorem dX2_init_32 : decode cX2_init 32 = .ok (.putfield 21, 3) := by decide +kernel
theorem dX2_init_35 : decode cX2_init 35 = .ok (.aload_n 0, 1) := by decide +kernel
theorem dX2_init_36 : decode cX2_init 36 = .ok (.iconst 3, 1) := by decide +kernel
theorem dX2_init_37 : decode cX2_init 37 = .ok (.newarray .int, 2) := by decide +kernel
theorem dX2_init_39 : decode cX2_init 39 = .ok (.putfield 24, 3) := by decide +kernel
theorem dX2_init_42 : decode cX2_init 42 = .ok (.return_, 1) := by decide +kernel
theorem dX2_add_0 : decode cX2_add 0 = .ok (.aload_n 0, 1) := by decide +kernel
theorem dX2_add_1 : decode cX2_add 1 = .ok (.getfield 27, 3) := by decide +kernel
theorem dX2_add_4 : decode cX2_add 4 = .ok (.ifCond .lt 12, 3) := by decide +kernel
theorem dX2_add_7 : decode cX2_add 7 = .ok (.aload_n 0, 1) := by decide +kernel
theorem dX2_add_8 : decode cX2_add 8 = .ok (.getfield 27, 3) := by decide +kernel
theorem dX2_add_11 : decode cX2_add 11 = .ok (.bipush 120, 2) := by decide +kernel
theorem dX2_add_13 : decode cX2_add 13 = .ok (.if_icmp .lt 5, 3) := by decide +kernel
theorem dX2_add_16 : decode cX2_add 16 = .ok (.iconst 0, 1) := by decide +kernel
theorem dX2_add_17 : decode cX2_add 17 = .ok (.ireturn, 1) := by decide +kernel
theorem dX2_add_18 : decode cX2_add 18 = .ok (.aload_n 0, 1) := by decide +kernel
theorem dX2_add_19 : decode cX2_add 19 = .ok (.getfield 9, 3) := by decide +kernel
theorem dX2_add_22 : decode cX2_add 22 = .ok (.aload_n 0, 1) := by decide +kernel
theorem dX2_add_23 : decode cX2_add 23 = .ok (.getfield 27, 3) := by decide +kernel
theorem dX2_add_26 : decode cX2_add 26 = .ok (.iload_n 1, 1) := by decide +kernel
theorem dX2_add_27 : decode cX2_add 27 = .ok (.iastore, 1) := by decide +kernel
theorem dX2_add_28 : decode cX2_add 28 = .ok (.aload_n 0, 1) := by decide +kernel
theorem dX2_add_29 : decode cX2_add 29 = .ok (.dup, 1) := by decide +kernel
theorem dX2_add_30 : decode cX2_add 30 = .ok (.getfield 27, 3) := by decide +kernel
theorem dX2_add_33 : decode cX2_add 33 = .ok (.iconst 1, 1) := by decide +kernel
theorem dX2_add_34 : decode cX2_add 34 = .ok (.iadd, 1) := by decide +kernel
theorem dX2_add_35 : decode cX2_add 35 = .ok (.putfield 27, 3) := by decide +kernel
theorem dX2_add_38 : decode cX2_add 38 = .ok (.iconst 1, 1) := by decide +kernel
theorem dX2_add_39 : decode cX2_add 39 = .ok (.ireturn, 1) := by decide +kernel
theorem dX2_read_0 : decode cX2_read 0 = .ok (.aload_n 0, 1) := by decide +kernel
theorem dX2_read_1 : decode cX2_read 1 = .ok (.iconst 0, 1) := by decide +kernel
theorem dX2_read_2 : decode cX2_read 2 = .ok (.putfield 31, 3) := by decide +kernel
theorem dX2_read_5 : decode cX2_read 5 = .ok (.aload_n 0, 1) := by decide +kernel
theorem dX2_read_6 : decode cX2_read 6 = .ok (.iconst 0, 1) := by decide +kernel
theorem dX2_read_7 : decode cX2_read 7 = .ok (.putfield 34, 3) := by decide +kernel
theorem dX2_read_10 : decode cX2_read 10 = .ok (.aload_n 0, 1) := by decide +kernel
theorem dX2_read_11 : decode cX2_read 11 = .ok (.iconst (-1), 1) := by decide +kernel
theorem dX2_read_12 : decode cX2_read 12 = .ok (.putfield 37, 3) := by decide +kernel
theorem dX2_read_15 : decode cX2_read 15 = .ok (.aload_n 0, 1) := by decide +kernel
theorem dX2_read_16 : decode cX2_read 16 = .ok (.iconst 0, 1) := by decide +kernel
theorem dX2_read_17 : decode cX2_read 17 = .ok (.invokevirtual 40, 3) := by decide +kernel
theorem dX2_read_20 : decode cX2_read 20 = .ok (.bipush 82, 2) := by decide +kernel
theorem dX2_read_22 : decode cX2_read 22 = .ok (.if_icmp .eq 9, 3) := by decide +kernel
theorem dX2_read_25 : decode cX2_read 25 = .ok (.aload_n 0, 1) := by decide +kernel
theorem dX2_read_26 : decode cX2_read 26 = .ok (.iconst 0, 1) := by decide +kernel
theorem dX2_read_27 : decode cX2_read 27 = .ok (.putfield 37, 3) := by decide +kernel
theorem dX2_read_30 : decode cX2_read 30 = .ok (.return_, 1) := by decide +kernel
theorem dX2_read_31 : decode cX2_read 31 = .ok (.iconst 1, 1) := by decide +kernel
theorem dX2_read_32 : decode cX2_read 32 = .ok (.istore_n 1, 1) := by decide +kernel
theorem dX2_read_33 : decode cX2_read 33 = .ok (.iconst 0, 1) := by decide +kernel
theorem dX2_read_34 : decode cX2_read 34 = .ok (.istore_n 2, 1) := by decide +kernel
theorem dX2_read_35 : decode cX2_read 35 = .ok (.iload_n 2, 1) := by decide +kernel
theorem dX2_read_36 : decode cX2_read 36 = .ok (.bipush 120, 2) := by decide +kernel
theorem dX2_read_38 : decode cX2_read 38 = .ok (.if_icmp .ge 31, 3) := by decide +kernel
theorem dX2_read_41 : decode cX2_read 41 = .ok (.iload_n 1, 1) := by decide +kernel
theorem dX2_read_42 : decode cX2_read 42 = .ok (.aload_n 0, 1) := by decide +kernel
theorem dX2_read_43 : decode cX2_read 43 = .ok (.getfield 27, 3) := by decide +kernel
theorem dX2_read_46 : decode cX2_read 46 = .ok (.if_icmp .ge 23, 3) := by decide +kernel
theorem dX2_read_49 : decode cX2_read 49 = .ok (.aload_n 0, 1) := by decide +kernel
theorem dX2_read_50 : decode cX2_read 50 = .ok (.getfield 37, 3) := by decide +kernel
theorem dX2_read_53 : decode cX2_read 53 = .ok (.iconst (-1), 1) := by decide +kernel
theorem dX2_read_54 : decode cX2_read 54 = .ok (.if_icmp .ne 15, 3) := by decide +kernel
theorem dX2_read_57 : decode cX2_read 57 = .ok (.aload_n 0, 1) := by decide +kernel
theorem dX2_read_58 : decode cX2_read 58 = .ok (.iload_n 1, 1) := by decide +kernel
theorem dX2_read_59 : decode cX2_read 59 = .ok (.invokevirtual 44, 3) := by decide +kernel
theorem dX2_read_62 : decode cX2_read 62 = .ok (.istore_n 1, 1) := by decide +kernel
theorem dX2_read_63 : decode cX2_read 63 = .ok (.iinc 2 1, 3) := by decide +kernel
theorem dX2_read_66 : decode cX2_read 66 = .ok (.goto (-31), 3) := by decide +kernel
theorem dX2_read_69 : decode cX2_read 69 = .ok (.aload_n 0, 1) := by decide +kernel
theorem dX2_read_70 : decode cX2_read 70 = .ok (.getfield 37, 3) := by decide +kernel
theorem dX2_read_73 : decode cX2_read 73 = .ok (.iconst (-1), 1) := by decide +kernel
theorem dX2_read_74 : decode cX2_read 74 = .ok (.if_icmp .ne 18, 3) := by decide +kernel
theorem dX2_read_77 : decode cX2_read 77 = .ok (.aload_n 0, 1) := by decide +kernel
theorem dX2_read_78 : decode cX2_read 78 = .ok (.getfield 34, 3) := by decide +kernel
theorem dX2_read_81 : decode cX2_read 81 = .ok (.ifCond .le 11, 3) := by decide +kernel
theorem dX2_read_84 : decode cX2_read 84 = .ok (.aload_n 0, 1) := by decide +kernel
theorem dX2_read_85 : decode cX2_read 85 = .ok (.aload_n 0, 1) := by decide +kernel
theorem dX2_read_86 : decode cX2_read 86 = .ok (.getfield 27, 3) := by decide +kernel
theorem dX2_read_89 : decode cX2_read 89 = .ok (.putfield 37, 3) := by decide +kernel
theorem dX2_read_92 : decode cX2_read 92 = .ok (.return_, 1) := by decide +kernel
theorem dX2_readPart_0 : decode cX2_readPart 0 = .ok (.aload_n 0, 1) := by decide +kernel
theorem dX2_readPart_1 : decode cX2_readPart 1 = .ok (.iload_n 1, 1) := by decide +kernel
theorem dX2_readPart_2 : decode cX2_readPart 2 = .ok (.invokevirtual 40, 3) := by decide +kernel
theorem dX2_readPart_5 : decode cX2_readPart 5 = .ok (.istore_n 2, 1) := by decide +kernel
theorem dX2_readPart_6 : decode cX2_readPart 6 = .ok (.iload_n 2, 1) := by decide +kernel
theorem dX2_readPart_7 : decode cX2_readPart 7 = .ok (.bipush 41, 2) := by decide +kernel
theorem dX2_readPart_9 : decode cX2_readPart 9 = .ok (.if_icmp .ne 9, 3) := by decide +kernel
theorem dX2_readPart_12 : decode cX2_readPart 12 = .ok (.aload_n 0, 1) := by decide +kernel
theorem dX2_readPart_13 : decode cX2_readPart 13 = .ok (.iload_n 1, 1) := by decide +kernel
theorem dX2_readPart_14 : decode cX2_readPart 14 = .ok (.invokevirtual 47, 3) := by decide +kernel
theorem dX2_readPart_17 : decode cX2_readPart 17 = .ok (.ireturn, 1) := by decide +kernel
theorem dX2_readPart_18 : decode cX2_readPart 18 = .ok (.iload_n 2, 1) := by decide +kernel
theorem dX2_readPart_19 : decode cX2_readPart 19 = .ok (.bipush 50, 2) := by decide +kernel
theorem dX2_readPart_21 : decode cX2_readPart 21 = .ok (.if_icmp .lt 69, 3) := by decide +kernel
theorem dX2_readPart_24 : decode cX2_readPart 24 = .ok (.iload_n 2, 1) := by decide +kernel
theorem dX2_readPart_25 : decode cX2_readPart 25 = .ok (.bipush 57, 2) := by decide +kernel
theorem dX2_readPart_27 : decode cX2_readPart 27 = .ok (.if_icmp .gt 63, 3) := by decide +kernel
theorem dX2_readPart_30 : decode cX2_readPart 30 = .ok (.aload_n 0, 1) := by decide +kernel
theorem dX2_readPart_31 : decode cX2_readPart 31 = .ok (.getfield 34, 3) := by decide +kernel
theorem dX2_readPart_34 : decode cX2_readPart 34 = .ok (.iconst 3, 1) := by decide +kernel
theorem dX2_readPart_35 : decode cX2_readPart 35 = .ok (.if_icmp .ge 55, 3) := by decide +kernel
theorem dX2_readPart_38 : decode cX2_readPart 38 = .ok (.aload_n 0, 1) := by decide +kernel
theorem dX2_readPart_39 : decode cX2_readPart 39 = .ok (.iload_n 1, 1) := by decide +kernel
theorem dX2_readPart_40 : decode cX2_readPart 40 = .ok (.iconst 1, 1) := by decide +kernel
theorem dX2_readPart_41 : decode cX2_readPart 41 = .ok (.iadd, 1) := by decide +kernel
theorem dX2_readPart_42 : decode cX2_readPart 42 = .ok (.invokevirtual 40, 3) := by decide +kernel
theorem dX2_readPart_45 : decode cX2_readPart 45 = .ok (.bipush 40, 2) := by decide +kernel
theorem dX2_readPart_47 : decode cX2_readPart 47 = .ok (.if_icmp .ne 43, 3) := by decide +kernel
theorem dX2_readPart_50 : decode cX2_readPart 50 = .ok (.aload_n 0, 1) := by decide +kernel
theorem dX2_readPart_51 : decode cX2_readPart 51 = .ok (.getfield 21, 3) := by decide +kernel
theorem dX2_readPart_54 : decode cX2_readPart 54 = .ok (.aload_n 0, 1) := by decide +kernel
theorem dX2_readPart_55 : decode cX2_readPart 55 = .ok (.getfield 34, 3) := by decide +kernel
theorem dX2_readPart_58 : decode cX2_readPart 58 = .ok (.iload_n 2, 1) := by decide +kernel
theorem dX2_readPart_59 : decode cX2_readPart 59 = .ok (.bipush 48, 2) := by decide +kernel
theorem dX2_readPart_61 : decode cX2_readPart 61 = .ok (.isub, 1) := by decide +kernel
theorem dX2_readPart_62 : decode cX2_readPart 62 = .ok (.iastore, 1) := by decide +kernel
theorem dX2_readPart_63 : decode cX2_readPart 63 = .ok (.aload_n 0, 1) := by decide +kernel
theorem dX2_readPart_64 : decode cX2_readPart 64 = .ok (.getfield 24, 3) := by decide +kernel
theorem dX2_readPart_67 : decode cX2_readPart 67 = .ok (.aload_n 0, 1) := by decide +kernel
theorem dX2_readPart_68 : decode cX2_readPart 68 = .ok (.getfield 34, 3) := by decide +kernel
theorem dX2_readPart_71 : decode cX2_readPart 71 = .ok (.aload_n 0, 1) := by decide +kernel
theorem dX2_readPart_72 : decode cX2_readPart 72 = .ok (.getfield 31, 3) := by decide +kernel
theorem dX2_readPart_75 : decode cX2_readPart 75 = .ok (.iastore, 1) := by decide +kernel
theorem dX2_readPart_76 : decode cX2_readPart 76 = .ok (.aload_n 0, 1) := by decide +kernel
theorem dX2_readPart_77 : decode cX2_readPart 77 = .ok (.dup, 1) := by decide +kernel
theorem dX2_readPart_78 : decode cX2_readPart 78 = .ok (.getfield 34, 3) := by decide +kernel
theorem dX2_readPart_81 : decode cX2_readPart 81 = .ok (.iconst 1, 1) := by decide +kernel
theorem dX2_readPart_82 : decode cX2_readPart 82 = .ok (.iadd, 1) := by decide +kernel
theorem dX2_readPart_83 : decode cX2_readPart 83 = .ok (.putfield 34, 3) := by decide +kernel
theorem dX2_readPart_86 : decode cX2_readPart 86 = .ok (.iload_n 1, 1) := by decide +kernel
theorem dX2_readPart_87 : decode cX2_readPart 87 = .ok (.iconst 2, 1) := by decide +kernel
theorem dX2_readPart_88 : decode cX2_readPart 88 = .ok (.iadd, 1) := by decide +kernel
theorem dX2_readPart_89 : decode cX2_readPart 89 = .ok (.ireturn, 1) := by decide +kernel
theorem dX2_readPart_90 : decode cX2_readPart 90 = .ok (.iload_n 2, 1) := by decide +kernel
theorem dX2_readPart_91 : decode cX2_readPart 91 = .ok (.bipush 48, 2) := by decide +kernel
theorem dX2_readPart_93 : decode cX2_readPart 93 = .ok (.if_icmp .lt 15, 3) := by decide +kernel
theorem dX2_readPart_96 : decode cX2_readPart 96 = .ok (.iload_n 2, 1) := by decide +kernel
theorem dX2_readPart_97 : decode cX2_readPart 97 = .ok (.bipush 54, 2) := by decide +kernel
theorem dX2_readPart_99 : decode cX2_readPart 99 = .ok (.if_icmp .gt 9, 3) := by decide +kernel
theorem dX2_readPart_102 : decode cX2_readPart 102 = .ok (.aload_n 0, 1) := by decide +kernel
theorem dX2_readPart_103 : decode cX2_readPart 103 = .ok (.iload_n 1, 1) := by decide +kernel
theorem dX2_readPart_104 : decode cX2_readPart 104 = .ok (.invokevirtual 50, 3) := by decide +kernel
theorem dX2_readPart_107 : decode cX2_readPart 107 = .ok (.ireturn, 1) := by decide +kernel
theorem dX2_readPart_108 : decode cX2_readPart 108 = .ok (.iload_n 2, 1) := by decide +kernel
theorem dX2_readPart_109 : decode cX2_readPart 109 = .ok (.bipush 55, 2) := by decide +kernel
theorem dX2_readPart_111 : decode cX2_readPart 111 = .ok (.if_icmp .lt 21, 3) := by decide +kernel
theorem dX2_readPart_114 : decode cX2_readPart 114 = .ok (.iload_n 2, 1) := by decide +kernel
theorem dX2_readPart_115 : decode cX2_readPart 115 = .ok (.bipush 57, 2) := by decide +kernel
theorem dX2_readPart_117 : decode cX2_readPart 117 = .ok (.if_icmp .gt 15, 3) := by decide +kernel
theorem dX2_readPart_120 : decode cX2_readPart 120 = .ok (.aload_n 0, 1) := by decide +kernel
theorem dX2_readPart_121 : decode cX2_readPart 121 = .ok (.getfield 34, 3) := by decide +kernel
theorem dX2_readPart_124 : decode cX2_readPart 124 = .ok (.iconst 3, 1) := by decide +kernel
theorem dX2_readPart_125 : decode cX2_readPart 125 = .ok (.if_icmp .ge 7, 3) := by decide +kernel
theorem dX2_readPart_128 : decode cX2_readPart 128 = .ok (.iconst 1, 1) := by decide +kernel
theorem dX2_readPart_129 : decode cX2_readPart 129 = .ok (.goto 4, 3) := by decide +kernel
theorem dX2_readPart_132 : decode cX2_readPart 132 = .ok (.iconst 0, 1) := by decide +kernel
theorem dX2_readPart_133 : decode cX2_readPart 133 = .ok (.istore_n 3, 1) := by decide +kernel
theorem dX2_readPart_134 : decode cX2_readPart 134 = .ok (.aload_n 0, 1) := by decide +kernel
theorem dX2_readPart_135 : decode cX2_readPart 135 = .ok (.iload_n 3, 1) := by decide +kernel
theorem dX2_readPart_136 : decode cX2_readPart 136 = .ok (.ifCond .eq 9, 3) := by decide +kernel
theorem dX2_readPart_139 : decode cX2_readPart 139 = .ok (.iload_n 1, 1) := by decide +kernel
theorem dX2_readPart_140 : decode cX2_readPart 140 = .ok (.iconst 1, 1) := by decide +kernel
theorem dX2_readPart_141 : decode cX2_readPart 141 = .ok (.iadd, 1) := by decide +kernel
theorem dX2_readPart_142 : decode cX2_readPart 142 = .ok (.goto 4, 3) := by decide +kernel
theorem dX2_readPart_145 : decode cX2_readPart 145 = .ok (.iload_n 1, 1) := by decide +kernel
theorem dX2_readPart_146 : decode cX2_readPart 146 = .ok (.putfield 37, 3) := by decide +kernel
theorem dX2_readPart_149 : decode cX2_readPart 149 = .ok (.iload_n 1, 1) := by decide +kernel
theorem dX2_readPart_150 : decode cX2_readPart 150 = .ok (.ireturn, 1) := by decide +kernel
theorem dX2_closeRepeat_0 : decode cX2_closeRepeat 0 = .ok (.aload_n 0, 1) := by decide +kernel
theorem dX2_closeRepeat_1 : decode cX2_closeRepeat 1 = .ok (.getfield 34, 3) := by decide +kernel
theorem dX2_closeRepeat_4 : decode cX2_closeRepeat 4 = .ok (.ifCond .le 23, 3) := by decide +kernel
theorem dX2_closeRepeat_7 : decode cX2_closeRepeat 7 = .ok (.aload_n 0, 1) := by decide +kernel
theorem dX2_closeRepeat_8 : decode cX2_closeRepeat 8 = .ok (.getfield 31, 3) := by decide +kernel
theorem dX2_closeRepeat_11 : decode cX2_closeRepeat 11 = .ok (.aload_n 0, 1) := by decide +kernel
theorem dX2_closeRepeat_12 : decode cX2_closeRepeat 12 = .ok (.getfield 24, 3) := by decide +kernel
theorem dX2_closeRepeat_15 : decode cX2_closeRepeat 15 = .ok (.aload_n 0, 1) := by decide +kernel
theorem dX2_closeRepeat_16 : decode cX2_closeRepeat 16 = .ok (.getfield 34, 3) := by decide +kernel
theorem dX2_closeRepeat_19 : decode cX2_closeRepeat 19 = .ok (.iconst 1, 1) := by decide +kernel
theorem dX2_closeRepeat_20 : decode cX2_closeRepeat 20 = .ok (.isub, 1) := by decide +kernel
theorem dX2_closeRepeat_21 : decode cX2_closeRepeat 21 = .ok (.invokestatic 53, 3) := by decide +kernel
theorem dX2_closeRepeat_24 : decode cX2_closeRepeat 24 = .ok (.if_icmp .ne 10, 3) := by decide +kernel
theorem dX2_closeRepeat_27 : decode cX2_closeRepeat 27 = .ok (.aload_n 0, 1) := by decide +kernel
theorem dX2_closeRepeat_28 : decode cX2_closeRepeat 28 = .ok (.iload_n 1, 1) := by decide +kernel
theorem dX2_closeRepeat_29 : decode cX2_closeRepeat 29 = .ok (.putfield 37, 3) := by decide +kernel
theorem dX2_closeRepeat_32 : decode cX2_closeRepeat 32 = .ok (.iload_n 1, 1) := by decide +kernel
theorem dX2_closeRepeat_33 : decode cX2_closeRepeat 33 = .ok (.ireturn, 1) := by decide +kernel
theorem dX2_closeRepeat_34 : decode cX2_closeRepeat 34 = .ok (.aload_n 0, 1) := by decide +kernel
theorem dX2_closeRepeat_35 : decode cX2_closeRepeat 35 = .ok (.dup, 1) := by decide +kernel
theorem dX2_closeRepeat_36 : decode cX2_closeRepeat 36 = .ok (.getfield 34, 3) := by decide +kernel
theorem dX2_closeRepeat_39 : decode cX2_closeRepeat 39 = .ok (.iconst 1, 1) := by decide +kernel
theorem dX2_closeRepeat_40 : decode cX2_closeRepeat 40 = .ok (.isub, 1) := by decide +kernel
theorem dX2_closeRepeat_41 : decode cX2_closeRepeat 41 = .ok (.putfield 34, 3) := by decide +kernel
theorem dX2_closeRepeat_44 : decode cX2_closeRepeat 44 = .ok (.aload_n 0, 1) := by decide +kernel
theorem dX2_closeRepeat_45 : decode cX2_closeRepeat 45 = .ok (.getfield 31, 3) := by decide +kernel
theorem dX2_closeRepeat_48 : decode cX2_closeRepeat 48 = .ok (.aload_n 0, 1) := by decide +kernel
theorem dX2_closeRepeat_49 : decode cX2_closeRepeat 49 = .ok (.getfield 24, 3) := by decide +kernel
theorem dX2_closeRepeat_52 : decode cX2_closeRepeat 52 = .ok (.aload_n 0, 1) := by decide +kernel
theorem dX2_closeRepeat_53 : decode cX2_closeRepeat 53 = .ok (.getfield 34, 3) := by decide +kernel
theorem dX2_closeRepeat_56 : decode cX2_closeRepeat 56 = .ok (.invokestatic 53, 3) := by decide +kernel
theorem dX2_closeRepeat_59 : decode cX2_closeRepeat 59 = .ok (.isub, 1) := by decide +kernel
theorem dX2_closeRepeat_60 : decode cX2_closeRepeat 60 = .ok (.istore_n 2, 1) := by decide +kernel
theorem dX2_closeRepeat_61 : decode cX2_closeRepeat 61 = .ok (.aload_n 0, 1) := by decide +kernel
theorem dX2_closeRepeat_62 : decode cX2_closeRepeat 62 = .ok (.getfield 31, 3) := by decide +kernel
theorem dX2_closeRepeat_65 : decode cX2_closeRepeat 65 = .ok (.iload_n 2, 1) := by decide +kernel
theorem dX2_closeRepeat_66 : decode cX2_closeRepeat 66 = .ok (.aload_n 0, 1) := by decide +kernel
theorem dX2_closeRepeat_67 : decode cX2_closeRepeat 67 = .ok (.getfield 21, 3) := by decide +kernel
theorem dX2_closeRepeat_70 : decode cX2_closeRepeat 70 = .ok (.aload_n 0, 1) := by decide +kernel
theorem dX2_closeRepeat_71 : decode cX2_closeRepeat 71 = .ok (.getfield 34, 3) := by decide +kernel
theorem dX2_closeRepeat_74 : decode cX2_closeRepeat 74 = .ok (.invokestatic 53, 3) := by decide +kernel
theorem dX2_closeRepeat_77 : decode cX2_closeRepeat 77 = .ok (.iconst 1, 1) := by decide +kernel
theorem dX2_closeRepeat_78 : decode cX2_closeRepeat 78 = .ok (.isub, 1) := by decide +kernel
theorem dX2_closeRepeat_79 : decode cX2_closeRepeat 79 = .ok (.imul, 1) := by decide +kernel
theorem dX2_closeRepeat_80 : decode cX2_closeRepeat 80 = .ok (.iadd, 1) := by decide +kernel
theorem dX2_closeRepeat_81 : decode cX2_closeRepeat 81 = .ok (.istore_n 3, 1) := by decide +kernel
theorem dX2_closeRepeat_82 : decode cX2_closeRepeat 82 = .ok (.aload_n 0, 1) := by decide +kernel
theorem dX2_closeRepeat_83 : decode cX2_closeRepeat 83 = .ok (.getfield 31, 3) := by decide +kernel
theorem dX2_closeRepeat_86 : decode cX2_closeRepeat 86 = .ok (.istore 4, 2) := by decide +kernel
theorem dX2_closeRepeat_88 : decode cX2_closeRepeat 88 = .ok (.iload 4, 2) := by decide +kernel
theorem dX2_closeRepeat_90 : decode cX2_closeRepeat 90 = .ok (.iload_n 3, 1) := by decide +kernel
theorem dX2_closeRepeat_91 : decode cX2_closeRepeat 91 = .ok (.if_icmp .ge 52, 3) := by decide +kernel
theorem dX2_closeRepeat_94 : decode cX2_closeRepeat 94 = .ok (.iload 4, 2) := by decide +kernel
theorem dX2_closeRepeat_96 : decode cX2_closeRepeat 96 = .ok (.bipush 30, 2) := by decide +kernel
theorem dX2_closeRepeat_98 : decode cX2_closeRepeat 98 = .ok (.if_icmp .ge 45, 3) := by decide +kernel
theorem dX2_closeRepeat_101 : decode cX2_closeRepeat 101 = .ok (.aload_n 0, 1) := by decide +kernel
theorem dX2_closeRepeat_102 : decode cX2_closeRepeat 102 = .ok (.getfield 15, 3) := by decide +kernel
theorem dX2_closeRepeat_105 : decode cX2_closeRepeat 105 = .ok (.iload 4, 2) := by decide +kernel
theorem dX2_closeRepeat_107 : decode cX2_closeRepeat 107 = .ok (.aload_n 0, 1) := by decide +kernel
theorem dX2_closeRepeat_108 : decode cX2_closeRepeat 108 = .ok (.getfield 15, 3) := by decide +kernel
theorem dX2_closeRepeat_111 : decode cX2_closeRepeat 111 = .ok (.iload 4, 2) := by decide +kernel
theorem dX2_closeRepeat_113 : decode cX2_closeRepeat 113 = .ok (.iload_n 2, 1) := by decide +kernel
theorem dX2_closeRepeat_114 : decode cX2_closeRepeat 114 = .ok (.isub, 1) := by decide +kernel
theorem dX2_closeRepeat_115 : decode cX2_closeRepeat 115 = .ok (.invokestatic 53, 3) := by decide +kernel
theorem dX2_closeRepeat_118 : decode cX2_closeRepeat 118 = .ok (.iastore, 1) := by decide +kernel
theorem dX2_closeRepeat_119 : decode cX2_closeRepeat 119 = .ok (.aload_n 0, 1) := by decide +kernel
theorem dX2_closeRepeat_120 : decode cX2_closeRepeat 120 = .ok (.getfield 18, 3) := by decide +kernel
theorem dX2_closeRepeat_123 : decode cX2_closeRepeat 123 = .ok (.iload 4, 2) := by decide +kernel
theorem dX2_closeRepeat_125 : decode cX2_closeRepeat 125 = .ok (.aload_n 0, 1) := by decide +kernel
theorem dX2_closeRepeat_126 : decode cX2_closeRepeat 126 = .ok (.getfield 18, 3) := by decide +kernel
theorem dX2_closeRepeat_129 : decode cX2_closeRepeat 129 = .ok (.iload 4, 2) := by decide +kernel
theorem dX2_closeRepeat_131 : decode cX2_closeRepeat 131 = .ok (.iload_n 2, 1) := by decide +kernel
theorem dX2_closeRepeat_132 : decode cX2_closeRepeat 132 = .ok (.isub, 1) := by decide +kernel
theorem dX2_closeRepeat_133 : decode cX2_closeRepeat 133 = .ok (.invokestatic 53, 3) := by decide +kernel
theorem dX2_closeRepeat_136 : decode cX2_closeRepeat 136 = .ok (.iastore, 1) := by decide +kernel
theorem dX2_closeRepeat_137 : decode cX2_closeRepeat 137 = .ok (.iinc 4 1, 3) := by decide +kernel
theorem dX2_closeRepeat_140 : decode cX2_closeRepeat 140 = .ok (.goto (-52), 3) := by decide +kernel
theorem dX2_closeRepeat_143 : decode cX2_closeRepeat 143 = .ok (.aload_n 0, 1) := by decide +kernel
theorem dX2_closeRepeat_144 : decode cX2_closeRepeat 144 = .ok (.iload_n 3, 1) := by decide +kernel
theorem dX2_closeRepeat_145 : decode cX2_closeRepeat 145 = .ok (.putfield 31, 3) := by decide +kernel
theorem dX2_closeRepeat_148 : decode cX2_closeRepeat 148 = .ok (.iload_n 1, 1) := by decide +kernel
theorem dX2_closeRepeat_149 : decode cX2_closeRepeat 149 = .ok (.iconst 1, 1) := by decide +kernel
theorem dX2_closeRepeat_150 : decode cX2_closeRepeat 150 = .ok (.iadd, 1) := by decide +kernel
theorem dX2_closeRepeat_151 : decode cX2_closeRepeat 151 = .ok (.ireturn, 1) := by decide +kernel
theorem dX2_readAxle_0 : decode cX2_readAxle 0 = .ok (.aload_n 0, 1) := by decide +kernel
theorem dX2_readAxle_1 : decode cX2_readAxle 1 = .ok (.iload_n 1, 1) := by decide +kernel
theorem dX2_readAxle_2 : decode cX2_readAxle 2 = .ok (.bipush 60, 2) := by decide +kernel
theorem dX2_readAxle_4 : decode cX2_readAxle 4 = .ok (.invokevirtual 57, 3) := by decide +kernel
theorem dX2_readAxle_7 : decode cX2_readAxle 7 = .ok (.istore_n 2, 1) := by decide +kernel
theorem dX2_readAxle_8 : decode cX2_readAxle 8 = .ok (.aload_n 0, 1) := by decide +kernel
theorem dX2_readAxle_9 : decode cX2_readAxle 9 = .ok (.getfield 37, 3) := by decide +kernel
theorem dX2_readAxle_12 : decode cX2_readAxle 12 = .ok (.iconst (-1), 1) := by decide +kernel
theorem dX2_readAxle_13 : decode cX2_readAxle 13 = .ok (.if_icmp .eq 5, 3) := by decide +kernel
theorem dX2_readAxle_16 : decode cX2_readAxle 16 = .ok (.iload_n 1, 1) := by decide +kernel
theorem dX2_readAxle_17 : decode cX2_readAxle 17 = .ok (.ireturn, 1) := by decide +kernel
theorem dX2_readAxle_18 : decode cX2_readAxle 18 = .ok (.aload_n 0, 1) := by decide +kernel
theorem dX2_readAxle_19 : decode cX2_readAxle 19 = .ok (.iload_n 1, 1) := by decide +kernel
theorem dX2_readAxle_20 : decode cX2_readAxle 20 = .ok (.iconst 2, 1) := by decide +kernel
theorem dX2_readAxle_21 : decode cX2_readAxle 21 = .ok (.iadd, 1) := by decide +kernel
theorem dX2_readAxle_22 : decode cX2_readAxle 22 = .ok (.bipush 99, 2) := by decide +kernel
theorem dX2_readAxle_24 : decode cX2_readAxle 24 = .ok (.invokevirtual 57, 3) := by decide +kernel
theorem dX2_readAxle_27 : decode cX2_readAxle 27 = .ok (.istore_n 3, 1) := by decide +kernel
theorem dX2_readAxle_28 : decode cX2_readAxle 28 = .ok (.aload_n 0, 1) := by decide +kernel
theorem dX2_readAxle_29 : decode cX2_readAxle 29 = .ok (.getfield 37, 3) := by decide +kernel
theorem dX2_readAxle_32 : decode cX2_readAxle 32 = .ok (.iconst (-1), 1) := by decide +kernel
theorem dX2_readAxle_33 : decode cX2_readAxle 33 = .ok (.if_icmp .eq 5, 3) := by decide +kernel
theorem dX2_readAxle_36 : decode cX2_readAxle 36 = .ok (.iload_n 1, 1) := by decide +kernel
theorem dX2_readAxle_37 : decode cX2_readAxle 37 = .ok (.ireturn, 1) := by decide +kernel
theorem dX2_readAxle_38 : decode cX2_readAxle 38 = .ok (.aload_n 0, 1) := by decide +kernel
theorem dX2_readAxle_39 : decode cX2_readAxle 39 = .ok (.getfield 31, 3) := by decide +kernel
theorem dX2_readAxle_42 : decode cX2_readAxle 42 = .ok (.ifCond .lt 32, 3) := by decide +kernel
theorem dX2_readAxle_45 : decode cX2_readAxle 45 = .ok (.aload_n 0, 1) := by decide +kernel
theorem dX2_readAxle_46 : decode cX2_readAxle 46 = .ok (.getfield 31, 3) := by decide +kernel
theorem dX2_readAxle_49 : decode cX2_readAxle 49 = .ok (.bipush 30, 2) := by decide +kernel
theorem dX2_readAxle_51 : decode cX2_readAxle 51 = .ok (.if_icmp .ge 23, 3) := by decide +kernel
theorem dX2_readAxle_54 : decode cX2_readAxle 54 = .ok (.aload_n 0, 1) := by decide +kernel
theorem dX2_readAxle_55 : decode cX2_readAxle 55 = .ok (.getfield 15, 3) := by decide +kernel
theorem dX2_readAxle_58 : decode cX2_readAxle 58 = .ok (.aload_n 0, 1) := by decide +kernel
theorem dX2_readAxle_59 : decode cX2_readAxle 59 = .ok (.getfield 31, 3) := by decide +kernel
theorem dX2_readAxle_62 : decode cX2_readAxle 62 = .ok (.iload_n 2, 1) := by decide +kernel
theorem dX2_readAxle_63 : decode cX2_readAxle 63 = .ok (.iastore, 1) := by decide +kernel
theorem dX2_readAxle_64 : decode cX2_readAxle 64 = .ok (.aload_n 0, 1) := by decide +kernel
theorem dX2_readAxle_65 : decode cX2_readAxle 65 = .ok (.getfield 18, 3) := by decide +kernel
theorem dX2_readAxle_68 : decode cX2_readAxle 68 = .ok (.aload_n 0, 1) := by decide +kernel
theorem dX2_readAxle_69 : decode cX2_readAxle 69 = .ok (.getfield 31, 3) := by decide +kernel
theorem dX2_readAxle_72 : decode cX2_readAxle 72 = .ok (.iload_n 3, 1) := by decide +kernel
theorem dX2_readAxle_73 : decode cX2_readAxle 73 = .ok (.iastore, 1) := by decide +kernel
theorem dX2_readAxle_74 : decode cX2_readAxle 74 = .ok (.aload_n 0, 1) := by decide +kernel
theorem dX2_readAxle_75 : decode cX2_readAxle 75 = .ok (.dup, 1) := by decide +kernel
theorem dX2_readAxle_76 : decode cX2_readAxle 76 = .ok (.getfield 31, 3) := by decide +kernel
theorem dX2_readAxle_79 : decode cX2_readAxle 79 = .ok (.iconst 1, 1) := by decide +kernel
theorem dX2_readAxle_80 : decode cX2_readAxle 80 = .ok (.iadd, 1) := by decide +kernel
theorem dX2_readAxle_81 : decode cX2_readAxle 81 = .ok (.putfield 31, 3) := by decide +kernel
theorem dX2_readAxle_84 : decode cX2_readAxle 84 = .ok (.iload_n 1, 1) := by decide +kernel
theorem dX2_readAxle_85 : decode cX2_readAxle 85 = .ok (.iconst 4, 1) := by decide +kernel
theorem dX2_readAxle_86 : decode cX2_readAxle 86 = .ok (.iadd, 1) := by decide +kernel
theorem dX2_readAxle_87 : decode cX2_readAxle 87 = .ok (.ireturn, 1) := by decide +kernel
theorem dX2_readNumber_0 : decode cX2_readNumber 0 = .ok (.aload_n 0, 1) := by decide +kernel
theorem dX2_readNumber_1 : decode cX2_readNumber 1 = .ok (.iload_n 1, 1) := by decide +kernel
theorem dX2_readNumber_2 : decode cX2_readNumber 2 = .ok (.invokevirtual 61, 3) := by decide +kernel
theorem dX2_readNumber_5 : decode cX2_readNumber 5 = .ok (.istore_n 3, 1) := by decide +kernel
theorem dX2_readNumber_6 : decode cX2_readNumber 6 = .ok (.iload_n 3, 1) := by decide +kernel
theorem dX2_readNumber_7 : decode cX2_readNumber 7 = .ok (.iconst (-1), 1) := by decide +kernel
theorem dX2_readNumber_8 : decode cX2_readNumber 8 = .ok (.if_icmp .eq 11, 3) := by decide +kernel
theorem dX2_readNumber_11 : decode cX2_readNumber 11 = .ok (.bipush 10, 2) := by decide +kernel
theorem dX2_readNumber_13 : decode cX2_readNumber 13 = .ok (.iload_n 3, 1) := by decide +kernel
theorem dX2_readNumber_14 : decode cX2_readNumber 14 = .ok (.imul, 1) := by decide +kernel
theorem dX2_readNumber_15 : decode cX2_readNumber 15 = .ok (.iload_n 2, 1) := by decide +kernel
theorem dX2_readNumber_16 : decode cX2_readNumber 16 = .ok (.if_icmp .le 10, 3) := by decide +kernel
theorem dX2_readNumber_19 : decode cX2_readNumber 19 = .ok (.aload_n 0, 1) := by decide +kernel
theorem dX2_readNumber_20 : decode cX2_readNumber 20 = .ok (.iload_n 1, 1) := by decide +kernel
theorem dX2_readNumber_21 : decode cX2_readNumber 21 = .ok (.putfield 37, 3) := by decide +kernel
theorem dX2_readNumber_24 : decode cX2_readNumber 24 = .ok (.iconst 0, 1) := by decide +kernel
theorem dX2_readNumber_25 : decode cX2_readNumber 25 = .ok (.ireturn, 1) := by decide +kernel
theorem dX2_readNumber_26 : decode cX2_readNumber 26 = .ok (.aload_n 0, 1) := by decide +kernel
theorem dX2_readNumber_27 : decode cX2_readNumber 27 = .ok (.iload_n 1, 1) := by decide +kernel
theorem dX2_readNumber_28 : decode cX2_readNumber 28 = .ok (.iconst 1, 1) := by decide +kernel
theorem dX2_readNumber_29 : decode cX2_readNumber 29 = .ok (.iadd, 1) := by decide +kernel
theorem dX2_readNumber_30 : decode cX2_readNumber 30 = .ok (.invokevirtual 61, 3) := by decide +kernel
theorem dX2_readNumber_33 : decode cX2_readNumber 33 = .ok (.istore 4, 2) := by decide +kernel
theorem dX2_readNumber_35 : decode cX2_readNumber 35 = .ok (.bipush 10, 2) := by decide +kernel
theorem dX2_readNumber_37 : decode cX2_readNumber 37 = .ok (.iload_n 3, 1) := by decide +kernel
theorem dX2_readNumber_38 : decode cX2_readNumber 38 = .ok (.imul, 1) := by decide +kernel
theorem dX2_readNumber_39 : decode cX2_readNumber 39 = .ok (.iload 4, 2) := by decide +kernel
theorem dX2_readNumber_41 : decode cX2_readNumber 41 = .ok (.iadd, 1) := by decide +kernel
theorem dX2_readNumber_42 : decode cX2_readNumber 42 = .ok (.istore 5, 2) := by decide +kernel
theorem dX2_readNumber_44 : decode cX2_readNumber 44 = .ok (.iload 4, 2) := by decide +kernel
theorem dX2_readNumber_46 : decode cX2_readNumber 46 = .ok (.iconst (-1), 1) := by decide +kernel
theorem dX2_readNumber_47 : decode cX2_readNumber 47 = .ok (.if_icmp .eq 15, 3) := by decide +kernel
theorem dX2_readNumber_50 : decode cX2_readNumber 50 = .ok (.iload 5, 2) := by decide +kernel
theorem dX2_readNumber_52 : decode cX2_readNumber 52 = .ok (.iconst 1, 1) := by decide +kernel
theorem dX2_readNumber_53 : decode cX2_readNumber 53 = .ok (.if_icmp .lt 9, 3) := by decide +kernel
theorem dX2_readNumber_56 : decode cX2_readNumber 56 = .ok (.iload 5, 2) := by decide +kernel
theorem dX2_readNumber_58 : decode cX2_readNumber 58 = .ok (.iload_n 2, 1) := by decide +kernel
theorem dX2_readNumber_59 : decode cX2_readNumber 59 = .ok (.if_icmp .le 12, 3) := by decide +kernel
theorem dX2_readNumber_62 : decode cX2_readNumber 62 = .ok (.aload_n 0, 1) := by decide +kernel
theorem dX2_readNumber_63 : decode cX2_readNumber 63 = .ok (.iload_n 1, 1) := by decide +kernel
theorem dX2_readNumber_64 : decode cX2_readNumber 64 = .ok (.iconst 1, 1) := by decide +kernel
theorem dX2_readNumber_65 : decode cX2_readNumber 65 = .ok (.iadd, 1) := by decide +kernel
theorem dX2_readNumber_66 : decode cX2_readNumber 66 = .ok (.putfield 37, 3) := by decide +kernel
theorem dX2_readNumber_69 : decode cX2_readNumber 69 = .ok (.iconst 0, 1) := by decide +kernel
theorem dX2_readNumber_70 : decode cX2_readNumber 70 = .ok (.ireturn, 1) := by decide +kernel
theorem dX2_readNumber_71 : decode cX2_readNumber 71 = .ok (.iload 5, 2) := by decide +kernel
theorem dX2_readNumber_73 : decode cX2_readNumber 73 = .ok (.ireturn, 1) := by decide +kernel
theorem dX2_characterAt_0 : decode cX2_characterAt 0 = .ok (.iload_n 1, 1) := by decide +kernel
theorem dX2_characterAt_1 : decode cX2_characterAt 1 = .ok (.ifCond .lt 21, 3) := by decide +kernel
theorem dX2_characterAt_4 : decode cX2_characterAt 4 = .ok (.iload_n 1, 1) := by decide +kernel
theorem dX2_characterAt_5 : decode cX2_characterAt 5 = .ok (.aload_n 0, 1) := by decide +kernel
theorem dX2_characterAt_6 : decode cX2_characterAt 6 = .ok (.getfield 27, 3) := by decide +kernel
theorem dX2_characterAt_9 : decode cX2_characterAt 9 = .ok (.if_icmp .ge 13, 3) := by decide +kernel
theorem dX2_characterAt_12 : decode cX2_characterAt 12 = .ok (.iload_n 1, 1) := by decide +kernel
theorem dX2_characterAt_13 : decode cX2_characterAt 13 = .ok (.bipush 120, 2) := by decide +kernel
theorem dX2_characterAt_15 : decode cX2_characterAt 15 = .ok (.if_icmp .ge 7, 3) := by decide +kernel
theorem dX2_characterAt_18 : decode cX2_characterAt 18 = .ok (.iconst 1, 1) := by decide +kernel
theorem dX2_characterAt_19 : decode cX2_characterAt 19 = .ok (.goto 4, 3) := by decide +kernel
theorem dX2_characterAt_22 : decode cX2_characterAt 22 = .ok (.iconst 0, 1) := by decide +kernel
theorem dX2_characterAt_23 : decode cX2_characterAt 23 = .ok (.istore_n 2, 1) := by decide +kernel
theorem dX2_characterAt_24 : decode cX2_characterAt 24 = .ok (.iload_n 2, 1) := by decide +kernel
theorem dX2_characterAt_25 : decode cX2_characterAt 25 = .ok (.ifCond .eq 12, 3) := by decide +kernel
theorem dX2_characterAt_28 : decode cX2_characterAt 28 = .ok (.aload_n 0, 1) := by decide +kernel
theorem dX2_characterAt_29 : decode cX2_characterAt 29 = .ok (.getfield 9, 3) := by decide +kernel
theorem dX2_characterAt_32 : decode cX2_characterAt 32 = .ok (.iload_n 1, 1) := by decide +kernel
theorem dX2_characterAt_33 : decode cX2_characterAt 33 = .ok (.iaload, 1) := by decide +kernel
theorem dX2_characterAt_34 : decode cX2_characterAt 34 = .ok (.goto 4, 3) := by decide +kernel
theorem dX2_characterAt_37 : decode cX2_characterAt 37 = .ok (.iconst (-1), 1) := by decide +kernel
theorem dX2_characterAt_38 : decode cX2_characterAt 38 = .ok (.ireturn, 1) := by decide +kernel
theorem dX2_digitAt_0 : decode cX2_digitAt 0 = .ok (.aload_n 0, 1) := by decide +kernel
theorem dX2_digitAt_1 : decode cX2_digitAt 1 = .ok (.iload_n 1, 1) := by decide +kernel
theorem dX2_digitAt_2 : decode cX2_digitAt 2 = .ok (.invokevirtual 40, 3) := by decide +kernel
theorem dX2_digitAt_5 : decode cX2_digitAt 5 = .ok (.istore_n 2, 1) := by decide +kernel
theorem dX2_digitAt_6 : decode cX2_digitAt 6 = .ok (.iload_n 2, 1) := by decide +kernel
theorem dX2_digitAt_7 : decode cX2_digitAt 7 = .ok (.bipush 48, 2) := by decide +kernel
theorem dX2_digitAt_9 : decode cX2_digitAt 9 = .ok (.if_icmp .lt 16, 3) := by decide +kernel
theorem dX2_digitAt_12 : decode cX2_digitAt 12 = .ok (.iload_n 2, 1) := by decide +kernel
theorem dX2_digitAt_13 : decode cX2_digitAt 13 = .ok (.bipush 57, 2) := by decide +kernel
theorem dX2_digitAt_15 : decode cX2_digitAt 15 = .ok (.if_icmp .gt 10, 3) := by decide +kernel
theorem dX2_digitAt_18 : decode cX2_digitAt 18 = .ok (.iload_n 2, 1) := by decide +kernel
theorem dX2_digitAt_19 : decode cX2_digitAt 19 = .ok (.bipush 48, 2) := by decide +kernel
theorem dX2_digitAt_21 : decode cX2_digitAt 21 = .ok (.isub, 1) := by decide +kernel
theorem dX2_digitAt_22 : decode cX2_digitAt 22 = .ok (.goto 4, 3) := by decide +kernel
theorem dX2_digitAt_25 : decode cX2_digitAt 25 = .ok (.iconst (-1), 1) := by decide +kernel
theorem dX2_digitAt_26 : decode cX2_digitAt 26 = .ok (.ireturn, 1) := by decide +kernel
theorem dX3_init_0 : decode cX3_init 0 = .ok (.aload_n 0, 1) := by decide +kernel
theorem dX3_init_1 : decode cX3_init 1 = .ok (.invokespecial 1, 3) := by decide +kernel
theorem dX3_init_4 : decode cX3_init 4 = .ok (.aload_n 0, 1) := by decide +kernel
theorem dX3_init_5 : decode cX3_init 5 = .ok (.new 7, 3) := by decide +kernel
theorem dX3_init_8 : decode cX3_init 8 = .ok (.dup, 1) := by decide +kernel
theorem dX3_init_9 : decode cX3_init 9 = .ok (.invokespecial 9, 3) := by decide +kernel
theorem dX3_init_12 : decode cX3_init 12 = .ok (.putfield 10, 3) := by decide +kernel
theorem dX3_init_15 : decode cX3_init 15 = .ok (.aload_n 0, 1) := by decide +kernel
theorem dX3_init_16 : decode cX3_init 16 = .ok (.new 16, 3) := by decide +kernel
theorem dX3_init_19 : decode cX3_init 19 = .ok (.dup, 1) := by decide +kernel
theorem dX3_init_20 : decode cX3_init 20 = .ok (.invokespecial 18, 3) := by decide +kernel
theorem dX3_init_23 : decode cX3_init 23 = .ok (.putfield 19, 3) := by decide +kernel
theorem dX3_init_26 : decode cX3_init 26 = .ok (.aload_n 0, 1) := by decide +kernel
theorem dX3_init_27 : decode cX3_init 27 = .ok (.new 16, 3) := by decide +kernel
theorem dX3_init_30 : decode cX3_init 30 = .ok (.dup, 1) := by decide +kernel
theorem dX3_init_31 : decode cX3_init 31 = .ok (.invokespecial 18, 3) := by decide +kernel
theorem dX3_init_34 : decode cX3_init 34 = .ok (.putfield 23, 3) := by decide +kernel
theorem dX3_init_37 : decode cX3_init 37 = .ok (.aload_n 0, 1) := by decide +kernel
theorem dX3_init_38 : decode cX3_init 38 = .ok (.new 26, 3) := by decide +kernel
theorem dX3_init_41 : decode cX3_init 41 = .ok (.dup, 1) := by decide +kernel
theorem dX3_init_42 : decode cX3_init 42 = .ok (.invokespecial 28, 3) := by decide +kernel
theorem dX3_init_45 : decode cX3_init 45 = .ok (.putfield 29, 3) := by decide +kernel
theorem dX3_init_48 : decode cX3_init 48 = .ok (.aload_n 0, 1) := by decide +kernel
theorem dX3_init_49 : decode cX3_init 49 = .ok (.bipush 14, 2) := by decide +kernel
theorem dX3_init_51 : decode cX3_init 51 = .ok (.anewarray 16, 3) := by decide +kernel
theorem dX3_init_54 : decode cX3_init 54 = .ok (.putfield 33, 3) := by decide +kernel
theorem dX3_init_57 : decode cX3_init 57 = .ok (.iconst 0, 1) := by decide +kernel
theorem dX3_init_58 : decode cX3_init 58 = .ok (.istore_n 1, 1) := by decide +kernel
theorem dX3_init_59 : decode cX3_init 59 = .ok (.iload_n 1, 1) := by decide +kernel
theorem dX3_init_60 : decode cX3_init 60 = .ok (.bipush 14, 2) := by decide +kernel
theorem dX3_init_62 : decode cX3_init 62 = .ok (.if_icmp .ge 22, 3) := by decide +kernel
theorem dX3_init_65 : decode cX3_init 65 = .ok (.aload_n 0, 1) := by decide +kernel
theorem dX3_init_66 : decode cX3_init 66 = .ok (.getfield 33, 3) := by decide +kernel
theorem dX3_init_69 : decode cX3_init 69 = .ok (.iload_n 1, 1) := by decide +kernel
theorem dX3_init_70 : decode cX3_init 70 = .ok (.new 16, 3) := by decide +kernel
theorem dX3_init_73 : decode cX3_init 73 = .ok (.dup, 1) := by decide +kernel
theorem dX3_init_74 : decode cX3_init 74 = .ok (.invokespecial 18, 3) := by decide +kernel
theorem dX3_init_77 : decode cX3_init 77 = .ok (.aastore, 1) := by decide +kernel
theorem dX3_init_78 : decode cX3_init 78 = .ok (.iinc 1 1, 3) := by decide +kernel
theorem dX3_init_81 : decode cX3_init 81 = .ok (.goto (-22), 3) := by decide +kernel
theorem dX3_init_84 : decode cX3_init 84 = .ok (.aload_n 0, 1) := by decide +kernel
theorem dX3_init_85 : decode cX3_init 85 = .ok (.iconst 2, 1) := by decide +kernel
theorem dX3_init_86 : decode cX3_init 86 = .ok (.anewarray 16, 3) := by decide +kernel
theorem dX3_init_89 : decode cX3_init 89 = .ok (.putfield 37, 3) := by decide +kernel
theorem dX3_init_92 : decode cX3_init 92 = .ok (.iconst 0, 1) := by decide +kernel
theorem dX3_init_93 : decode cX3_init 93 = .ok (.istore_n 1, 1) := by decide +kernel
theorem dX3_init_94 : decode cX3_init 94 = .ok (.iload_n 1, 1) := by decide +kernel
theorem dX3_init_95 : decode cX3_init 95 = .ok (.iconst 2, 1) := by decide +kernel
theorem dX3_init_96 : decode cX3_init 96 = .ok (.if_icmp .ge 22, 3) := by decide +kernel
theorem dX3_init_99 : decode cX3_init 99 = .ok (.aload_n 0, 1) := by decide +kernel
theorem dX3_init_100 : decode cX3_init 100 = .ok (.getfield 37, 3) := by decide +kernel
theorem dX3_init_103 : decode cX3_init 103 = .ok (.iload_n 1, 1) := by decide +kernel
theorem dX3_init_104 : decode cX3_init 104 = .ok (.new 16, 3) := by decide +kernel
theorem dX3_init_107 : decode cX3_init 107 = .ok (.dup, 1) := by decide +kernel
theorem dX3_init_108 : decode cX3_init 108 = .ok (.invokespecial 18, 3) := by decide +kernel
theorem dX3_init_111 : decode cX3_init 111 = .ok (.aastore, 1) := by decide +kernel
theorem dX3_init_112 : decode cX3_init 112 = .ok (.iinc 1 1, 3) := by decide +kernel
theorem dX3_init_115 : decode cX3_init 115 = .ok (.goto (-21), 3) := by decide +kernel
theorem dX3_init_118 : decode cX3_init 118 = .ok (.aload_n 0, 1) := by decide +kernel
theorem dX3_init_119 : decode cX3_init 119 = .ok (.iconst 2, 1) := by decide +kernel
theorem dX3_init_120 : decode cX3_init 120 = .ok (.newarray .boolean, 2) := by decide +kernel
theorem dX3_init_122 : decode cX3_init 122 = .ok (.putfield 40, 3) := by decide +kernel
theorem dX3_init_125 : decode cX3_init 125 = .ok (.return_, 1) := by decide +kernel
theorem dX3_append_0 : decode cX3_append 0 = .ok (.iload_n 1, 1) := by decide +kernel
theorem dX3_append_1 : decode cX3_append 1 = .ok (.ifCond .lt 10, 3) := by decide +kernel
theorem dX3_append_4 : decode cX3_append 4 = .ok (.iload_n 1, 1) := by decide +kernel
theorem dX3_append_5 : decode cX3_append 5 = .ok (.sipush 255, 3) := by decide +kernel
theorem dX3_append_8 : decode cX3_append 8 = .ok (.if_icmp .le 13, 3) := by decide +kernel
theorem dX3_append_11 : decode cX3_append 11 = .ok (.new 44, 3) := by decide +kernel
theorem dX3_append_14 : decode cX3_append 14 = .ok (.dup, 1) := by decide +kernel
theorem dX3_append_15 : decode cX3_append 15 = .ok (.ldc 46, 2) := by decide +kernel
theorem dX3_append_17 : decode cX3_append 17 = .ok (.invokespecial 48, 3) := by decide +kernel
theorem dX3_append_20 : decode cX3_append 20 = .ok (.athrow, 1) := by decide +kernel
theorem dX3_append_21 : decode cX3_append 21 = .ok (.aload_n 0, 1) := by decide +kernel
theorem dX3_append_22 : decode cX3_append 22 = .ok (.getfield 10, 3) := by decide +kernel
theorem dX3_append_25 : decode cX3_append 25 = .ok (.iload_n 1, 1) := by decide +kernel
theorem dX3_append_26 : decode cX3_append 26 = .ok (.invokevirtual 51, 3) := by decide +kernel
theorem dX3_append_29 : decode cX3_append 29 = .ok (.ifCond .ne 13, 3) := by decide +kernel
theorem dX3_append_32 : decode cX3_append 32 = .ok (.new 55, 3) := by decide +kernel
theorem dX3_append_35 : decode cX3_append 35 = .ok (.dup, 1) := by decide +kernel
theorem dX3_append_36 : decode cX3_append 36 = .ok (.ldc 57, 2) := by decide +kernel
theorem dX3_append_38 : decode cX3_append 38 = .ok (.invokespecial 59, 3) := by decide +kernel
theorem dX3_append_41 : decode cX3_append 41 = .ok (.athrow, 1) := by decide +kernel
theorem dX3_append_42 : decode cX3_append 42 = .ok (.aload_n 0, 1) := by decide +kernel
theorem dX3_append_43 : decode cX3_append 43 = .ok (.getfield 10, 3) := by decide +kernel
theorem dX3_append_46 : decode cX3_append 46 = .ok (.getfield 60, 3) := by decide +kernel
theorem dX3_append_49 : decode cX3_append 49 = .ok (.ireturn, 1) := by decide +kernel
theorem dX3_clearText_0 : decode cX3_clearText 0 = .ok (.aload_n 0, 1) := by decide +kernel
theorem dX3_clearText_1 : decode cX3_clearText 1 = .ok (.getfield 10, 3) := by decide +kernel
theorem dX3_clearText_4 : decode cX3_clearText 4 = .ok (.getfield 60, 3) := by decide +kernel
theorem dX3_clearText_7 : decode cX3_clearText 7 = .ok (.istore_n 1, 1) := by decide +kernel
theorem dX3_clearText_8 : decode cX3_clearText 8 = .ok (.aload_n 0, 1) := by decide +kernel
theorem dX3_clearText_9 : decode cX3_clearText 9 = .ok (.getfield 10, 3) := by decide +kernel
theorem dX3_clearText_12 : decode cX3_clearText 12 = .ok (.iconst 0, 1) := by decide +kernel
theorem dX3_clearText_13 : decode cX3_clearText 13 = .ok (.putfield 60, 3) := by decide +kernel
theorem dX3_clearText_16 : decode cX3_clearText 16 = .ok (.iload_n 1, 1) := by decide +kernel
theorem dX3_clearText_17 : decode cX3_clearText 17 = .ok (.ireturn, 1) := by decide +kernel
theorem dX3_errorPosition_0 : decode cX3_errorPosition 0 = .ok (.aload_n 0, 1) := by decide +kernel
theorem dX3_errorPosition_1 : decode cX3_errorPosition 1 = .ok (.getfield 10, 3) := by decide +kernel
theorem dX3_errorPosition_4 : decode cX3_errorPosition 4 = .ok (.invokevirtual 64, 3) := by decide +kernel
theorem dX3_errorPosition_7 : decode cX3_errorPosition 7 = .ok (.aload_n 0, 1) := by decide +kernel
theorem dX3_errorPosition_8 : decode cX3_errorPosition 8 = .ok (.getfield 10, 3) := by decide +kernel
theorem dX3_errorPosition_11 : decode cX3_errorPosition 11 = .ok (.getfield 67, 3) := by decide +kernel
theorem dX3_errorPosition_14 : decode cX3_errorPosition 14 = .ok (.ireturn, 1) := by decide +kernel
theorem dX3_axlesTold_0 : decode cX3_axlesTold 0 = .ok (.aload_n 0, 1) := by decide +kernel
theorem dX3_axlesTold_1 : decode cX3_axlesTold 1 = .ok (.getfield 10, 3) := by decide +kernel
theorem dX3_axlesTold_4 : decode cX3_axlesTold 4 = .ok (.invokevirtual 64, 3) := by decide +kernel
theorem dX3_axlesTold_7 : decode cX3_axlesTold 7 = .ok (.aload_n 0, 1) := by decide +kernel
theorem dX3_axlesTold_8 : decode cX3_axlesTold 8 = .ok (.getfield 10, 3) := by decide +kernel
theorem dX3_axlesTold_11 : decode cX3_axlesTold 11 = .ok (.getfield 67, 3) := by decide +kernel
theorem dX3_axlesTold_14 : decode cX3_axlesTold 14 = .ok (.iconst (-1), 1) := by decide +kernel
theorem dX3_axlesTold_15 : decode cX3_axlesTold 15 = .ok (.if_icmp .ne 13, 3) := by decide +kernel
theorem dX3_axlesTold_18 : decode cX3_axlesTold 18 = .ok (.aload_n 0, 1) := by decide +kernel
theorem dX3_axlesTold_19 : decode cX3_axlesTold 19 = .ok (.getfield 10, 3) := by decide +kernel
theorem dX3_axlesTold_22 : decode cX3_axlesTold 22 = .ok (.getfield 70, 3) := by decide +kernel
theorem dX3_axlesTold_25 : decode cX3_axlesTold 25 = .ok (.goto 4, 3) := by decide +kernel
theorem dX3_axlesTold_28 : decode cX3_axlesTold 28 = .ok (.iconst (-1), 1) := by decide +kernel
theorem dX3_axlesTold_29 : decode cX3_axlesTold 29 = .ok (.ireturn, 1) := by decide +kernel
theorem dX3_about_0 : decode cX3_about 0 = .ok (.iload_n 1, 1) := by decide +kernel
theorem dX3_about_1 : decode cX3_about 1 = .ok (.ifCond .lt 9, 3) := by decide +kernel
theorem dX3_about_4 : decode cX3_about 4 = .ok (.iload_n 1, 1) := by decide +kernel
theorem dX3_about_5 : decode cX3_about 5 = .ok (.bipush 7, 2) := by decide +kernel
theorem dX3_about_7 : decode cX3_about 7 = .ok (.if_icmp .le 13, 3) := by decide +kernel
theorem dX3_about_10 : decode cX3_about 10 = .ok (.new 44, 3) := by decide +kernel
theorem dX3_about_13 : decode cX3_about 13 = .ok (.dup, 1) := by decide +kernel
theorem dX3_about_14 : decode cX3_about 14 = .ok (.ldc 73, 2) := by decide +kernel
theorem dX3_about_16 : decode cX3_about 16 = .ok (.invokespecial 48, 3) := by decide +kernel
theorem dX3_about_19 : decode cX3_about 19 = .ok (.athrow, 1) := by decide +kernel
theorem dX3_about_20 : decode cX3_about 20 = .ok (.aload_n 0, 1) := by decide +kernel
theorem dX3_about_21 : decode cX3_about 21 = .ok (.getfield 29, 3) := by decide +kernel
theorem dX3_about_24 : decode cX3_about 24 = .ok (.aload_n 0, 1) := by decide +kernel
theorem dX3_about_25 : decode cX3_about 25 = .ok (.getfield 19, 3) := by decide +kernel
theorem dX3_about_28 : decode cX3_about 28 = .ok (.invokevirtual 75, 3) := by decide +kernel
theorem dX3_about_31 : decode cX3_about 31 = .ok (.iload_n 1, 1) := by decide +kernel
theorem dX3_about_32 : decode cX3_about 32 = .ok (.tableswitch 108 0 6 #[44, 52, 60, 68, 86, 94, 102], 44) := by decide +kernel
theorem dX3_about_76 : decode cX3_about 76 = .ok (.aload_n 0, 1) := by decide +kernel
theorem dX3_about_77 : decode cX3_about 77 = .ok (.getfield 19, 3) := by decide +kernel
theorem dX3_about_80 : decode cX3_about 80 = .ok (.getfield 79, 3) := by decide +kernel
theorem dX3_about_83 : decode cX3_about 83 = .ok (.ireturn, 1) := by decide +kernel
theorem dX3_about_84 : decode cX3_about 84 = .ok (.aload_n 0, 1) := by decide +kernel
theorem dX3_about_85 : decode cX3_about 85 = .ok (.getfield 29, 3) := by decide +kernel
theorem dX3_about_88 : decode cX3_about 88 = .ok (.getfield 82, 3) := by decide +kernel
theorem dX3_about_91 : decode cX3_about 91 = .ok (.ireturn, 1) := by decide +kernel
theorem dX3_about_92 : decode cX3_about 92 = .ok (.aload_n 0, 1) := by decide +kernel
theorem dX3_about_93 : decode cX3_about 93 = .ok (.getfield 29, 3) := by decide +kernel
theorem dX3_about_96 : decode cX3_about 96 = .ok (.getfield 85, 3) := by decide +kernel
theorem dX3_about_99 : decode cX3_about 99 = .ok (.ireturn, 1) := by decide +kernel
theorem dX3_about_100 : decode cX3_about 100 = .ok (.aload_n 0, 1) := by decide +kernel
theorem dX3_about_101 : decode cX3_about 101 = .ok (.getfield 19, 3) := by decide +kernel
theorem dX3_about_104 : decode cX3_about 104 = .ok (.getfield 79, 3) := by decide +kernel
theorem dX3_about_107 : decode cX3_about 107 = .ok (.iconst 2, 1) := by decide +kernel
theorem dX3_about_108 : decode cX3_about 108 = .ok (.aload_n 0, 1) := by decide +kernel
theorem dX3_about_109 : decode cX3_about 109 = .ok (.getfield 29, 3) := by decide +kernel
theorem dX3_about_112 : decode cX3_about 112 = .ok (.getfield 85, 3) := by decide +kernel
theorem dX3_about_115 : decode cX3_about 115 = .ok (.imul, 1) := by decide +kernel
theorem dX3_about_116 : decode cX3_about 116 = .ok (.isub, 1) := by decide +kernel
theorem dX3_about_117 : decode cX3_about 117 = .ok (.ireturn, 1) := by decide +kernel
theorem dX3_about_118 : decode cX3_about 118 = .ok (.aload_n 0, 1) := by decide +kernel
theorem dX3_about_119 : decode cX3_about 119 = .ok (.getfield 29, 3) := by decide +kernel
theorem dX3_about_122 : decode cX3_about 122 = .ok (.getfield 88, 3) := by decide +kernel
theorem dX3_about_125 : decode cX3_about 125 = .ok (.ireturn, 1) := by decide +kernel
theorem dX3_about_126 : decode cX3_about 126 = .ok (.aload_n 0, 1) := by decide +kernel
theorem dX3_about_127 : decode cX3_about 127 = .ok (.getfield 29, 3) := by decide +kernel
theorem dX3_about_130 : decode cX3_about 130 = .ok (.getfield 91, 3) := by decide +kernel
theorem dX3_about_133 : decode cX3_about 133 = .ok (.ireturn, 1) := by decide +kernel
theorem dX3_about_134 : decode cX3_about 134 = .ok (.aload_n 0, 1) := by decide +kernel
theorem dX3_about_135 : decode cX3_about 135 = .ok (.iconst 0, 1) := by decide +kernel
theorem dX3_about_136 : decode cX3_about 136 = .ok (.invokevirtual 94, 3) := by decide +kernel
theorem dX3_about_139 : decode cX3_about 139 = .ok (.ireturn, 1) := by decide +kernel
theorem dX3_about_140 : decode cX3_about 140 = .ok (.aload_n 0, 1) := by decide +kernel
theorem dX3_about_141 : decode cX3_about 141 = .ok (.iconst 1, 1) := by decide +kernel
theorem dX3_about_142 : decode cX3_about 142 = .ok (.invokevirtual 94, 3) := by decide +kernel
theorem dX3_about_145 : decode cX3_about 145 = .ok (.ireturn, 1) := by decide +kernel
theorem dX3_axle_0 : decode cX3_axle 0 = .ok (.aload_n 0, 1) := by decide +kernel
theorem dX3_axle_1 : decode cX3_axle 1 = .ok (.iload_n 1, 1) := by decide +kernel
theorem dX3_axle_2 : decode cX3_axle 2 = .ok (.invokevirtual 98, 3) := by decide +kernel
theorem dX3_axle_5 : decode cX3_axle 5 = .ok (.iload_n 2, 1) := by decide +kernel
theorem dX3_axle_6 : decode cX3_axle 6 = .ok (.ifCond .lt 8, 3) := by decide +kernel
theorem dX3_axle_9 : decode cX3_axle 9 = .ok (.iload_n 2, 1) := by decide +kernel
theorem dX3_axle_10 : decode cX3_axle 10 = .ok (.iconst 3, 1) := by decide +kernel
theorem dX3_axle_11 : decode cX3_axle 11 = .ok (.if_icmp .le 13, 3) := by decide +kernel
theorem dX3_axle_14 : decode cX3_axle 14 = .ok (.new 44, 3) := by decide +kernel
theorem dX3_axle_17 : decode cX3_axle 17 = .ok (.dup, 1) := by decide +kernel
theorem dX3_axle_18 : decode cX3_axle 18 = .ok (.ldc 102, 2) := by decide +kernel
theorem dX3_axle_20 : decode cX3_axle 20 = .ok (.invokespecial 48, 3) := by decide +kernel
theorem dX3_axle_23 : decode cX3_axle 23 = .ok (.athrow, 1) := by decide +kernel
theorem dX3_axle_24 : decode cX3_axle 24 = .ok (.aload_n 0, 1) := by decide +kernel
theorem dX3_axle_25 : decode cX3_axle 25 = .ok (.getfield 29, 3) := by decide +kernel
theorem dX3_axle_28 : decode cX3_axle 28 = .ok (.aload_n 0, 1) := by decide +kernel
theorem dX3_axle_29 : decode cX3_axle 29 = .ok (.getfield 19, 3) := by decide +kernel
theorem dX3_axle_32 : decode cX3_axle 32 = .ok (.invokevirtual 75, 3) := by decide +kernel
theorem dX3_axle_35 : decode cX3_axle 35 = .ok (.iload_n 2, 1) := by decide +kernel
theorem dX3_axle_36 : decode cX3_axle 36 = .ok (.tableswitch 64 0 2 #[28, 40, 52], 28) := by decide +kernel
theorem dX3_axle_64 : decode cX3_axle 64 = .ok (.aload_n 0, 1) := by decide +kernel
theorem dX3_axle_65 : decode cX3_axle 65 = .ok (.getfield 19, 3) := by decide +kernel
theorem dX3_axle_68 : decode cX3_axle 68 = .ok (.getfield 104, 3) := by decide +kernel
theorem dX3_axle_71 : decode cX3_axle 71 = .ok (.iload_n 1, 1) := by decide +kernel
theorem dX3_axle_72 : decode cX3_axle 72 = .ok (.invokestatic 108, 3) := by decide +kernel
theorem dX3_axle_75 : decode cX3_axle 75 = .ok (.ireturn, 1) := by decide +kernel
theorem dX3_axle_76 : decode cX3_axle 76 = .ok (.aload_n 0, 1) := by decide +kernel
theorem dX3_axle_77 : decode cX3_axle 77 = .ok (.getfield 19, 3) := by decide +kernel
theorem dX3_axle_80 : decode cX3_axle 80 = .ok (.getfield 112, 3) := by decide +kernel
theorem dX3_axle_83 : decode cX3_axle 83 = .ok (.iload_n 1, 1) := by decide +kernel
theorem dX3_axle_84 : decode cX3_axle 84 = .ok (.invokestatic 108, 3) := by decide +kernel
theorem dX3_axle_87 : decode cX3_axle 87 = .ok (.ireturn, 1) := by decide +kernel
theorem dX3_axle_88 : decode cX3_axle 88 = .ok (.aload_n 0, 1) := by decide +kernel
theorem dX3_axle_89 : decode cX3_axle 89 = .ok (.getfield 29, 3) := by decide +kernel
theorem dX3_axle_92 : decode cX3_axle 92 = .ok (.getfield 115, 3) := by decide +kernel
theorem dX3_axle_95 : decode cX3_axle 95 = .ok (.iload_n 1, 1) := by decide +kernel
theorem dX3_axle_96 : decode cX3_axle 96 = .ok (.invokestatic 108, 3) := by decide +kernel
theorem dX3_axle_99 : decode cX3_axle 99 = .ok (.ireturn, 1) := by decide +kernel
theorem dX3_axle_100 : decode cX3_axle 100 = .ok (.aload_n 0, 1) := by decide +kernel
theorem dX3_axle_101 : decode cX3_axle 101 = .ok (.getfield 29, 3) := by decide +kernel
theorem dX3_axle_104 : decode cX3_axle 104 = .ok (.getfield 118, 3) := by decide +kernel
theorem dX3_axle_107 : decode cX3_axle 107 = .ok (.iload_n 1, 1) := by decide +kernel
theorem dX3_axle_108 : decode cX3_axle 108 = .ok (.invokestatic 108, 3) := by decide +kernel
theorem dX3_axle_111 : decode cX3_axle 111 = .ok (.ireturn, 1) := by decide +kernel
theorem dX3_car_0 : decode cX3_car 0 = .ok (.aload_n 0, 1) := by decide +kernel
theorem dX3_car_1 : decode cX3_car 1 = .ok (.getfield 29, 3) := by decide +kernel
theorem dX3_car_4 : decode cX3_car 4 = .ok (.aload_n 0, 1) := by decide +kernel
theorem dX3_car_5 : decode cX3_car 5 = .ok (.getfield 19, 3) := by decide +kernel
theorem dX3_car_8 : decode cX3_car 8 = .ok (.invokevirtual 75, 3) := by decide +kernel
theorem dX3_car_11 : decode cX3_car 11 = .ok (.iload_n 1, 1) := by decide +kernel
theorem dX3_car_12 : decode cX3_car 12 = .ok (.ifCond .lt 14, 3) := by decide +kernel
theorem dX3_car_15 : decode cX3_car 15 = .ok (.iload_n 1, 1) := by decide +kernel
theorem dX3_car_16 : decode cX3_car 16 = .ok (.aload_n 0, 1) := by decide +kernel
theorem dX3_car_17 : decode cX3_car 17 = .ok (.getfield 29, 3) := by decide +kernel
theorem dX3_car_20 : decode cX3_car 20 = .ok (.getfield 85, 3) := by decide +kernel
theorem dX3_car_23 : decode cX3_car 23 = .ok (.if_icmp .lt 13, 3) := by decide +kernel
theorem dX3_car_26 : decode cX3_car 26 = .ok (.new 121, 3) := by decide +kernel
theorem dX3_car_29 : decode cX3_car 29 = .ok (.dup, 1) := by decide +kernel
theorem dX3_car_30 : decode cX3_car 30 = .ok (.ldc 123, 2) := by decide +kernel
theorem dX3_car_32 : decode cX3_car 32 = .ok (.invokespecial 125, 3) := by decide +kernel
theorem dX3_car_35 : decode cX3_car 35 = .ok (.athrow, 1) := by decide +kernel
theorem dX3_car_36 : decode cX3_car 36 = .ok (.iload_n 2, 1) := by decide +kernel
theorem dX3_car_37 : decode cX3_car 37 = .ok (.ifCond .lt 8, 3) := by decide +kernel
theorem dX3_car_40 : decode cX3_car 40 = .ok (.iload_n 2, 1) := by decide +kernel
theorem dX3_car_41 : decode cX3_car 41 = .ok (.iconst 5, 1) := by decide +kernel
theorem dX3_car_42 : decode cX3_car 42 = .ok (.if_icmp .le 13, 3) := by decide +kernel
theorem dX3_car_45 : decode cX3_car 45 = .ok (.new 44, 3) := by decide +kernel
theorem dX3_car_48 : decode cX3_car 48 = .ok (.dup, 1) := by decide +kernel
theorem dX3_car_49 : decode cX3_car 49 = .ok (.ldc 126, 2) := by decide +kernel
theorem dX3_car_51 : decode cX3_car 51 = .ok (.invokespecial 48, 3) := by decide +kernel
theorem dX3_car_54 : decode cX3_car 54 = .ok (.athrow, 1) := by decide +kernel
theorem dX3_car_55 : decode cX3_car 55 = .ok (.aload_n 0, 1) := by decide +kernel
theorem dX3_car_56 : decode cX3_car 56 = .ok (.getfield 29, 3) := by decide +kernel
theorem dX3_car_59 : decode cX3_car 59 = .ok (.getfield 128, 3) := by decide +kernel
theorem dX3_car_62 : decode cX3_car 62 = .ok (.iload_n 1, 1) := by decide +kernel
theorem dX3_car_63 : decode cX3_car 63 = .ok (.invokestatic 108, 3) := by decide +kernel
theorem dX3_car_66 : decode cX3_car 66 = .ok (.istore_n 3, 1) := by decide +kernel
theorem dX3_car_67 : decode cX3_car 67 = .ok (.iload_n 2, 1) := by decide +kernel
theorem dX3_car_68 : decode cX3_car 68 = .ok (.tableswitch 82 0 4 #[36, 38, 47, 61, 70], 36) := by decide +kernel
theorem dX3_car_104 : decode cX3_car 104 = .ok (.iload_n 3, 1) := by decide +kernel
theorem dX3_car_105 : decode cX3_car 105 = .ok (.ireturn, 1) := by decide +kernel
theorem dX3_car_106 : decode cX3_car 106 = .ok (.aload_n 0, 1) := by decide +kernel
theorem dX3_car_107 : decode cX3_car 107 = .ok (.getfield 19, 3) := by decide +kernel
theorem dX3_car_110 : decode cX3_car 110 = .ok (.iload_n 3, 1) := by decide +kernel
theorem dX3_car_111 : decode cX3_car 111 = .ok (.invokevirtual 131, 3) := by decide +kernel
theorem dX3_car_114 : decode cX3_car 114 = .ok (.ireturn, 1) := by decide +kernel
theorem dX3_car_115 : decode cX3_car 115 = .ok (.aload_n 0, 1) := by decide +kernel
theorem dX3_car_116 : decode cX3_car 116 = .ok (.getfield 19, 3) := by decide +kernel
theorem dX3_car_119 : decode cX3_car 119 = .ok (.getfield 104, 3) := by decide +kernel
theorem dX3_car_122 : decode cX3_car 122 = .ok (.iload_n 3, 1) := by decide +kernel
theorem dX3_car_123 : decode cX3_car 123 = .ok (.iconst 1, 1) := by decide +kernel
theorem dX3_car_124 : decode cX3_car 124 = .ok (.iadd, 1) := by decide +kernel
theorem dX3_car_125 : decode cX3_car 125 = .ok (.invokestatic 108, 3) := by decide +kernel
theorem dX3_car_128 : decode cX3_car 128 = .ok (.ireturn, 1) := by decide +kernel
theorem dX3_car_129 : decode cX3_car 129 = .ok (.aload_n 0, 1) := by decide +kernel
theorem dX3_car_130 : decode cX3_car 130 = .ok (.getfield 19, 3) := by decide +kernel
theorem dX3_car_133 : decode cX3_car 133 = .ok (.iload_n 3, 1) := by decide +kernel
theorem dX3_car_134 : decode cX3_car 134 = .ok (.invokevirtual 135, 3) := by decide +kernel
theorem dX3_car_137 : decode cX3_car 137 = .ok (.ireturn, 1) := by decide +kernel
theorem dX3_car_138 : decode cX3_car 138 = .ok (.aload_n 0, 1) := by decide +kernel
theorem dX3_car_139 : decode cX3_car 139 = .ok (.getfield 29, 3) := by decide +kernel
theorem dX3_car_142 : decode cX3_car 142 = .ok (.getfield 115, 3) := by decide +kernel
theorem dX3_car_145 : decode cX3_car 145 = .ok (.iload_n 3, 1) := by decide +kernel
theorem dX3_car_146 : decode cX3_car 146 = .ok (.invokestatic 108, 3) := by decide +kernel
theorem dX3_car_149 : decode cX3_car 149 = .ok (.ireturn, 1) := by decide +kernel
theorem dX3_car_150 : decode cX3_car 150 = .ok (.aload_n 0, 1) := by decide +kernel
theorem dX3_car_151 : decode cX3_car 151 = .ok (.getfield 29, 3) := by decide +kernel
theorem dX3_car_154 : decode cX3_car 154 = .ok (.aload_n 0, 1) := by decide +kernel
theorem dX3_car_155 : decode cX3_car 155 = .ok (.getfield 19, 3) := by decide +kernel
theorem dX3_car_158 : decode cX3_car 158 = .ok (.iload_n 1, 1) := by decide +kernel
theorem dX3_car_159 : decode cX3_car 159 = .ok (.invokevirtual 138, 3) := by decide +kernel
theorem dX3_car_162 : decode cX3_car 162 = .ok (.ireturn, 1) := by decide +kernel
theorem dX3_train_0 : decode cX3_train 0 = .ok (.aload_n 0, 1) := by decide +kernel
theorem dX3_train_1 : decode cX3_train 1 = .ok (.getfield 29, 3) := by decide +kernel
theorem dX3_train_4 : decode cX3_train 4 = .ok (.aload_n 0, 1) := by decide +kernel
theorem dX3_train_5 : decode cX3_train 5 = .ok (.getfield 19, 3) := by decide +kernel
theorem dX3_train_8 : decode cX3_train 8 = .ok (.invokevirtual 75, 3) := by decide +kernel
theorem dX3_train_11 : decode cX3_train 11 = .ok (.aload_n 0, 1) := by decide +kernel
theorem dX3_train_12 : decode cX3_train 12 = .ok (.iload_n 1, 1) := by decide +kernel
theorem dX3_train_13 : decode cX3_train 13 = .ok (.invokevirtual 142, 3) := by decide +kernel
theorem dX3_train_16 : decode cX3_train 16 = .ok (.iload_n 2, 1) := by decide +kernel
theorem dX3_train_17 : decode cX3_train 17 = .ok (.ifCond .lt 9, 3) := by decide +kernel
theorem dX3_train_20 : decode cX3_train 20 = .ok (.iload_n 2, 1) := by decide +kernel
theorem dX3_train_21 : decode cX3_train 21 = .ok (.bipush 7, 2) := by decide +kernel
theorem dX3_train_23 : decode cX3_train 23 = .ok (.if_icmp .le 13, 3) := by decide +kernel
theorem dX3_train_26 : decode cX3_train 26 = .ok (.new 44, 3) := by decide +kernel
theorem dX3_train_29 : decode cX3_train 29 = .ok (.dup, 1) := by decide +kernel
theorem dX3_train_30 : decode cX3_train 30 = .ok (.ldc 145, 2) := by decide +kernel
theorem dX3_train_32 : decode cX3_train 32 = .ok (.invokespecial 48, 3) := by decide +kernel
theorem dX3_train_35 : decode cX3_train 35 = .ok (.athrow, 1) := by decide +kernel
theorem dX3_train_36 : decode cX3_train 36 = .ok (.iload_n 2, 1) := by decide +kernel
theorem dX3_train_37 : decode cX3_train 37 = .ok (.tableswitch 124 0 6 #[43, 55, 64, 73, 86, 98, 111], 43) := by decide +kernel
theorem dX3_train_80 : decode cX3_train 80 = .ok (.aload_n 0, 1) := by decide +kernel
theorem dX3_train_81 : decode cX3_train 81 = .ok (.getfield 29, 3) := by decide +kernel
theorem dX3_train_84 : decode cX3_train 84 = .ok (.getfield 147, 3) := by decide +kernel
theorem dX3_train_87 : decode cX3_train 87 = .ok (.iload_n 1, 1) := by decide +kernel
theorem dX3_train_88 : decode cX3_train 88 = .ok (.invokestatic 108, 3) := by decide +kernel
theorem dX3_train_91 : decode cX3_train 91 = .ok (.ireturn, 1) := by decide +kernel
theorem dX3_train_92 : decode cX3_train 92 = .ok (.aload_n 0, 1) := by decide +kernel
theorem dX3_train_93 : decode cX3_train 93 = .ok (.getfield 29, 3) := by decide +kernel
theorem dX3_train_96 : decode cX3_train 96 = .ok (.iload_n 1, 1) := by decide +kernel
theorem dX3_train_97 : decode cX3_train 97 = .ok (.invokevirtual 150, 3) := by decide +kernel
theorem dX3_train_100 : decode cX3_train 100 = .ok (.ireturn, 1) := by decide +kernel
theorem dX3_train_101 : decode cX3_train 101 = .ok (.aload_n 0, 1) := by decide +kernel
theorem dX3_train_102 : decode cX3_train 102 = .ok (.getfield 29, 3) := by decide +kernel
theorem dX3_train_105 : decode cX3_train 105 = .ok (.iload_n 1, 1) := by decide +kernel
theorem dX3_train_106 : decode cX3_train 106 = .ok (.invokevirtual 153, 3) := by decide +kernel
theorem dX3_train_109 : decode cX3_train 109 = .ok (.ireturn, 1) := by decide +kernel
theorem dX3_train_110 : decode cX3_train 110 = .ok (.aload_n 0, 1) := by decide +kernel
theorem dX3_train_111 : decode cX3_train 111 = .ok (.getfield 29, 3) := by decide +kernel
theorem dX3_train_114 : decode cX3_train 114 = .ok (.aload_n 0, 1) := by decide +kernel
theorem dX3_train_115 : decode cX3_train 115 = .ok (.getfield 19, 3) := by decide +kernel
theorem dX3_train_118 : decode cX3_train 118 = .ok (.iload_n 1, 1) := by decide +kernel
theorem dX3_train_119 : decode cX3_train 119 = .ok (.invokevirtual 156, 3) := by decide +kernel
theorem dX3_train_122 : decode cX3_train 122 = .ok (.ireturn, 1) := by decide +kernel
theorem dX3_train_123 : decode cX3_train 123 = .ok (.aload_n 0, 1) := by decide +kernel
theorem dX3_train_124 : decode cX3_train 124 = .ok (.getfield 29, 3) := by decide +kernel
theorem dX3_train_127 : decode cX3_train 127 = .ok (.getfield 159, 3) := by decide +kernel
theorem dX3_train_130 : decode cX3_train 130 = .ok (.iload_n 1, 1) := by decide +kernel
theorem dX3_train_131 : decode cX3_train 131 = .ok (.invokestatic 108, 3) := by decide +kernel
theorem dX3_train_134 : decode cX3_train 134 = .ok (.ireturn, 1) := by decide +kernel
theorem dX3_train_135 : decode cX3_train 135 = .ok (.aload_n 0, 1) := by decide +kernel
theorem dX3_train_136 : decode cX3_train 136 = .ok (.getfield 29, 3) := by decide +kernel
theorem dX3_train_139 : decode cX3_train 139 = .ok (.aload_n 0, 1) := by decide +kernel
theorem dX3_train_140 : decode cX3_train 140 = .ok (.getfield 19, 3) := by decide +kernel
theorem dX3_train_143 : decode cX3_train 143 = .ok (.iload_n 1, 1) := by decide +kernel
theorem dX3_train_144 : decode cX3_train 144 = .ok (.invokevirtual 162, 3) := by decide +kernel
theorem dX3_train_147 : decode cX3_train 147 = .ok (.ireturn, 1) := by decide +kernel
theorem dX3_train_148 : decode cX3_train 148 = .ok (.aload_n 0, 1) := by decide +kernel
theorem dX3_train_149 : decode cX3_train 149 = .ok (.getfield 29, 3) := by decide +kernel
theorem dX3_train_152 : decode cX3_train 152 = .ok (.aload_n 0, 1) := by decide +kernel
theorem dX3_train_153 : decode cX3_train 153 = .ok (.getfield 19, 3) := by decide +kernel
theorem dX3_train_156 : decode cX3_train 156 = .ok (.iload_n 1, 1) := by decide +kernel
theorem dX3_train_157 : decode cX3_train 157 = .ok (.invokevirtual 165, 3) := by decide +kernel
theorem dX3_train_160 : decode cX3_train 160 = .ok (.ireturn, 1) := by decide +kernel
theorem dX3_train_161 : decode cX3_train 161 = .ok (.aload_n 0, 1) := by decide +kernel
theorem dX3_train_162 : decode cX3_train 162 = .ok (.iload_n 1, 1) := by decide +kernel
theorem dX3_train_163 : decode cX3_train 163 = .ok (.invokevirtual 168, 3) := by decide +kernel
theorem dX3_train_166 : decode cX3_train 166 = .ok (.ireturn, 1) := by decide +kernel
theorem dX3_setting_0 : decode cX3_setting 0 = .ok (.iload_n 1, 1) := by decide +kernel
theorem dX3_setting_1 : decode cX3_setting 1 = .ok (.invokestatic 171, 3) := by decide +kernel
theorem dX3_setting_4 : decode cX3_setting 4 = .ok (.ifCond .ne 13, 3) := by decide +kernel
theorem dX3_setting_7 : decode cX3_setting 7 = .ok (.new 44, 3) := by decide +kernel
theorem dX3_setting_10 : decode cX3_setting 10 = .ok (.dup, 1) := by decide +kernel
theorem dX3_setting_11 : decode cX3_setting 11 = .ok (.ldc 174, 2) := by decide +kernel
theorem dX3_setting_13 : decode cX3_setting 13 = .ok (.invokespecial 48, 3) := by decide +kernel
theorem dX3_setting_16 : decode cX3_setting 16 = .ok (.athrow, 1) := by decide +kernel
theorem dX3_setting_17 : decode cX3_setting 17 = .ok (.aload_n 0, 1) := by decide +kernel
theorem dX3_setting_18 : decode cX3_setting 18 = .ok (.getfield 19, 3) := by decide +kernel
theorem dX3_setting_21 : decode cX3_setting 21 = .ok (.getfield 176, 3) := by decide +kernel
theorem dX3_setting_24 : decode cX3_setting 24 = .ok (.iload_n 1, 1) := by decide +kernel
theorem dX3_setting_25 : decode cX3_setting 25 = .ok (.invokestatic 108, 3) := by decide +kernel
theorem dX3_setting_28 : decode cX3_setting 28 = .ok (.ireturn, 1) := by decide +kernel
theorem dX3_roll_0 : decode cX3_roll 0 = .ok (.iload_n 1, 1) := by decide +kernel
theorem dX3_roll_1 : decode cX3_roll 1 = .ok (.invokestatic 179, 3) := by decide +kernel
theorem dX3_roll_4 : decode cX3_roll 4 = .ok (.ifCond .eq 10, 3) := by decide +kernel
theorem dX3_roll_7 : decode cX3_roll 7 = .ok (.iload_n 2, 1) := by decide +kernel
theorem dX3_roll_8 : decode cX3_roll 8 = .ok (.invokestatic 182, 3) := by decide +kernel
theorem dX3_roll_11 : decode cX3_roll 11 = .ok (.ifCond .ne 13, 3) := by decide +kernel
theorem dX3_roll_14 : decode cX3_roll 14 = .ok (.new 44, 3) := by decide +kernel
theorem dX3_roll_17 : decode cX3_roll 17 = .ok (.dup, 1) := by decide +kernel
theorem dX3_roll_18 : decode cX3_roll 18 = .ok (.ldc 185, 2) := by decide +kernel
theorem dX3_roll_20 : decode cX3_roll 20 = .ok (.invokespecial 48, 3) := by decide +kernel
theorem dX3_roll_23 : decode cX3_roll 23 = .ok (.athrow, 1) := by decide +kernel
theorem dX3_roll_24 : decode cX3_roll 24 = .ok (.aload_n 0, 1) := by decide +kernel
theorem dX3_roll_25 : decode cX3_roll 25 = .ok (.getfield 19, 3) := by decide +kernel
theorem dX3_roll_28 : decode cX3_roll 28 = .ok (.getfield 79, 3) := by decide +kernel
theorem dX3_roll_31 : decode cX3_roll 31 = .ok (.bipush 30, 2) := by decide +kernel
theorem dX3_roll_33 : decode cX3_roll 33 = .ok (.if_icmp .lt 13, 3) := by decide +kernel
theorem dX3_roll_36 : decode cX3_roll 36 = .ok (.new 55, 3) := by decide +kernel
theorem dX3_roll_39 : decode cX3_roll 39 = .ok (.dup, 1) := by decide +kernel
theorem dX3_roll_40 : decode cX3_roll 40 = .ok (.ldc 187, 2) := by decide +kernel
theorem dX3_roll_42 : decode cX3_roll 42 = .ok (.invokespecial 59, 3) := by decide +kernel
theorem dX3_roll_45 : decode cX3_roll 45 = .ok (.athrow, 1) := by decide +kernel
theorem dX3_roll_46 : decode cX3_roll 46 = .ok (.aload_n 0, 1) := by decide +kernel
theorem dX3_roll_47 : decode cX3_roll 47 = .ok (.invokevirtual 189, 3) := by decide +kernel
theorem dX3_roll_50 : decode cX3_roll 50 = .ok (.aload_n 0, 1) := by decide +kernel
theorem dX3_roll_51 : decode cX3_roll 51 = .ok (.getfield 19, 3) := by decide +kernel
theorem dX3_roll_54 : decode cX3_roll 54 = .ok (.iload_n 1, 1) := by decide +kernel
theorem dX3_roll_55 : decode cX3_roll 55 = .ok (.iload_n 2, 1) := by decide +kernel
theorem dX3_roll_56 : decode cX3_roll 56 = .ok (.invokevirtual 192, 3) := by decide +kernel
theorem dX3_roll_59 : decode cX3_roll 59 = .ok (.pop, 1) := by decide +kernel
theorem dX3_roll_60 : decode cX3_roll 60 = .ok (.aload_n 0, 1) := by decide +kernel
theorem dX3_roll_61 : decode cX3_roll 61 = .ok (.getfield 19, 3) := by decide +kernel
theorem dX3_roll_64 : decode cX3_roll 64 = .ok (.getfield 79, 3) := by decide +kernel
theorem dX3_roll_67 : decode cX3_roll 67 = .ok (.iconst 1, 1) := by decide +kernel
theorem dX3_roll_68 : decode cX3_roll 68 = .ok (.isub, 1) := by decide +kernel
theorem dX3_roll_69 : decode cX3_roll 69 = .ok (.ireturn, 1) := by decide +kernel
theorem dX3_record_0 : decode cX3_record 0 = .ok (.aload_n 0, 1) := by decide +kernel
theorem dX3_record_1 : decode cX3_record 1 = .ok (.getfield 10, 3) := by decide +kernel
theorem dX3_record_4 : decode cX3_record 4 = .ok (.invokevirtual 64, 3) := by decide +kernel
theorem dX3_record_7 : decode cX3_record 7 = .ok (.aload_n 0, 1) := by decide +kernel
theorem dX3_record_8 : decode cX3_record 8 = .ok (.getfield 10, 3) := by decide +kernel
theorem dX3_record_11 : decode cX3_record 11 = .ok (.getfield 67, 3) := by decide +kernel
theorem dX3_record_14 : decode cX3_record 14 = .ok (.iconst (-1), 1) := by decide +kernel
theorem dX3_record_15 : decode cX3_record 15 = .ok (.if_icmp .ne 23, 3) := by decide +kernel
theorem dX3_record_18 : decode cX3_record 18 = .ok (.aload_n 0, 1) := by decide +kernel
theorem dX3_record_19 : decode cX3_record 19 = .ok (.getfield 19, 3) := by decide +kernel
theorem dX3_record_22 : decode cX3_record 22 = .ok (.getfield 79, 3) := by decide +kernel
theorem dX3_record_25 : decode cX3_record 25 = .ok (.aload_n 0, 1) := by decide +kernel
theorem dX3_record_26 : decode cX3_record 26 = .ok (.getfield 10, 3) := by decide +kernel
theorem dX3_record_29 : decode cX3_record 29 = .ok (.getfield 70, 3) := by decide +kernel
theorem dX3_record_32 : decode cX3_record 32 = .ok (.iadd, 1) := by decide +kernel
theorem dX3_record_33 : decode cX3_record 33 = .ok (.bipush 30, 2) := by decide +kernel
theorem dX3_record_35 : decode cX3_record 35 = .ok (.if_icmp .le 13, 3) := by decide +kernel
theorem dX3_record_38 : decode cX3_record 38 = .ok (.new 55, 3) := by decide +kernel
theorem dX3_record_41 : decode cX3_record 41 = .ok (.dup, 1) := by decide +kernel
theorem dX3_record_42 : decode cX3_record 42 = .ok (.ldc 196, 2) := by decide +kernel
theorem dX3_record_44 : decode cX3_record 44 = .ok (.invokespecial 59, 3) := by decide +kernel
theorem dX3_record_47 : decode cX3_record 47 = .ok (.athrow, 1) := by decide +kernel
theorem dX3_record_48 : decode cX3_record 48 = .ok (.aload_n 0, 1) := by decide +kernel
theorem dX3_record_49 : decode cX3_record 49 = .ok (.invokevirtual 189, 3) := by decide +kernel
theorem dX3_record_52 : decode cX3_record 52 = .ok (.iconst 0, 1) := by decide +kernel
theorem dX3_record_53 : decode cX3_record 53 = .ok (.istore_n 1, 1) := by decide +kernel
theorem dX3_record_54 : decode cX3_record 54 = .ok (.iload_n 1, 1) := by decide +kernel
theorem dX3_record_55 : decode cX3_record 55 = .ok (.aload_n 0, 1) := by decide +kernel
theorem dX3_record_56 : decode cX3_record 56 = .ok (.getfield 10, 3) := by decide +kernel
theorem dX3_record_59 : decode cX3_record 59 = .ok (.getfield 70, 3) := by decide +kernel
theorem dX3_record_62 : decode cX3_record 62 = .ok (.if_icmp .ge 41, 3) := by decide +kernel
theorem dX3_record_65 : decode cX3_record 65 = .ok (.iload_n 1, 1) := by decide +kernel
theorem dX3_record_66 : decode cX3_record 66 = .ok (.bipush 30, 2) := by decide +kernel
theorem dX3_record_68 : decode cX3_record 68 = .ok (.if_icmp .ge 35, 3) := by decide +kernel
theorem dX3_record_71 : decode cX3_record 71 = .ok (.aload_n 0, 1) := by decide +kernel
theorem dX3_record_72 : decode cX3_record 72 = .ok (.getfield 19, 3) := by decide +kernel
theorem dX3_record_75 : decode cX3_record 75 = .ok (.aload_n 0, 1) := by decide +kernel
theorem dX3_record_76 : decode cX3_record 76 = .ok (.getfield 10, 3) := by decide +kernel
theorem dX3_record_79 : decode cX3_record 79 = .ok (.getfield 198, 3) := by decide +kernel
theorem dX3_record_82 : decode cX3_record 82 = .ok (.iload_n 1, 1) := by decide +kernel
theorem dX3_record_83 : decode cX3_record 83 = .ok (.iaload, 1) := by decide +kernel
theorem dX3_record_84 : decode cX3_record 84 = .ok (.aload_n 0, 1) := by decide +kernel
theorem dX3_record_85 : decode cX3_record 85 = .ok (.getfield 10, 3) := by decide +kernel
theorem dX3_record_88 : decode cX3_record 88 = .ok (.getfield 199, 3) := by decide +kernel
theorem dX3_record_91 : decode cX3_record 91 = .ok (.iload_n 1, 1) := by decide +kernel
theorem dX3_record_92 : decode cX3_record 92 = .ok (.iaload, 1) := by decide +kernel
theorem dX3_record_93 : decode cX3_record 93 = .ok (.invokevirtual 192, 3) := by decide +kernel
theorem dX3_record_96 : decode cX3_record 96 = .ok (.pop, 1) := by decide +kernel
theorem dX3_record_97 : decode cX3_record 97 = .ok (.iinc 1 1, 3) := by decide +kernel
theorem dX3_record_100 : decode cX3_record 100 = .ok (.goto (-46), 3) := by decide +kernel
theorem dX3_record_103 : decode cX3_record 103 = .ok (.aload_n 0, 1) := by decide +kernel
theorem dX3_record_104 : decode cX3_record 104 = .ok (.getfield 19, 3) := by decide +kernel
theorem dX3_record_107 : decode cX3_record 107 = .ok (.getfield 79, 3) := by decide +kernel
theorem dX3_record_110 : decode cX3_record 110 = .ok (.ireturn, 1) := by decide +kernel
theorem dX3_strike_0 : decode cX3_strike 0 = .ok (.aload_n 0, 1) := by decide +kernel
theorem dX3_strike_1 : decode cX3_strike 1 = .ok (.iload_n 1, 1) := by decide +kernel
theorem dX3_strike_2 : decode cX3_strike 2 = .ok (.invokevirtual 98, 3) := by decide +kernel
theorem dX3_strike_5 : decode cX3_strike 5 = .ok (.aload_n 0, 1) := by decide +kernel
theorem dX3_strike_6 : decode cX3_strike 6 = .ok (.invokevirtual 189, 3) := by decide +kernel
theorem dX3_strike_9 : decode cX3_strike 9 = .ok (.aload_n 0, 1) := by decide +kernel
theorem dX3_strike_10 : decode cX3_strike 10 = .ok (.getfield 19, 3) := by decide +kernel
theorem dX3_strike_13 : decode cX3_strike 13 = .ok (.iload_n 1, 1) := by decide +kernel
theorem dX3_strike_14 : decode cX3_strike 14 = .ok (.invokevirtual 200, 3) := by decide +kernel
theorem dX3_strike_17 : decode cX3_strike 17 = .ok (.pop, 1) := by decide +kernel
theorem dX3_strike_18 : decode cX3_strike 18 = .ok (.aload_n 0, 1) := by decide +kernel
theorem dX3_strike_19 : decode cX3_strike 19 = .ok (.getfield 19, 3) := by decide +kernel
theorem dX3_strike_22 : decode cX3_strike 22 = .ok (.getfield 79, 3) := by decide +kernel
theorem dX3_strike_25 : decode cX3_strike 25 = .ok (.ireturn, 1) := by decide +kernel
theorem dX3_weigh_0 : decode cX3_weigh 0 = .ok (.aload_n 0, 1) := by decide +kernel
theorem dX3_weigh_1 : decode cX3_weigh 1 = .ok (.iload_n 1, 1) := by decide +kernel
theorem dX3_weigh_2 : decode cX3_weigh 2 = .ok (.invokevirtual 98, 3) := by decide +kernel
theorem dX3_weigh_5 : decode cX3_weigh 5 = .ok (.iload_n 2, 1) := by decide +kernel
theorem dX3_weigh_6 : decode cX3_weigh 6 = .ok (.invokestatic 182, 3) := by decide +kernel
theorem dX3_weigh_9 : decode cX3_weigh 9 = .ok (.ifCond .ne 13, 3) := by decide +kernel
theorem dX3_weigh_12 : decode cX3_weigh 12 = .ok (.new 44, 3) := by decide +kernel
theorem dX3_weigh_15 : decode cX3_weigh 15 = .ok (.dup, 1) := by decide +kernel
theorem dX3_weigh_16 : decode cX3_weigh 16 = .ok (.ldc 203, 2) := by decide +kernel
theorem dX3_weigh_18 : decode cX3_weigh 18 = .ok (.invokespecial 48, 3) := by decide +kernel
theorem dX3_weigh_21 : decode cX3_weigh 21 = .ok (.athrow, 1) := by decide +kernel
theorem dX3_weigh_22 : decode cX3_weigh 22 = .ok (.aload_n 0, 1) := by decide +kernel
theorem dX3_weigh_23 : decode cX3_weigh 23 = .ok (.getfield 19, 3) := by decide +kernel
theorem dX3_weigh_26 : decode cX3_weigh 26 = .ok (.getfield 112, 3) := by decide +kernel
theorem dX3_weigh_29 : decode cX3_weigh 29 = .ok (.iload_n 1, 1) := by decide +kernel
theorem dX3_weigh_30 : decode cX3_weigh 30 = .ok (.invokestatic 108, 3) := by decide +kernel
theorem dX3_weigh_33 : decode cX3_weigh 33 = .ok (.istore_n 3, 1) := by decide +kernel
theorem dX3_weigh_34 : decode cX3_weigh 34 = .ok (.aload_n 0, 1) := by decide +kernel
theorem dX3_weigh_35 : decode cX3_weigh 35 = .ok (.invokevirtual 189, 3) := by decide +kernel
theorem dX3_weigh_38 : decode cX3_weigh 38 = .ok (.aload_n 0, 1) := by decide +kernel
theorem dX3_weigh_39 : decode cX3_weigh 39 = .ok (.getfield 19, 3) := by decide +kernel
theorem dX3_weigh_42 : decode cX3_weigh 42 = .ok (.iload_n 1, 1) := by decide +kernel
theorem dX3_weigh_43 : decode cX3_weigh 43 = .ok (.iload_n 2, 1) := by decide +kernel
theorem dX3_weigh_44 : decode cX3_weigh 44 = .ok (.invokevirtual 205, 3) := by decide +kernel
theorem dX3_weigh_47 : decode cX3_weigh 47 = .ok (.pop, 1) := by decide +kernel
theorem dX3_weigh_48 : decode cX3_weigh 48 = .ok (.iload_n 3, 1) := by decide +kernel
theorem dX3_weigh_49 : decode cX3_weigh 49 = .ok (.ireturn, 1) := by decide +kernel
theorem dX3_bill_0 : decode cX3_bill 0 = .ok (.iload_n 1, 1) := by decide +kernel
theorem dX3_bill_1 : decode cX3_bill 1 = .ok (.ifCond .lt 20, 3) := by decide +kernel
theorem dX3_bill_4 : decode cX3_bill 4 = .ok (.iload_n 1, 1) := by decide +kernel
theorem dX3_bill_5 : decode cX3_bill 5 = .ok (.bipush 30, 2) := by decide +kernel
theorem dX3_bill_7 : decode cX3_bill 7 = .ok (.if_icmp .ge 14, 3) := by decide +kernel
theorem dX3_bill_10 : decode cX3_bill 10 = .ok (.iload_n 2, 1) := by decide +kernel
theorem dX3_bill_11 : decode cX3_bill 11 = .ok (.ifCond .lt 10, 3) := by decide +kernel
theorem dX3_bill_14 : decode cX3_bill 14 = .ok (.iload_n 2, 1) := by decide +kernel
theorem dX3_bill_15 : decode cX3_bill 15 = .ok (.sipush 9999, 3) := by decide +kernel
theorem dX3_bill_18 : decode cX3_bill 18 = .ok (.if_icmp .le 13, 3) := by decide +kernel
theorem dX3_bill_21 : decode cX3_bill 21 = .ok (.new 44, 3) := by decide +kernel
theorem dX3_bill_24 : decode cX3_bill 24 = .ok (.dup, 1) := by decide +kernel
theorem dX3_bill_25 : decode cX3_bill 25 = .ok (.ldc 208, 2) := by decide +kernel
theorem dX3_bill_27 : decode cX3_bill 27 = .ok (.invokespecial 48, 3) := by decide +kernel
theorem dX3_bill_30 : decode cX3_bill 30 = .ok (.athrow, 1) := by decide +kernel
theorem dX3_bill_31 : decode cX3_bill 31 = .ok (.aload_n 0, 1) := by decide +kernel
theorem dX3_bill_32 : decode cX3_bill 32 = .ok (.iload_n 1, 1) := by decide +kernel
theorem dX3_bill_33 : decode cX3_bill 33 = .ok (.invokevirtual 168, 3) := by decide +kernel
theorem dX3_bill_36 : decode cX3_bill 36 = .ok (.istore_n 3, 1) := by decide +kernel
theorem dX3_bill_37 : decode cX3_bill 37 = .ok (.aload_n 0, 1) := by decide +kernel
theorem dX3_bill_38 : decode cX3_bill 38 = .ok (.invokevirtual 189, 3) := by decide +kernel
theorem dX3_bill_41 : decode cX3_bill 41 = .ok (.aload_n 0, 1) := by decide +kernel
theorem dX3_bill_42 : decode cX3_bill 42 = .ok (.getfield 19, 3) := by decide +kernel
theorem dX3_bill_45 : decode cX3_bill 45 = .ok (.getfield 210, 3) := by decide +kernel
theorem dX3_bill_48 : decode cX3_bill 48 = .ok (.iload_n 1, 1) := by decide +kernel
theorem dX3_bill_49 : decode cX3_bill 49 = .ok (.iload_n 2, 1) := by decide +kernel
theorem dX3_bill_50 : decode cX3_bill 50 = .ok (.iastore, 1) := by decide +kernel
theorem dX3_bill_51 : decode cX3_bill 51 = .ok (.iload_n 3, 1) := by decide +kernel
theorem dX3_bill_52 : decode cX3_bill 52 = .ok (.ireturn, 1) := by decide +kernel
theorem dX3_set_0 : decode cX3_set 0 = .ok (.iload_n 1, 1) := by decide +kernel
theorem dX3_set_1 : decode cX3_set 1 = .ok (.iload_n 2, 1) := by decide +kernel
theorem dX3_set_2 : decode cX3_set 2 = .ok (.invokestatic 213, 3) := by decide +kernel
theorem dX3_set_5 : decode cX3_set 5 = .ok (.ifCond .ne 13, 3) := by decide +kernel
theorem dX3_set_8 : decode cX3_set 8 = .ok (.new 44, 3) := by decide +kernel
theorem dX3_set_11 : decode cX3_set 11 = .ok (.dup, 1) := by decide +kernel
theorem dX3_set_12 : decode cX3_set 12 = .ok (.ldc 216, 2) := by decide +kernel
theorem dX3_set_14 : decode cX3_set 14 = .ok (.invokespecial 48, 3) := by decide +kernel
theorem dX3_set_17 : decode cX3_set 17 = .ok (.athrow, 1) := by decide +kernel
theorem dX3_set_18 : decode cX3_set 18 = .ok (.aload_n 0, 1) := by decide +kernel
theorem dX3_set_19 : decode cX3_set 19 = .ok (.getfield 19, 3) := by decide +kernel
theorem dX3_set_22 : decode cX3_set 22 = .ok (.getfield 176, 3) := by decide +kernel
theorem dX3_set_25 : decode cX3_set 25 = .ok (.iload_n 1, 1) := by decide +kernel
theorem dX3_set_26 : decode cX3_set 26 = .ok (.invokestatic 108, 3) := by decide +kernel
theorem dX3_set_29 : decode cX3_set 29 = .ok (.istore_n 3, 1) := by decide +kernel
theorem dX3_set_30 : decode cX3_set 30 = .ok (.aload_n 0, 1) := by decide +kernel
theorem dX3_set_31 : decode cX3_set 31 = .ok (.invokevirtual 189, 3) := by decide +kernel
theorem dX3_set_34 : decode cX3_set 34 = .ok (.aload_n 0, 1) := by decide +kernel
theorem dX3_set_35 : decode cX3_set 35 = .ok (.getfield 19, 3) := by decide +kernel
theorem dX3_set_38 : decode cX3_set 38 = .ok (.iload_n 1, 1) := by decide +kernel
theorem dX3_set_39 : decode cX3_set 39 = .ok (.iload_n 2, 1) := by decide +kernel
theorem dX3_set_40 : decode cX3_set 40 = .ok (.invokevirtual 218, 3) := by decide +kernel
theorem dX3_set_43 : decode cX3_set 43 = .ok (.pop, 1) := by decide +kernel
theorem dX3_set_44 : decode cX3_set 44 = .ok (.iload_n 3, 1) := by decide +kernel
theorem dX3_set_45 : decode cX3_set 45 = .ok (.ireturn, 1) := by decide +kernel
theorem dX3_leave_0 : decode cX3_leave 0 = .ok (.aload_n 0, 1) := by decide +kernel
theorem dX3_leave_1 : decode cX3_leave 1 = .ok (.getfield 19, 3) := by decide +kernel
theorem dX3_leave_4 : decode cX3_leave 4 = .ok (.getfield 79, 3) := by decide +kernel
theorem dX3_leave_7 : decode cX3_leave 7 = .ok (.ifCond .ne 13, 3) := by decide +kernel
theorem dX3_leave_10 : decode cX3_leave 10 = .ok (.new 55, 3) := by decide +kernel
theorem dX3_leave_13 : decode cX3_leave 13 = .ok (.dup, 1) := by decide +kernel
theorem dX3_leave_14 : decode cX3_leave 14 = .ok (.ldc 221, 2) := by decide +kernel
theorem dX3_leave_16 : decode cX3_leave 16 = .ok (.invokespecial 59, 3) := by decide +kernel
theorem dX3_leave_19 : decode cX3_leave 19 = .ok (.athrow, 1) := by decide +kernel
theorem dX3_leave_20 : decode cX3_leave 20 = .ok (.aload_n 0, 1) := by decide +kernel
theorem dX3_leave_21 : decode cX3_leave 21 = .ok (.getfield 29, 3) := by decide +kernel
theorem dX3_leave_24 : decode cX3_leave 24 = .ok (.aload_n 0, 1) := by decide +kernel
theorem dX3_leave_25 : decode cX3_leave 25 = .ok (.getfield 19, 3) := by decide +kernel
theorem dX3_leave_28 : decode cX3_leave 28 = .ok (.invokevirtual 75, 3) := by decide +kernel
theorem dX3_leave_31 : decode cX3_leave 31 = .ok (.aload_n 0, 1) := by decide +kernel
theorem dX3_leave_32 : decode cX3_leave 32 = .ok (.getfield 29, 3) := by decide +kernel
theorem dX3_leave_35 : decode cX3_leave 35 = .ok (.aload_n 0, 1) := by decide +kernel
theorem dX3_leave_36 : decode cX3_leave 36 = .ok (.getfield 19, 3) := by decide +kernel
theorem dX3_leave_39 : decode cX3_leave 39 = .ok (.iconst 0, 1) := by decide +kernel
theorem dX3_leave_40 : decode cX3_leave 40 = .ok (.invokevirtual 156, 3) := by decide +kernel
theorem dX3_leave_43 : decode cX3_leave 43 = .ok (.istore_n 1, 1) := by decide +kernel
theorem dX3_leave_44 : decode cX3_leave 44 = .ok (.aload_n 0, 1) := by decide +kernel
theorem dX3_leave_45 : decode cX3_leave 45 = .ok (.invokevirtual 189, 3) := by decide +kernel
theorem dX3_leave_48 : decode cX3_leave 48 = .ok (.aload_n 0, 1) := by decide +kernel
theorem dX3_leave_49 : decode cX3_leave 49 = .ok (.getfield 19, 3) := by decide +kernel
theorem dX3_leave_52 : decode cX3_leave 52 = .ok (.invokevirtual 223, 3) := by decide +kernel
theorem dX3_leave_55 : decode cX3_leave 55 = .ok (.pop, 1) := by decide +kernel
theorem dX3_leave_56 : decode cX3_leave 56 = .ok (.iload_n 1, 1) := by decide +kernel
theorem dX3_leave_57 : decode cX3_leave 57 = .ok (.ireturn, 1) := by decide +kernel
theorem dX3_undo_0 : decode cX3_undo 0 = .ok (.aload_n 0, 1) := by decide +kernel
theorem dX3_undo_1 : decode cX3_undo 1 = .ok (.getfield 227, 3) := by decide +kernel
theorem dX3_undo_4 : decode cX3_undo 4 = .ok (.ifCond .ne 13, 3) := by decide +kernel
theorem dX3_undo_7 : decode cX3_undo 7 = .ok (.new 55, 3) := by decide +kernel
theorem dX3_undo_10 : decode cX3_undo 10 = .ok (.dup, 1) := by decide +kernel
theorem dX3_undo_11 : decode cX3_undo 11 = .ok (.ldc 230, 2) := by decide +kernel
theorem dX3_undo_13 : decode cX3_undo 13 = .ok (.invokespecial 59, 3) := by decide +kernel
theorem dX3_undo_16 : decode cX3_undo 16 = .ok (.athrow, 1) := by decide +kernel
theorem dX3_undo_17 : decode cX3_undo 17 = .ok (.aload_n 0, 1) := by decide +kernel
theorem dX3_undo_18 : decode cX3_undo 18 = .ok (.dup, 1) := by decide +kernel
theorem dX3_undo_19 : decode cX3_undo 19 = .ok (.getfield 227, 3) := by decide +kernel
theorem dX3_undo_22 : decode cX3_undo 22 = .ok (.iconst 1, 1) := by decide +kernel
theorem dX3_undo_23 : decode cX3_undo 23 = .ok (.isub, 1) := by decide +kernel
theorem dX3_undo_24 : decode cX3_undo 24 = .ok (.putfield 227, 3) := by decide +kernel
theorem dX3_undo_27 : decode cX3_undo 27 = .ok (.aload_n 0, 1) := by decide +kernel
theorem dX3_undo_28 : decode cX3_undo 28 = .ok (.aload_n 0, 1) := by decide +kernel
theorem dX3_undo_29 : decode cX3_undo 29 = .ok (.getfield 232, 3) := by decide +kernel
theorem dX3_undo_32 : decode cX3_undo 32 = .ok (.bipush 14, 2) := by decide +kernel
theorem dX3_undo_34 : decode cX3_undo 34 = .ok (.iadd, 1) := by decide +kernel
theorem dX3_undo_35 : decode cX3_undo 35 = .ok (.iconst 1, 1) := by decide +kernel
theorem dX3_undo_36 : decode cX3_undo 36 = .ok (.isub, 1) := by decide +kernel
theorem dX3_undo_37 : decode cX3_undo 37 = .ok (.bipush 14, 2) := by decide +kernel
theorem dX3_undo_39 : decode cX3_undo 39 = .ok (.irem, 1) := by decide +kernel
theorem dX3_undo_40 : decode cX3_undo 40 = .ok (.putfield 232, 3) := by decide +kernel
theorem dX3_undo_43 : decode cX3_undo 43 = .ok (.aload_n 0, 1) := by decide +kernel
theorem dX3_undo_44 : decode cX3_undo 44 = .ok (.getfield 33, 3) := by decide +kernel
theorem dX3_undo_47 : decode cX3_undo 47 = .ok (.aload_n 0, 1) := by decide +kernel
theorem dX3_undo_48 : decode cX3_undo 48 = .ok (.getfield 232, 3) := by decide +kernel
theorem dX3_undo_51 : decode cX3_undo 51 = .ok (.aaload, 1) := by decide +kernel
theorem dX3_undo_52 : decode cX3_undo 52 = .ok (.aload_n 0, 1) := by decide +kernel
theorem dX3_undo_53 : decode cX3_undo 53 = .ok (.getfield 19, 3) := by decide +kernel
theorem dX3_undo_56 : decode cX3_undo 56 = .ok (.invokestatic 235, 3) := by decide +kernel
theorem dX3_undo_59 : decode cX3_undo 59 = .ok (.aload_n 0, 1) := by decide +kernel
theorem dX3_undo_60 : decode cX3_undo 60 = .ok (.getfield 227, 3) := by decide +kernel
theorem dX3_undo_63 : decode cX3_undo 63 = .ok (.ireturn, 1) := by decide +kernel
theorem dX3_without_0 : decode cX3_without 0 = .ok (.aload_n 0, 1) := by decide +kernel
theorem dX3_without_1 : decode cX3_without 1 = .ok (.iload_n 1, 1) := by decide +kernel
theorem dX3_without_2 : decode cX3_without 2 = .ok (.invokevirtual 98, 3) := by decide +kernel
theorem dX3_without_5 : decode cX3_without 5 = .ok (.aload_n 0, 1) := by decide +kernel
theorem dX3_without_6 : decode cX3_without 6 = .ok (.getfield 19, 3) := by decide +kernel
theorem dX3_without_9 : decode cX3_without 9 = .ok (.aload_n 0, 1) := by decide +kernel
theorem dX3_without_10 : decode cX3_without 10 = .ok (.getfield 23, 3) := by decide +kernel
theorem dX3_without_13 : decode cX3_without 13 = .ok (.invokestatic 235, 3) := by decide +kernel
theorem dX3_without_16 : decode cX3_without 16 = .ok (.aload_n 0, 1) := by decide +kernel
theorem dX3_without_17 : decode cX3_without 17 = .ok (.getfield 23, 3) := by decide +kernel
theorem dX3_without_20 : decode cX3_without 20 = .ok (.iload_n 1, 1) := by decide +kernel
theorem dX3_without_21 : decode cX3_without 21 = .ok (.invokevirtual 200, 3) := by decide +kernel
theorem dX3_without_24 : decode cX3_without 24 = .ok (.pop, 1) := by decide +kernel
theorem dX3_without_25 : decode cX3_without 25 = .ok (.aload_n 0, 1) := by decide +kernel
theorem dX3_without_26 : decode cX3_without 26 = .ok (.getfield 29, 3) := by decide +kernel
theorem dX3_without_29 : decode cX3_without 29 = .ok (.aload_n 0, 1) := by decide +kernel
theorem dX3_without_30 : decode cX3_without 30 = .ok (.getfield 23, 3) := by decide +kernel
theorem dX3_without_33 : decode cX3_without 33 = .ok (.invokevirtual 75, 3) := by decide +kernel
theorem dX3_without_36 : decode cX3_without 36 = .ok (.aload_n 0, 1) := by decide +kernel
theorem dX3_without_37 : decode cX3_without 37 = .ok (.getfield 29, 3) := by decide +kernel
theorem dX3_without_40 : decode cX3_without 40 = .ok (.getfield 88, 3) := by decide +kernel
theorem dX3_without_43 : decode cX3_without 43 = .ok (.ireturn, 1) := by decide +kernel
theorem dX3_suspect_0 : decode cX3_suspect 0 = .ok (.aload_n 0, 1) := by decide +kernel
theorem dX3_suspect_1 : decode cX3_suspect 1 = .ok (.getfield 29, 3) := by decide +kernel
theorem dX3_suspect_4 : decode cX3_suspect 4 = .ok (.aload_n 0, 1) := by decide +kernel
theorem dX3_suspect_5 : decode cX3_suspect 5 = .ok (.getfield 19, 3) := by decide +kernel
theorem dX3_suspect_8 : decode cX3_suspect 8 = .ok (.invokevirtual 75, 3) := by decide +kernel
theorem dX3_suspect_11 : decode cX3_suspect 11 = .ok (.aload_n 0, 1) := by decide +kernel
theorem dX3_suspect_12 : decode cX3_suspect 12 = .ok (.getfield 29, 3) := by decide +kernel
theorem dX3_suspect_15 : decode cX3_suspect 15 = .ok (.getfield 91, 3) := by decide +kernel
theorem dX3_suspect_18 : decode cX3_suspect 18 = .ok (.istore_n 1, 1) := by decide +kernel
theorem dX3_suspect_19 : decode cX3_suspect 19 = .ok (.iconst (-1), 1) := by decide +kernel
theorem dX3_suspect_20 : decode cX3_suspect 20 = .ok (.istore_n 2, 1) := by decide +kernel
theorem dX3_suspect_21 : decode cX3_suspect 21 = .ok (.iconst 0, 1) := by decide +kernel
theorem dX3_suspect_22 : decode cX3_suspect 22 = .ok (.istore_n 3, 1) := by decide +kernel
theorem dX3_suspect_23 : decode cX3_suspect 23 = .ok (.iload_n 3, 1) := by decide +kernel
theorem dX3_suspect_24 : decode cX3_suspect 24 = .ok (.aload_n 0, 1) := by decide +kernel
theorem dX3_suspect_25 : decode cX3_suspect 25 = .ok (.getfield 19, 3) := by decide +kernel
theorem dX3_suspect_28 : decode cX3_suspect 28 = .ok (.getfield 79, 3) := by decide +kernel
theorem dX3_suspect_31 : decode cX3_suspect 31 = .ok (.if_icmp .ge 61, 3) := by decide +kernel
theorem dX3_suspect_34 : decode cX3_suspect 34 = .ok (.aload_n 0, 1) := by decide +kernel
theorem dX3_suspect_35 : decode cX3_suspect 35 = .ok (.getfield 19, 3) := by decide +kernel
theorem dX3_suspect_38 : decode cX3_suspect 38 = .ok (.aload_n 0, 1) := by decide +kernel
theorem dX3_suspect_39 : decode cX3_suspect 39 = .ok (.getfield 23, 3) := by decide +kernel
theorem dX3_suspect_42 : decode cX3_suspect 42 = .ok (.invokestatic 235, 3) := by decide +kernel
theorem dX3_suspect_45 : decode cX3_suspect 45 = .ok (.aload_n 0, 1) := by decide +kernel
theorem dX3_suspect_46 : decode cX3_suspect 46 = .ok (.getfield 23, 3) := by decide +kernel
theorem dX3_suspect_49 : decode cX3_suspect 49 = .ok (.iload_n 3, 1) := by decide +kernel
theorem dX3_suspect_50 : decode cX3_suspect 50 = .ok (.invokevirtual 200, 3) := by decide +kernel
theorem dX3_suspect_53 : decode cX3_suspect 53 = .ok (.pop, 1) := by decide +kernel
theorem dX3_suspect_54 : decode cX3_suspect 54 = .ok (.aload_n 0, 1) := by decide +kernel
theorem dX3_suspect_55 : decode cX3_suspect 55 = .ok (.getfield 29, 3) := by decide +kernel
theorem dX3_suspect_58 : decode cX3_suspect 58 = .ok (.aload_n 0, 1) := by decide +kernel
theorem dX3_suspect_59 : decode cX3_suspect 59 = .ok (.getfield 23, 3) := by decide +kernel
theorem dX3_suspect_62 : decode cX3_suspect 62 = .ok (.invokevirtual 75, 3) := by decide +kernel
theorem dX3_suspect_65 : decode cX3_suspect 65 = .ok (.aload_n 0, 1) := by decide +kernel
theorem dX3_suspect_66 : decode cX3_suspect 66 = .ok (.getfield 29, 3) := by decide +kernel
theorem dX3_suspect_69 : decode cX3_suspect 69 = .ok (.getfield 91, 3) := by decide +kernel
theorem dX3_suspect_72 : decode cX3_suspect 72 = .ok (.iload_n 1, 1) := by decide +kernel
theorem dX3_suspect_73 : decode cX3_suspect 73 = .ok (.if_icmp .ge 13, 3) := by decide +kernel
theorem dX3_suspect_76 : decode cX3_suspect 76 = .ok (.aload_n 0, 1) := by decide +kernel
theorem dX3_suspect_77 : decode cX3_suspect 77 = .ok (.getfield 29, 3) := by decide +kernel
theorem dX3_suspect_80 : decode cX3_suspect 80 = .ok (.getfield 91, 3) := by decide +kernel
theorem dX3_suspect_83 : decode cX3_suspect 83 = .ok (.istore_n 1, 1) := by decide +kernel
theorem dX3_suspect_84 : decode cX3_suspect 84 = .ok (.iload_n 3, 1) := by decide +kernel
theorem dX3_suspect_85 : decode cX3_suspect 85 = .ok (.istore_n 2, 1) := by decide +kernel
theorem dX3_suspect_86 : decode cX3_suspect 86 = .ok (.iinc 3 1, 3) := by decide +kernel
theorem dX3_suspect_89 : decode cX3_suspect 89 = .ok (.goto (-66), 3) := by decide +kernel
theorem dX3_suspect_92 : decode cX3_suspect 92 = .ok (.iload_n 2, 1) := by decide +kernel
theorem dX3_suspect_93 : decode cX3_suspect 93 = .ok (.ireturn, 1) := by decide +kernel
theorem dX3_bestBase_0 : decode cX3_bestBase 0 = .ok (.iconst (-1), 1) := by decide +kernel
theorem dX3_bestBase_1 : decode cX3_bestBase 1 = .ok (.istore_n 1, 1) := by decide +kernel
theorem dX3_bestBase_2 : decode cX3_bestBase 2 = .ok (.iconst 0, 1) := by decide +kernel
theorem dX3_bestBase_3 : decode cX3_bestBase 3 = .ok (.istore_n 2, 1) := by decide +kernel
theorem dX3_bestBase_4 : decode cX3_bestBase 4 = .ok (.aload_n 0, 1) := by decide +kernel
theorem dX3_bestBase_5 : decode cX3_bestBase 5 = .ok (.getfield 19, 3) := by decide +kernel
theorem dX3_bestBase_8 : decode cX3_bestBase 8 = .ok (.aload_n 0, 1) := by decide +kernel
theorem dX3_bestBase_9 : decode cX3_bestBase 9 = .ok (.getfield 23, 3) := by decide +kernel
theorem dX3_bestBase_12 : decode cX3_bestBase 12 = .ok (.invokestatic 235, 3) := by decide +kernel
theorem dX3_bestBase_15 : decode cX3_bestBase 15 = .ok (.getstatic 239, 3) := by decide +kernel
theorem dX3_bestBase_18 : decode cX3_bestBase 18 = .ok (.iconst 0, 1) := by decide +kernel
theorem dX3_bestBase_19 : decode cX3_bestBase 19 = .ok (.iaload, 1) := by decide +kernel
theorem dX3_bestBase_20 : decode cX3_bestBase 20 = .ok (.istore_n 3, 1) := by decide +kernel
theorem dX3_bestBase_21 : decode cX3_bestBase 21 = .ok (.iload_n 3, 1) := by decide +kernel
theorem dX3_bestBase_22 : decode cX3_bestBase 22 = .ok (.getstatic 242, 3) := by decide +kernel
theorem dX3_bestBase_25 : decode cX3_bestBase 25 = .ok (.iconst 0, 1) := by decide +kernel
theorem dX3_bestBase_26 : decode cX3_bestBase 26 = .ok (.iaload, 1) := by decide +kernel
theorem dX3_bestBase_27 : decode cX3_bestBase 27 = .ok (.if_icmp .gt 56, 3) := by decide +kernel
theorem dX3_bestBase_30 : decode cX3_bestBase 30 = .ok (.aload_n 0, 1) := by decide +kernel
theorem dX3_bestBase_31 : decode cX3_bestBase 31 = .ok (.getfield 23, 3) := by decide +kernel
theorem dX3_bestBase_34 : decode cX3_bestBase 34 = .ok (.iconst 0, 1) := by decide +kernel
theorem dX3_bestBase_35 : decode cX3_bestBase 35 = .ok (.iload_n 3, 1) := by decide +kernel
theorem dX3_bestBase_36 : decode cX3_bestBase 36 = .ok (.invokevirtual 218, 3) := by decide +kernel
theorem dX3_bestBase_39 : decode cX3_bestBase 39 = .ok (.pop, 1) := by decide +kernel
theorem dX3_bestBase_40 : decode cX3_bestBase 40 = .ok (.aload_n 0, 1) := by decide +kernel
theorem dX3_bestBase_41 : decode cX3_bestBase 41 = .ok (.getfield 29, 3) := by decide +kernel
theorem dX3_bestBase_44 : decode cX3_bestBase 44 = .ok (.aload_n 0, 1) := by decide +kernel
theorem dX3_bestBase_45 : decode cX3_bestBase 45 = .ok (.getfield 23, 3) := by decide +kernel
theorem dX3_bestBase_48 : decode cX3_bestBase 48 = .ok (.invokevirtual 75, 3) := by decide +kernel
theorem dX3_bestBase_51 : decode cX3_bestBase 51 = .ok (.iload_n 1, 1) := by decide +kernel
theorem dX3_bestBase_52 : decode cX3_bestBase 52 = .ok (.iconst (-1), 1) := by decide +kernel
theorem dX3_bestBase_53 : decode cX3_bestBase 53 = .ok (.if_icmp .eq 14, 3) := by decide +kernel
theorem dX3_bestBase_56 : decode cX3_bestBase 56 = .ok (.aload_n 0, 1) := by decide +kernel
theorem dX3_bestBase_57 : decode cX3_bestBase 57 = .ok (.getfield 29, 3) := by decide +kernel
theorem dX3_bestBase_60 : decode cX3_bestBase 60 = .ok (.getfield 91, 3) := by decide +kernel
theorem dX3_bestBase_63 : decode cX3_bestBase 63 = .ok (.iload_n 2, 1) := by decide +kernel
theorem dX3_bestBase_64 : decode cX3_bestBase 64 = .ok (.if_icmp .ge 13, 3) := by decide +kernel
theorem dX3_bestBase_67 : decode cX3_bestBase 67 = .ok (.aload_n 0, 1) := by decide +kernel
theorem dX3_bestBase_68 : decode cX3_bestBase 68 = .ok (.getfield 29, 3) := by decide +kernel
theorem dX3_bestBase_71 : decode cX3_bestBase 71 = .ok (.getfield 91, 3) := by decide +kernel
theorem dX3_bestBase_74 : decode cX3_bestBase 74 = .ok (.istore_n 2, 1) := by decide +kernel
theorem dX3_bestBase_75 : decode cX3_bestBase 75 = .ok (.iload_n 3, 1) := by decide +kernel
theorem dX3_bestBase_76 : decode cX3_bestBase 76 = .ok (.istore_n 1, 1) := by decide +kernel
theorem dX3_bestBase_77 : decode cX3_bestBase 77 = .ok (.iinc 3 1, 3) := by decide +kernel
theorem dX3_bestBase_80 : decode cX3_bestBase 80 = .ok (.goto (-59), 3) := by decide +kernel
theorem dX3_bestBase_83 : decode cX3_bestBase 83 = .ok (.iload_n 1, 1) := by decide +kernel
theorem dX3_bestBase_84 : decode cX3_bestBase 84 = .ok (.ireturn, 1) := by decide +kernel
theorem dX3_sureness_0 : decode cX3_sureness 0 = .ok (.aload_n 0, 1) := by decide +kernel
theorem dX3_sureness_1 : decode cX3_sureness 1 = .ok (.iload_n 1, 1) := by decide +kernel
theorem dX3_sureness_2 : decode cX3_sureness 2 = .ok (.invokevirtual 98, 3) := by decide +kernel
theorem dX3_sureness_5 : decode cX3_sureness 5 = .ok (.aload_n 0, 1) := by decide +kernel
theorem dX3_sureness_6 : decode cX3_sureness 6 = .ok (.getfield 29, 3) := by decide +kernel
theorem dX3_sureness_9 : decode cX3_sureness 9 = .ok (.aload_n 0, 1) := by decide +kernel
theorem dX3_sureness_10 : decode cX3_sureness 10 = .ok (.getfield 19, 3) := by decide +kernel
theorem dX3_sureness_13 : decode cX3_sureness 13 = .ok (.invokevirtual 75, 3) := by decide +kernel
theorem dX3_sureness_16 : decode cX3_sureness 16 = .ok (.aload_n 0, 1) := by decide +kernel
theorem dX3_sureness_17 : decode cX3_sureness 17 = .ok (.getfield 29, 3) := by decide +kernel
theorem dX3_sureness_20 : decode cX3_sureness 20 = .ok (.getfield 115, 3) := by decide +kernel
theorem dX3_sureness_23 : decode cX3_sureness 23 = .ok (.iload_n 1, 1) := by decide +kernel
theorem dX3_sureness_24 : decode cX3_sureness 24 = .ok (.invokestatic 108, 3) := by decide +kernel
theorem dX3_sureness_27 : decode cX3_sureness 27 = .ok (.istore_n 2, 1) := by decide +kernel
theorem dX3_sureness_28 : decode cX3_sureness 28 = .ok (.aload_n 0, 1) := by decide +kernel
theorem dX3_sureness_29 : decode cX3_sureness 29 = .ok (.getfield 29, 3) := by decide +kernel
theorem dX3_sureness_32 : decode cX3_sureness 32 = .ok (.aload_n 0, 1) := by decide +kernel
theorem dX3_sureness_33 : decode cX3_sureness 33 = .ok (.getfield 19, 3) := by decide +kernel
theorem dX3_sureness_36 : decode cX3_sureness 36 = .ok (.iload_n 2, 1) := by decide +kernel
theorem dX3_sureness_37 : decode cX3_sureness 37 = .ok (.iload_n 1, 1) := by decide +kernel
theorem dX3_sureness_38 : decode cX3_sureness 38 = .ok (.invokevirtual 245, 3) := by decide +kernel
theorem dX3_sureness_41 : decode cX3_sureness 41 = .ok (.aload_n 0, 1) := by decide +kernel
theorem dX3_sureness_42 : decode cX3_sureness 42 = .ok (.getfield 29, 3) := by decide +kernel
theorem dX3_sureness_45 : decode cX3_sureness 45 = .ok (.getfield 159, 3) := by decide +kernel
theorem dX3_sureness_48 : decode cX3_sureness 48 = .ok (.iload_n 2, 1) := by decide +kernel
theorem dX3_sureness_49 : decode cX3_sureness 49 = .ok (.invokestatic 108, 3) := by decide +kernel
theorem dX3_sureness_52 : decode cX3_sureness 52 = .ok (.isub, 1) := by decide +kernel
theorem dX3_sureness_53 : decode cX3_sureness 53 = .ok (.ireturn, 1) := by decide +kernel
theorem dX3_plans_0 : decode cX3_plans 0 = .ok (.aload_n 0, 1) := by decide +kernel
theorem dX3_plans_1 : decode cX3_plans 1 = .ok (.getfield 29, 3) := by decide +kernel
theorem dX3_plans_4 : decode cX3_plans 4 = .ok (.aload_n 0, 1) := by decide +kernel
theorem dX3_plans_5 : decode cX3_plans 5 = .ok (.getfield 19, 3) := by decide +kernel
theorem dX3_plans_8 : decode cX3_plans 8 = .ok (.invokevirtual 75, 3) := by decide +kernel
theorem dX3_plans_11 : decode cX3_plans 11 = .ok (.aload_n 0, 1) := by decide +kernel
theorem dX3_plans_12 : decode cX3_plans 12 = .ok (.iload_n 1, 1) := by decide +kernel
theorem dX3_plans_13 : decode cX3_plans 13 = .ok (.invokevirtual 142, 3) := by decide +kernel
theorem dX3_plans_16 : decode cX3_plans 16 = .ok (.aload_n 0, 1) := by decide +kernel
theorem dX3_plans_17 : decode cX3_plans 17 = .ok (.getfield 29, 3) := by decide +kernel
theorem dX3_plans_20 : decode cX3_plans 20 = .ok (.iload_n 1, 1) := by decide +kernel
theorem dX3_plans_21 : decode cX3_plans 21 = .ok (.invokevirtual 150, 3) := by decide +kernel
theorem dX3_plans_24 : decode cX3_plans 24 = .ok (.istore_n 2, 1) := by decide +kernel
theorem dX3_plans_25 : decode cX3_plans 25 = .ok (.iconst 1, 1) := by decide +kernel
theorem dX3_plans_26 : decode cX3_plans 26 = .ok (.istore_n 3, 1) := by decide +kernel
theorem dX3_plans_27 : decode cX3_plans 27 = .ok (.iconst 1, 1) := by decide +kernel
theorem dX3_plans_28 : decode cX3_plans 28 = .ok (.istore 4, 2) := by decide +kernel
theorem dX3_plans_30 : decode cX3_plans 30 = .ok (.iconst 2, 1) := by decide +kernel
theorem dX3_plans_31 : decode cX3_plans 31 = .ok (.istore 5, 2) := by decide +kernel
theorem dX3_plans_33 : decode cX3_plans 33 = .ok (.iload 5, 2) := by decide +kernel
theorem dX3_plans_35 : decode cX3_plans 35 = .ok (.iload_n 2, 1) := by decide +kernel
theorem dX3_plans_36 : decode cX3_plans 36 = .ok (.if_icmp .gt 22, 3) := by decide +kernel
theorem dX3_plans_39 : decode cX3_plans 39 = .ok (.iload_n 3, 1) := by decide +kernel
theorem dX3_plans_40 : decode cX3_plans 40 = .ok (.iload 4, 2) := by decide +kernel
theorem dX3_plans_42 : decode cX3_plans 42 = .ok (.iadd, 1) := by decide +kernel
theorem dX3_plans_43 : decode cX3_plans 43 = .ok (.istore 6, 2) := by decide +kernel
theorem dX3_plans_45 : decode cX3_plans 45 = .ok (.iload 4, 2) := by decide +kernel
theorem dX3_plans_47 : decode cX3_plans 47 = .ok (.istore_n 3, 1) := by decide +kernel
theorem dX3_plans_48 : decode cX3_plans 48 = .ok (.iload 6, 2) := by decide +kernel
theorem dX3_plans_50 : decode cX3_plans 50 = .ok (.istore 4, 2) := by decide +kernel
theorem dX3_plans_52 : decode cX3_plans 52 = .ok (.iinc 5 1, 3) := by decide +kernel
theorem dX3_plans_55 : decode cX3_plans 55 = .ok (.goto (-22), 3) := by decide +kernel
theorem dX3_plans_58 : decode cX3_plans 58 = .ok (.iload 4, 2) := by decide +kernel
theorem dX3_plans_60 : decode cX3_plans 60 = .ok (.ldc 249, 2) := by decide +kernel
theorem dX3_plans_62 : decode cX3_plans 62 = .ok (.invokestatic 250, 3) := by decide +kernel
theorem dX3_plans_65 : decode cX3_plans 65 = .ok (.ireturn, 1) := by decide +kernel
theorem dX3_heavy_0 : decode cX3_heavy 0 = .ok (.iload_n 1, 1) := by decide +kernel
theorem dX3_heavy_1 : decode cX3_heavy 1 = .ok (.ifCond .ge 14, 3) := by decide +kernel
theorem dX3_heavy_4 : decode cX3_heavy 4 = .ok (.new 44, 3) := by decide +kernel
theorem dX3_heavy_7 : decode cX3_heavy 7 = .ok (.dup, 1) := by decide +kernel
theorem dX3_heavy_8 : decode cX3_heavy 8 = .ok (.ldc_w 256, 3) := by decide +kernel
theorem dX3_heavy_11 : decode cX3_heavy 11 = .ok (.invokespecial 48, 3) := by decide +kernel
theorem dX3_heavy_14 : decode cX3_heavy 14 = .ok (.athrow, 1) := by decide +kernel
theorem dX3_heavy_15 : decode cX3_heavy 15 = .ok (.aload_n 0, 1) := by decide +kernel
theorem dX3_heavy_16 : decode cX3_heavy 16 = .ok (.getfield 29, 3) := by decide +kernel
theorem dX3_heavy_19 : decode cX3_heavy 19 = .ok (.aload_n 0, 1) := by decide +kernel
theorem dX3_heavy_20 : decode cX3_heavy 20 = .ok (.getfield 19, 3) := by decide +kernel
theorem dX3_heavy_23 : decode cX3_heavy 23 = .ok (.invokevirtual 75, 3) := by decide +kernel
theorem dX3_heavy_26 : decode cX3_heavy 26 = .ok (.iconst 0, 1) := by decide +kernel
theorem dX3_heavy_27 : decode cX3_heavy 27 = .ok (.istore_n 2, 1) := by decide +kernel
theorem dX3_heavy_28 : decode cX3_heavy 28 = .ok (.iconst 0, 1) := by decide +kernel
theorem dX3_heavy_29 : decode cX3_heavy 29 = .ok (.istore_n 3, 1) := by decide +kernel
theorem dX3_heavy_30 : decode cX3_heavy 30 = .ok (.iload_n 3, 1) := by decide +kernel
theorem dX3_heavy_31 : decode cX3_heavy 31 = .ok (.aload_n 0, 1) := by decide +kernel
theorem dX3_heavy_32 : decode cX3_heavy 32 = .ok (.getfield 29, 3) := by decide +kernel
theorem dX3_heavy_35 : decode cX3_heavy 35 = .ok (.getfield 85, 3) := by decide +kernel
theorem dX3_heavy_38 : decode cX3_heavy 38 = .ok (.if_icmp .ge 42, 3) := by decide +kernel
theorem dX3_heavy_41 : decode cX3_heavy 41 = .ok (.aload_n 0, 1) := by decide +kernel
theorem dX3_heavy_42 : decode cX3_heavy 42 = .ok (.getfield 29, 3) := by decide +kernel
theorem dX3_heavy_45 : decode cX3_heavy 45 = .ok (.getfield 128, 3) := by decide +kernel
theorem dX3_heavy_48 : decode cX3_heavy 48 = .ok (.iload_n 3, 1) := by decide +kernel
theorem dX3_heavy_49 : decode cX3_heavy 49 = .ok (.invokestatic 108, 3) := by decide +kernel
theorem dX3_heavy_52 : decode cX3_heavy 52 = .ok (.istore 4, 2) := by decide +kernel
theorem dX3_heavy_54 : decode cX3_heavy 54 = .ok (.aload_n 0, 1) := by decide +kernel
theorem dX3_heavy_55 : decode cX3_heavy 55 = .ok (.getfield 19, 3) := by decide +kernel
theorem dX3_heavy_58 : decode cX3_heavy 58 = .ok (.iload 4, 2) := by decide +kernel
theorem dX3_heavy_60 : decode cX3_heavy 60 = .ok (.invokevirtual 131, 3) := by decide +kernel
theorem dX3_heavy_63 : decode cX3_heavy 63 = .ok (.iload_n 1, 1) := by decide +kernel
theorem dX3_heavy_64 : decode cX3_heavy 64 = .ok (.if_icmp .lt 10, 3) := by decide +kernel
theorem dX3_heavy_67 : decode cX3_heavy 67 = .ok (.iload_n 2, 1) := by decide +kernel
theorem dX3_heavy_68 : decode cX3_heavy 68 = .ok (.iconst 3, 1) := by decide +kernel
theorem dX3_heavy_69 : decode cX3_heavy 69 = .ok (.iload 4, 2) := by decide +kernel
theorem dX3_heavy_71 : decode cX3_heavy 71 = .ok (.ishl, 1) := by decide +kernel
theorem dX3_heavy_72 : decode cX3_heavy 72 = .ok (.ior, 1) := by decide +kernel
theorem dX3_heavy_73 : decode cX3_heavy 73 = .ok (.istore_n 2, 1) := by decide +kernel
theorem dX3_heavy_74 : decode cX3_heavy 74 = .ok (.iinc 3 1, 3) := by decide +kernel
theorem dX3_heavy_77 : decode cX3_heavy 77 = .ok (.goto (-47), 3) := by decide +kernel
theorem dX3_heavy_80 : decode cX3_heavy 80 = .ok (.iload_n 2, 1) := by decide +kernel
theorem dX3_heavy_81 : decode cX3_heavy 81 = .ok (.ireturn, 1) := by decide +kernel
theorem dX3_runScript_0 : decode cX3_runScript 0 = .ok (.iload_n 1, 1) := by decide +kernel
theorem dX3_runScript_1 : decode cX3_runScript 1 = .ok (.iconst 1, 1) := by decide +kernel
theorem dX3_runScript_2 : decode cX3_runScript 2 = .ok (.if_icmp .lt 8, 3) := by decide +kernel
theorem dX3_runScript_5 : decode cX3_runScript 5 = .ok (.iload_n 1, 1) := by decide +kernel
theorem dX3_runScript_6 : decode cX3_runScript 6 = .ok (.iconst 3, 1) := by decide +kernel
theorem dX3_runScript_7 : decode cX3_runScript 7 = .ok (.if_icmp .le 14, 3) := by decide +kernel
theorem dX3_runScript_10 : decode cX3_runScript 10 = .ok (.new 44, 3) := by decide +kernel
theorem dX3_runScript_13 : decode cX3_runScript 13 = .ok (.dup, 1) := by decide +kernel
theorem dX3_runScript_14 : decode cX3_runScript 14 = .ok (.ldc_w 258, 3) := by decide +kernel
theorem dX3_runScript_17 : decode cX3_runScript 17 = .ok (.invokespecial 48, 3) := by decide +kernel
theorem dX3_runScript_20 : decode cX3_runScript 20 = .ok (.athrow, 1) := by decide +kernel
theorem dX3_runScript_21 : decode cX3_runScript 21 = .ok (.lload_n 2, 1) := by decide +kernel
theorem dX3_runScript_22 : decode cX3_runScript 22 = .ok (.lconst 0, 1) := by decide +kernel
theorem dX3_runScript_23 : decode cX3_runScript 23 = .ok (.lcmp, 1) := by decide +kernel
theorem dX3_runScript_24 : decode cX3_runScript 24 = .ok (.ifCond .lt 13, 3) := by decide +kernel
theorem dX3_runScript_27 : decode cX3_runScript 27 = .ok (.lload_n 2, 1) := by decide +kernel
theorem dX3_runScript_28 : decode cX3_runScript 28 = .ok (.iload_n 1, 1) := by decide +kernel
theorem dX3_runScript_29 : decode cX3_runScript 29 = .ok (.invokestatic 260, 3) := by decide +kernel
theorem dX3_runScript_32 : decode cX3_runScript 32 = .ok (.lconst 0, 1) := by decide +kernel
theorem dX3_runScript_33 : decode cX3_runScript 33 = .ok (.lcmp, 1) := by decide +kernel
theorem dX3_runScript_34 : decode cX3_runScript 34 = .ok (.ifCond .eq 14, 3) := by decide +kernel
theorem dX3_runScript_37 : decode cX3_runScript 37 = .ok (.new 44, 3) := by decide +kernel
theorem dX3_runScript_40 : decode cX3_runScript 40 = .ok (.dup, 1) := by decide +kernel
theorem dX3_runScript_41 : decode cX3_runScript 41 = .ok (.ldc_w 264, 3) := by decide +kernel
theorem dX3_runScript_44 : decode cX3_runScript 44 = .ok (.invokespecial 48, 3) := by decide +kernel
theorem dX3_runScript_47 : decode cX3_runScript 47 = .ok (.athrow, 1) := by decide +kernel
theorem dX3_runScript_48 : decode cX3_runScript 48 = .ok (.aload_n 0, 1) := by decide +kernel
theorem dX3_runScript_49 : decode cX3_runScript 49 = .ok (.getfield 19, 3) := by decide +kernel
theorem dX3_runScript_52 : decode cX3_runScript 52 = .ok (.aload_n 0, 1) := by decide +kernel
theorem dX3_runScript_53 : decode cX3_runScript 53 = .ok (.getfield 23, 3) := by decide +kernel
theorem dX3_runScript_56 : decode cX3_runScript 56 = .ok (.invokestatic 235, 3) := by decide +kernel
theorem dX3_runScript_59 : decode cX3_runScript 59 = .ok (.iconst 0, 1) := by decide +kernel
theorem dX3_runScript_60 : decode cX3_runScript 60 = .ok (.istore 4, 2) := by decide +kernel
theorem dX3_runScript_62 : decode cX3_runScript 62 = .ok (.iload 4, 2) := by decide +kernel
theorem dX3_runScript_64 : decode cX3_runScript 64 = .ok (.iload_n 1, 1) := by decide +kernel
theorem dX3_runScript_65 : decode cX3_runScript 65 = .ok (.if_icmp .ge 34, 3) := by decide +kernel
theorem dX3_runScript_68 : decode cX3_runScript 68 = .ok (.aload_n 0, 1) := by decide +kernel
theorem dX3_runScript_69 : decode cX3_runScript 69 = .ok (.lload_n 2, 1) := by decide +kernel
theorem dX3_runScript_70 : decode cX3_runScript 70 = .ok (.iload_n 1, 1) := by decide +kernel
theorem dX3_runScript_71 : decode cX3_runScript 71 = .ok (.iconst 1, 1) := by decide +kernel
theorem dX3_runScript_72 : decode cX3_runScript 72 = .ok (.isub, 1) := by decide +kernel
theorem dX3_runScript_73 : decode cX3_runScript 73 = .ok (.iload 4, 2) := by decide +kernel
theorem dX3_runScript_75 : decode cX3_runScript 75 = .ok (.isub, 1) := by decide +kernel
theorem dX3_runScript_76 : decode cX3_runScript 76 = .ok (.invokestatic 260, 3) := by decide +kernel
theorem dX3_runScript_79 : decode cX3_runScript 79 = .ok (.ldc2_w 266, 3) := by decide +kernel
theorem dX3_runScript_82 : decode cX3_runScript 82 = .ok (.lrem, 1) := by decide +kernel
theorem dX3_runScript_83 : decode cX3_runScript 83 = .ok (.l2i, 1) := by decide +kernel
theorem dX3_runScript_84 : decode cX3_runScript 84 = .ok (.invokevirtual 268, 3) := by decide +kernel
theorem dX3_runScript_87 : decode cX3_runScript 87 = .ok (.ifCond .ne 6, 3) := by decide +kernel
theorem dX3_runScript_90 : decode cX3_runScript 90 = .ok (.iload 4, 2) := by decide +kernel
theorem dX3_runScript_92 : decode cX3_runScript 92 = .ok (.ireturn, 1) := by decide +kernel
theorem dX3_runScript_93 : decode cX3_runScript 93 = .ok (.iinc 4 1, 3) := by decide +kernel
theorem dX3_runScript_96 : decode cX3_runScript 96 = .ok (.goto (-34), 3) := by decide +kernel
theorem dX3_runScript_99 : decode cX3_runScript 99 = .ok (.iconst (-1), 1) := by decide +kernel
theorem dX3_runScript_100 : decode cX3_runScript 100 = .ok (.ireturn, 1) := by decide +kernel
theorem dX3_simulate_0 : decode cX3_simulate 0 = .ok (.iload_n 3, 1) := by decide +kernel
theorem dX3_simulate_1 : decode cX3_simulate 1 = .ok (.iconst 1, 1) := by decide +kernel
theorem dX3_simulate_2 : decode cX3_simulate 2 = .ok (.if_icmp .lt 9, 3) := by decide +kernel
theorem dX3_simulate_5 : decode cX3_simulate 5 = .ok (.iload_n 3, 1) := by decide +kernel
theorem dX3_simulate_6 : decode cX3_simulate 6 = .ok (.bipush 60, 2) := by decide +kernel
theorem dX3_simulate_8 : decode cX3_simulate 8 = .ok (.if_icmp .le 14, 3) := by decide +kernel
theorem dX3_simulate_11 : decode cX3_simulate 11 = .ok (.new 44, 3) := by decide +kernel
theorem dX3_simulate_14 : decode cX3_simulate 14 = .ok (.dup, 1) := by decide +kernel
theorem dX3_simulate_15 : decode cX3_simulate 15 = .ok (.ldc_w 271, 3) := by decide +kernel
theorem dX3_simulate_18 : decode cX3_simulate 18 = .ok (.invokespecial 48, 3) := by decide +kernel
theorem dX3_simulate_21 : decode cX3_simulate 21 = .ok (.athrow, 1) := by decide +kernel
theorem dX3_simulate_22 : decode cX3_simulate 22 = .ok (.aload_n 0, 1) := by decide +kernel
theorem dX3_simulate_23 : decode cX3_simulate 23 = .ok (.getfield 19, 3) := by decide +kernel
theorem dX3_simulate_26 : decode cX3_simulate 26 = .ok (.aload_n 0, 1) := by decide +kernel
theorem dX3_simulate_27 : decode cX3_simulate 27 = .ok (.getfield 23, 3) := by decide +kernel
theorem dX3_simulate_30 : decode cX3_simulate 30 = .ok (.invokestatic 235, 3) := by decide +kernel
theorem dX3_simulate_33 : decode cX3_simulate 33 = .ok (.lload_n 1, 1) := by decide +kernel
theorem dX3_simulate_34 : decode cX3_simulate 34 = .ok (.lstore 4, 2) := by decide +kernel
theorem dX3_simulate_36 : decode cX3_simulate 36 = .ok (.bipush 40, 2) := by decide +kernel
theorem dX3_simulate_38 : decode cX3_simulate 38 = .ok (.istore 6, 2) := by decide +kernel
theorem dX3_simulate_40 : decode cX3_simulate 40 = .ok (.iconst 0, 1) := by decide +kernel
theorem dX3_simulate_41 : decode cX3_simulate 41 = .ok (.istore 7, 2) := by decide +kernel
theorem dX3_simulate_43 : decode cX3_simulate 43 = .ok (.iload 7, 2) := by decide +kernel
theorem dX3_simulate_45 : decode cX3_simulate 45 = .ok (.iload_n 3, 1) := by decide +kernel
theorem dX3_simulate_46 : decode cX3_simulate 46 = .ok (.if_icmp .ge 87, 3) := by decide +kernel
theorem dX3_simulate_49 : decode cX3_simulate 49 = .ok (.lload 4, 2) := by decide +kernel
theorem dX3_simulate_51 : decode cX3_simulate 51 = .ok (.ldc2_w 273, 3) := by decide +kernel
theorem dX3_simulate_54 : decode cX3_simulate 54 = .ok (.lmul, 1) := by decide +kernel
theorem dX3_simulate_55 : decode cX3_simulate 55 = .ok (.ldc2_w 275, 3) := by decide +kernel
theorem dX3_simulate_58 : decode cX3_simulate 58 = .ok (.ladd, 1) := by decide +kernel
theorem dX3_simulate_59 : decode cX3_simulate 59 = .ok (.lstore 4, 2) := by decide +kernel
theorem dX3_simulate_61 : decode cX3_simulate 61 = .ok (.lload 4, 2) := by decide +kernel
theorem dX3_simulate_63 : decode cX3_simulate 63 = .ok (.bipush 33, 2) := by decide +kernel
theorem dX3_simulate_65 : decode cX3_simulate 65 = .ok (.lushr, 1) := by decide +kernel
theorem dX3_simulate_66 : decode cX3_simulate 66 = .ok (.l2i, 1) := by decide +kernel
theorem dX3_simulate_67 : decode cX3_simulate 67 = .ok (.istore 8, 2) := by decide +kernel
theorem dX3_simulate_69 : decode cX3_simulate 69 = .ok (.iload 8, 2) := by decide +kernel
theorem dX3_simulate_71 : decode cX3_simulate 71 = .ok (.bipush 8, 2) := by decide +kernel
theorem dX3_simulate_73 : decode cX3_simulate 73 = .ok (.idiv, 1) := by decide +kernel
theorem dX3_simulate_74 : decode cX3_simulate 74 = .ok (.iconst 2, 1) := by decide +kernel
theorem dX3_simulate_75 : decode cX3_simulate 75 = .ok (.irem, 1) := by decide +kernel
theorem dX3_simulate_76 : decode cX3_simulate 76 = .ok (.ifCond .ne 15, 3) := by decide +kernel
theorem dX3_simulate_79 : decode cX3_simulate 79 = .ok (.iconst 1, 1) := by decide +kernel
theorem dX3_simulate_80 : decode cX3_simulate 80 = .ok (.iload 8, 2) := by decide +kernel
theorem dX3_simulate_82 : decode cX3_simulate 82 = .ok (.bipush 16, 2) := by decide +kernel
theorem dX3_simulate_84 : decode cX3_simulate 84 = .ok (.idiv, 1) := by decide +kernel
theorem dX3_simulate_85 : decode cX3_simulate 85 = .ok (.bipush 99, 2) := by decide +kernel
theorem dX3_simulate_87 : decode cX3_simulate 87 = .ok (.irem, 1) := by decide +kernel
theorem dX3_simulate_88 : decode cX3_simulate 88 = .ok (.iadd, 1) := by decide +kernel
theorem dX3_simulate_89 : decode cX3_simulate 89 = .ok (.istore 6, 2) := by decide +kernel
theorem dX3_simulate_91 : decode cX3_simulate 91 = .ok (.aload_n 0, 1) := by decide +kernel
theorem dX3_simulate_92 : decode cX3_simulate 92 = .ok (.getfield 23, 3) := by decide +kernel
theorem dX3_simulate_95 : decode cX3_simulate 95 = .ok (.getfield 79, 3) := by decide +kernel
theorem dX3_simulate_98 : decode cX3_simulate 98 = .ok (.bipush 30, 2) := by decide +kernel
theorem dX3_simulate_100 : decode cX3_simulate 100 = .ok (.if_icmp .lt 11, 3) := by decide +kernel
theorem dX3_simulate_103 : decode cX3_simulate 103 = .ok (.aload_n 0, 1) := by decide +kernel
theorem dX3_simulate_104 : decode cX3_simulate 104 = .ok (.getfield 23, 3) := by decide +kernel
theorem dX3_simulate_107 : decode cX3_simulate 107 = .ok (.invokevirtual 223, 3) := by decide +kernel
theorem dX3_simulate_110 : decode cX3_simulate 110 = .ok (.pop, 1) := by decide +kernel
theorem dX3_simulate_111 : decode cX3_simulate 111 = .ok (.aload_n 0, 1) := by decide +kernel
theorem dX3_simulate_112 : decode cX3_simulate 112 = .ok (.getfield 23, 3) := by decide +kernel
theorem dX3_simulate_115 : decode cX3_simulate 115 = .ok (.aload_n 0, 1) := by decide +kernel
theorem dX3_simulate_116 : decode cX3_simulate 116 = .ok (.iload 8, 2) := by decide +kernel
theorem dX3_simulate_118 : decode cX3_simulate 118 = .ok (.invokevirtual 277, 3) := by decide +kernel
theorem dX3_simulate_121 : decode cX3_simulate 121 = .ok (.iload 6, 2) := by decide +kernel
theorem dX3_simulate_123 : decode cX3_simulate 123 = .ok (.invokevirtual 192, 3) := by decide +kernel
theorem dX3_simulate_126 : decode cX3_simulate 126 = .ok (.pop, 1) := by decide +kernel
theorem dX3_simulate_127 : decode cX3_simulate 127 = .ok (.iinc 7 1, 3) := by decide +kernel
theorem dX3_simulate_130 : decode cX3_simulate 130 = .ok (.goto (-87), 3) := by decide +kernel
theorem dX3_simulate_133 : decode cX3_simulate 133 = .ok (.aload_n 0, 1) := by decide +kernel
theorem dX3_simulate_134 : decode cX3_simulate 134 = .ok (.getfield 29, 3) := by decide +kernel
theorem dX3_simulate_137 : decode cX3_simulate 137 = .ok (.aload_n 0, 1) := by decide +kernel
theorem dX3_simulate_138 : decode cX3_simulate 138 = .ok (.getfield 23, 3) := by decide +kernel
theorem dX3_simulate_141 : decode cX3_simulate 141 = .ok (.invokevirtual 75, 3) := by decide +kernel
theorem dX3_simulate_144 : decode cX3_simulate 144 = .ok (.sipush 1000, 3) := by decide +kernel
theorem dX3_simulate_147 : decode cX3_simulate 147 = .ok (.aload_n 0, 1) := by decide +kernel
theorem dX3_simulate_148 : decode cX3_simulate 148 = .ok (.getfield 29, 3) := by decide +kernel
theorem dX3_simulate_151 : decode cX3_simulate 151 = .ok (.getfield 85, 3) := by decide +kernel
theorem dX3_simulate_154 : decode cX3_simulate 154 = .ok (.imul, 1) := by decide +kernel
theorem dX3_simulate_155 : decode cX3_simulate 155 = .ok (.aload_n 0, 1) := by decide +kernel
theorem dX3_simulate_156 : decode cX3_simulate 156 = .ok (.getfield 29, 3) := by decide +kernel
theorem dX3_simulate_159 : decode cX3_simulate 159 = .ok (.getfield 88, 3) := by decide +kernel
theorem dX3_simulate_162 : decode cX3_simulate 162 = .ok (.sipush 999, 3) := by decide +kernel
theorem dX3_simulate_165 : decode cX3_simulate 165 = .ok (.invokestatic 250, 3) := by decide +kernel
theorem dX3_simulate_168 : decode cX3_simulate 168 = .ok (.iadd, 1) := by decide +kernel
theorem dX3_simulate_169 : decode cX3_simulate 169 = .ok (.ireturn, 1) := by decide +kernel
theorem dX3_save_0 : decode cX3_save 0 = .ok (.iload_n 1, 1) := by decide +kernel
theorem dX3_save_1 : decode cX3_save 1 = .ok (.invokestatic 280, 3) := by decide +kernel
theorem dX3_save_4 : decode cX3_save 4 = .ok (.aload_n 0, 1) := by decide +kernel
theorem dX3_save_5 : decode cX3_save 5 = .ok (.getfield 19, 3) := by decide +kernel
theorem dX3_save_8 : decode cX3_save 8 = .ok (.aload_n 0, 1) := by decide +kernel
theorem dX3_save_9 : decode cX3_save 9 = .ok (.getfield 37, 3) := by decide +kernel
theorem dX3_save_12 : decode cX3_save 12 = .ok (.iload_n 1, 1) := by decide +kernel
theorem dX3_save_13 : decode cX3_save 13 = .ok (.aaload, 1) := by decide +kernel
theorem dX3_save_14 : decode cX3_save 14 = .ok (.invokestatic 235, 3) := by decide +kernel
theorem dX3_save_17 : decode cX3_save 17 = .ok (.aload_n 0, 1) := by decide +kernel
theorem dX3_save_18 : decode cX3_save 18 = .ok (.getfield 40, 3) := by decide +kernel
theorem dX3_save_21 : decode cX3_save 21 = .ok (.iload_n 1, 1) := by decide +kernel
theorem dX3_save_22 : decode cX3_save 22 = .ok (.iconst 1, 1) := by decide +kernel
theorem dX3_save_23 : decode cX3_save 23 = .ok (.bastore, 1) := by decide +kernel
theorem dX3_save_24 : decode cX3_save 24 = .ok (.aload_n 0, 1) := by decide +kernel
theorem dX3_save_25 : decode cX3_save 25 = .ok (.getfield 19, 3) := by decide +kernel
theorem dX3_save_28 : decode cX3_save 28 = .ok (.getfield 79, 3) := by decide +kernel
theorem dX3_save_31 : decode cX3_save 31 = .ok (.ireturn, 1) := by decide +kernel
theorem dX3_restore_0 : decode cX3_restore 0 = .ok (.iload_n 1, 1) := by decide +kernel
theorem dX3_restore_1 : decode cX3_restore 1 = .ok (.invokestatic 280, 3) := by decide +kernel
theorem dX3_restore_4 : decode cX3_restore 4 = .ok (.aload_n 0, 1) := by decide +kernel
theorem dX3_restore_5 : decode cX3_restore 5 = .ok (.getfield 40, 3) := by decide +kernel
theorem dX3_restore_8 : decode cX3_restore 8 = .ok (.iload_n 1, 1) := by decide +kernel
theorem dX3_restore_9 : decode cX3_restore 9 = .ok (.baload, 1) := by decide +kernel
theorem dX3_restore_10 : decode cX3_restore 10 = .ok (.ifCond .ne 14, 3) := by decide +kernel
theorem dX3_restore_13 : decode cX3_restore 13 = .ok (.new 55, 3) := by decide +kernel
theorem dX3_restore_16 : decode cX3_restore 16 = .ok (.dup, 1) := by decide +kernel
theorem dX3_restore_17 : decode cX3_restore 17 = .ok (.ldc_w 283, 3) := by decide +kernel
theorem dX3_restore_20 : decode cX3_restore 20 = .ok (.invokespecial 59, 3) := by decide +kernel
theorem dX3_restore_23 : decode cX3_restore 23 = .ok (.athrow, 1) := by decide +kernel
theorem dX3_restore_24 : decode cX3_restore 24 = .ok (.aload_n 0, 1) := by decide +kernel
theorem dX3_restore_25 : decode cX3_restore 25 = .ok (.getfield 37, 3) := by decide +kernel
theorem dX3_restore_28 : decode cX3_restore 28 = .ok (.iload_n 1, 1) := by decide +kernel
theorem dX3_restore_29 : decode cX3_restore 29 = .ok (.aaload, 1) := by decide +kernel
theorem dX3_restore_30 : decode cX3_restore 30 = .ok (.aload_n 0, 1) := by decide +kernel
theorem dX3_restore_31 : decode cX3_restore 31 = .ok (.getfield 19, 3) := by decide +kernel
theorem dX3_restore_34 : decode cX3_restore 34 = .ok (.invokestatic 235, 3) := by decide +kernel
theorem dX3_restore_37 : decode cX3_restore 37 = .ok (.aload_n 0, 1) := by decide +kernel
theorem dX3_restore_38 : decode cX3_restore 38 = .ok (.iconst 0, 1) := by decide +kernel
theorem dX3_restore_39 : decode cX3_restore 39 = .ok (.putfield 227, 3) := by decide +kernel
theorem dX3_restore_42 : decode cX3_restore 42 = .ok (.aload_n 0, 1) := by decide +kernel
theorem dX3_restore_43 : decode cX3_restore 43 = .ok (.getfield 19, 3) := by decide +kernel
theorem dX3_restore_46 : decode cX3_restore 46 = .ok (.getfield 79, 3) := by decide +kernel
theorem dX3_restore_49 : decode cX3_restore 49 = .ok (.ireturn, 1) := by decide +kernel
theorem dX3_remember_0 : decode cX3_remember 0 = .ok (.aload_n 0, 1) := by decide +kernel
theorem dX3_remember_1 : decode cX3_remember 1 = .ok (.getfield 19, 3) := by decide +kernel
theorem dX3_remember_4 : decode cX3_remember 4 = .ok (.aload_n 0, 1) := by decide +kernel
theorem dX3_remember_5 : decode cX3_remember 5 = .ok (.getfield 33, 3) := by decide +kernel
theorem dX3_remember_8 : decode cX3_remember 8 = .ok (.aload_n 0, 1) := by decide +kernel
theorem dX3_remember_9 : decode cX3_remember 9 = .ok (.getfield 232, 3) := by decide +kernel
theorem dX3_remember_12 : decode cX3_remember 12 = .ok (.aaload, 1) := by decide +kernel
theorem dX3_remember_13 : decode cX3_remember 13 = .ok (.invokestatic 235, 3) := by decide +kernel
theorem dX3_remember_16 : decode cX3_remember 16 = .ok (.aload_n 0, 1) := by decide +kernel
theorem dX3_remember_17 : decode cX3_remember 17 = .ok (.aload_n 0, 1) := by decide +kernel
theorem dX3_remember_18 : decode cX3_remember 18 = .ok (.getfield 232, 3) := by decide +kernel
theorem dX3_remember_21 : decode cX3_remember 21 = .ok (.iconst 1, 1) := by decide +kernel
theorem dX3_remember_22 : decode cX3_remember 22 = .ok (.iadd, 1) := by decide +kernel
theorem dX3_remember_23 : decode cX3_remember 23 = .ok (.bipush 14, 2) := by decide +kernel
theorem dX3_remember_25 : decode cX3_remember 25 = .ok (.irem, 1) := by decide +kernel
theorem dX3_remember_26 : decode cX3_remember 26 = .ok (.putfield 232, 3) := by decide +kernel
theorem dX3_remember_29 : decode cX3_remember 29 = .ok (.aload_n 0, 1) := by decide +kernel
theorem dX3_remember_30 : decode cX3_remember 30 = .ok (.aload_n 0, 1) := by decide +kernel
theorem dX3_remember_31 : decode cX3_remember 31 = .ok (.getfield 227, 3) := by decide +kernel
theorem dX3_remember_34 : decode cX3_remember 34 = .ok (.iconst 1, 1) := by decide +kernel
theorem dX3_remember_35 : decode cX3_remember 35 = .ok (.iadd, 1) := by decide +kernel
theorem dX3_remember_36 : decode cX3_remember 36 = .ok (.bipush 14, 2) := by decide +kernel
theorem dX3_remember_38 : decode cX3_remember 38 = .ok (.invokestatic 250, 3) := by decide +kernel
theorem dX3_remember_41 : decode cX3_remember 41 = .ok (.putfield 227, 3) := by decide +kernel
theorem dX3_remember_44 : decode cX3_remember 44 = .ok (.return_, 1) := by decide +kernel
theorem dX3_demandAxle_0 : decode cX3_demandAxle 0 = .ok (.aload_n 0, 1) := by decide +kernel
theorem dX3_demandAxle_1 : decode cX3_demandAxle 1 = .ok (.getfield 19, 3) := by decide +kernel
theorem dX3_demandAxle_4 : decode cX3_demandAxle 4 = .ok (.iload_n 1, 1) := by decide +kernel
theorem dX3_demandAxle_5 : decode cX3_demandAxle 5 = .ok (.invokevirtual 285, 3) := by decide +kernel
theorem dX3_demandAxle_8 : decode cX3_demandAxle 8 = .ok (.ifCond .ne 14, 3) := by decide +kernel
theorem dX3_demandAxle_11 : decode cX3_demandAxle 11 = .ok (.new 121, 3) := by decide +kernel
theorem dX3_demandAxle_14 : decode cX3_demandAxle 14 = .ok (.dup, 1) := by decide +kernel
theorem dX3_demandAxle_15 : decode cX3_demandAxle 15 = .ok (.ldc_w 288, 3) := by decide +kernel
theorem dX3_demandAxle_18 : decode cX3_demandAxle 18 = .ok (.invokespecial 125, 3) := by decide +kernel
theorem dX3_demandAxle_21 : decode cX3_demandAxle 21 = .ok (.athrow, 1) := by decide +kernel
theorem dX3_demandAxle_22 : decode cX3_demandAxle 22 = .ok (.return_, 1) := by decide +kernel
theorem dX3_demandTrain_0 : decode cX3_demandTrain 0 = .ok (.iload_n 1, 1) := by decide +kernel
theorem dX3_demandTrain_1 : decode cX3_demandTrain 1 = .ok (.ifCond .lt 14, 3) := by decide +kernel
theorem dX3_demandTrain_4 : decode cX3_demandTrain 4 = .ok (.iload_n 1, 1) := by decide +kernel
theorem dX3_demandTrain_5 : decode cX3_demandTrain 5 = .ok (.aload_n 0, 1) := by decide +kernel
theorem dX3_demandTrain_6 : decode cX3_demandTrain 6 = .ok (.getfield 29, 3) := by decide +kernel
theorem dX3_demandTrain_9 : decode cX3_demandTrain 9 = .ok (.getfield 82, 3) := by decide +kernel
theorem dX3_demandTrain_12 : decode cX3_demandTrain 12 = .ok (.if_icmp .lt 14, 3) := by decide +kernel
theorem dX3_demandTrain_15 : decode cX3_demandTrain 15 = .ok (.new 121, 3) := by decide +kernel
theorem dX3_demandTrain_18 : decode cX3_demandTrain 18 = .ok (.dup, 1) := by decide +kernel
theorem dX3_demandTrain_19 : decode cX3_demandTrain 19 = .ok (.ldc_w 290, 3) := by decide +kernel
theorem dX3_demandTrain_22 : decode cX3_demandTrain 22 = .ok (.invokespecial 125, 3) := by decide +kernel
theorem dX3_demandTrain_25 : decode cX3_demandTrain 25 = .ok (.athrow, 1) := by decide +kernel
theorem dX3_demandTrain_26 : decode cX3_demandTrain 26 = .ok (.return_, 1) := by decide +kernel
theorem dX3_demandSlot_0 : decode cX3_demandSlot 0 = .ok (.iload_n 0, 1) := by decide +kernel
theorem dX3_demandSlot_1 : decode cX3_demandSlot 1 = .ok (.ifCond .lt 8, 3) := by decide +kernel
theorem dX3_demandSlot_4 : decode cX3_demandSlot 4 = .ok (.iload_n 0, 1) := by decide +kernel
theorem dX3_demandSlot_5 : decode cX3_demandSlot 5 = .ok (.iconst 2, 1) := by decide +kernel
theorem dX3_demandSlot_6 : decode cX3_demandSlot 6 = .ok (.if_icmp .lt 14, 3) := by decide +kernel
theorem dX3_demandSlot_9 : decode cX3_demandSlot 9 = .ok (.new 121, 3) := by decide +kernel
theorem dX3_demandSlot_12 : decode cX3_demandSlot 12 = .ok (.dup, 1) := by decide +kernel
theorem dX3_demandSlot_13 : decode cX3_demandSlot 13 = .ok (.ldc_w 292, 3) := by decide +kernel
theorem dX3_demandSlot_16 : decode cX3_demandSlot 16 = .ok (.invokespecial 125, 3) := by decide +kernel
theorem dX3_demandSlot_19 : decode cX3_demandSlot 19 = .ok (.athrow, 1) := by decide +kernel
theorem dX3_demandSlot_20 : decode cX3_demandSlot 20 = .ok (.return_, 1) := by decide +kernel
theorem dX3_billOrNone_0 : decode cX3_billOrNone 0 = .ok (.aload_n 0, 1) := by decide +kernel
theorem dX3_billOrNone_1 : decode cX3_billOrNone 1 = .ok (.getfield 19, 3) := by decide +kernel
theorem dX3_billOrNone_4 : decode cX3_billOrNone 4 = .ok (.getfield 210, 3) := by decide +kernel
theorem dX3_billOrNone_7 : decode cX3_billOrNone 7 = .ok (.iload_n 1, 1) := by decide +kernel
theorem dX3_billOrNone_8 : decode cX3_billOrNone 8 = .ok (.invokestatic 108, 3) := by decide +kernel
theorem dX3_billOrNone_11 : decode cX3_billOrNone 11 = .ok (.istore_n 2, 1) := by decide +kernel
theorem dX3_billOrNone_12 : decode cX3_billOrNone 12 = .ok (.iload_n 2, 1) := by decide +kernel
theorem dX3_billOrNone_13 : decode cX3_billOrNone 13 = .ok (.ifCond .ne 7, 3) := by decide +kernel
theorem dX3_billOrNone_16 : decode cX3_billOrNone 16 = .ok (.iconst (-1), 1) := by decide +kernel
theorem dX3_billOrNone_17 : decode cX3_billOrNone 17 = .ok (.goto 4, 3) := by decide +kernel
theorem dX3_billOrNone_20 : decode cX3_billOrNone 20 = .ok (.iload_n 2, 1) := by decide +kernel
theorem dX3_billOrNone_21 : decode cX3_billOrNone 21 = .ok (.ireturn, 1) := by decide +kernel
theorem dX3_countBills_0 : decode cX3_countBills 0 = .ok (.iconst 0, 1) := by decide +kernel
theorem dX3_countBills_1 : decode cX3_countBills 1 = .ok (.istore_n 2, 1) := by decide +kernel
theorem dX3_countBills_2 : decode cX3_countBills 2 = .ok (.iconst 0, 1) := by decide +kernel
theorem dX3_countBills_3 : decode cX3_countBills 3 = .ok (.istore_n 3, 1) := by decide +kernel
theorem dX3_countBills_4 : decode cX3_countBills 4 = .ok (.iload_n 3, 1) := by decide +kernel
theorem dX3_countBills_5 : decode cX3_countBills 5 = .ok (.aload_n 0, 1) := by decide +kernel
theorem dX3_countBills_6 : decode cX3_countBills 6 = .ok (.getfield 29, 3) := by decide +kernel
theorem dX3_countBills_9 : decode cX3_countBills 9 = .ok (.getfield 82, 3) := by decide +kernel
theorem dX3_countBills_12 : decode cX3_countBills 12 = .ok (.if_icmp .ge 51, 3) := by decide +kernel
theorem dX3_countBills_15 : decode cX3_countBills 15 = .ok (.aload_n 0, 1) := by decide +kernel
theorem dX3_countBills_16 : decode cX3_countBills 16 = .ok (.getfield 19, 3) := by decide +kernel
theorem dX3_countBills_19 : decode cX3_countBills 19 = .ok (.getfield 210, 3) := by decide +kernel
theorem dX3_countBills_22 : decode cX3_countBills 22 = .ok (.iload_n 3, 1) := by decide +kernel
theorem dX3_countBills_23 : decode cX3_countBills 23 = .ok (.invokestatic 108, 3) := by decide +kernel
theorem dX3_countBills_26 : decode cX3_countBills 26 = .ok (.istore 4, 2) := by decide +kernel
theorem dX3_countBills_28 : decode cX3_countBills 28 = .ok (.iload 4, 2) := by decide +kernel
theorem dX3_countBills_30 : decode cX3_countBills 30 = .ok (.ifCond .eq 27, 3) := by decide +kernel
theorem dX3_countBills_33 : decode cX3_countBills 33 = .ok (.iload_n 1, 1) := by decide +kernel
theorem dX3_countBills_34 : decode cX3_countBills 34 = .ok (.ifCond .eq 20, 3) := by decide +kernel
theorem dX3_countBills_37 : decode cX3_countBills 37 = .ok (.iload 4, 2) := by decide +kernel
theorem dX3_countBills_39 : decode cX3_countBills 39 = .ok (.aload_n 0, 1) := by decide +kernel
theorem dX3_countBills_40 : decode cX3_countBills 40 = .ok (.getfield 29, 3) := by decide +kernel
theorem dX3_countBills_43 : decode cX3_countBills 43 = .ok (.aload_n 0, 1) := by decide +kernel
theorem dX3_countBills_44 : decode cX3_countBills 44 = .ok (.getfield 19, 3) := by decide +kernel
theorem dX3_countBills_47 : decode cX3_countBills 47 = .ok (.iload_n 3, 1) := by decide +kernel
theorem dX3_countBills_48 : decode cX3_countBills 48 = .ok (.invokevirtual 156, 3) := by decide +kernel
theorem dX3_countBills_51 : decode cX3_countBills 51 = .ok (.if_icmp .eq 6, 3) := by decide +kernel
theorem dX3_countBills_54 : decode cX3_countBills 54 = .ok (.iinc 2 1, 3) := by decide +kernel
theorem dX3_countBills_57 : decode cX3_countBills 57 = .ok (.iinc 3 1, 3) := by decide +kernel
theorem dX3_countBills_60 : decode cX3_countBills 60 = .ok (.goto (-56), 3) := by decide +kernel
theorem dX3_countBills_63 : decode cX3_countBills 63 = .ok (.iload_n 2, 1) := by decide +kernel
theorem dX3_countBills_64 : decode cX3_countBills 64 = .ok (.ireturn, 1) := by decide +kernel
theorem dX3_commandSucceeds_0 : decode cX3_commandSucceeds 0 = .ok (.iload_n 1, 1) := by decide +kernel
theorem dX3_commandSucceeds_1 : decode cX3_commandSucceeds 1 = .ok (.bipush 100, 2) := by decide +kernel
theorem dX3_commandSucceeds_3 : decode cX3_commandSucceeds 3 = .ok (.idiv, 1) := by decide +kernel
theorem dX3_commandSucceeds_4 : decode cX3_commandSucceeds 4 = .ok (.bipush 100, 2) := by decide +kernel
theorem dX3_commandSucceeds_6 : decode cX3_commandSucceeds 6 = .ok (.irem, 1) := by decide +kernel
theorem dX3_commandSucceeds_7 : decode cX3_commandSucceeds 7 = .ok (.istore_n 2, 1) := by decide +kernel
theorem dX3_commandSucceeds_8 : decode cX3_commandSucceeds 8 = .ok (.iload_n 1, 1) := by decide +kernel
theorem dX3_commandSucceeds_9 : decode cX3_commandSucceeds 9 = .ok (.bipush 100, 2) := by decide +kernel
theorem dX3_commandSucceeds_11 : decode cX3_commandSucceeds 11 = .ok (.irem, 1) := by decide +kernel
theorem dX3_commandSucceeds_12 : decode cX3_commandSucceeds 12 = .ok (.istore_n 3, 1) := by decide +kernel
theorem dX3_commandSucceeds_13 : decode cX3_commandSucceeds 13 = .ok (.iload_n 1, 1) := by decide +kernel
theorem dX3_commandSucceeds_14 : decode cX3_commandSucceeds 14 = .ok (.sipush 10000, 3) := by decide +kernel
theorem dX3_commandSucceeds_17 : decode cX3_commandSucceeds 17 = .ok (.idiv, 1) := by decide +kernel
theorem dX3_commandSucceeds_18 : decode cX3_commandSucceeds 18 = .ok (.tableswitch 133 1 5 #[34, 44, 65, 75, 109], 34) := by decide +kernel
theorem dX3_commandSucceeds_52 : decode cX3_commandSucceeds 52 = .ok (.aload_n 0, 1) := by decide +kernel
theorem dX3_commandSucceeds_53 : decode cX3_commandSucceeds 53 = .ok (.getfield 23, 3) := by decide +kernel
theorem dX3_commandSucceeds_56 : decode cX3_commandSucceeds 56 = .ok (.iload_n 2, 1) := by decide +kernel
theorem dX3_commandSucceeds_57 : decode cX3_commandSucceeds 57 = .ok (.iload_n 3, 1) := by decide +kernel
theorem dX3_commandSucceeds_58 : decode cX3_commandSucceeds 58 = .ok (.invokevirtual 192, 3) := by decide +kernel
theorem dX3_commandSucceeds_61 : decode cX3_commandSucceeds 61 = .ok (.ireturn, 1) := by decide +kernel
theorem dX3_commandSucceeds_62 : decode cX3_commandSucceeds 62 = .ok (.iload_n 3, 1) := by decide +kernel
theorem dX3_commandSucceeds_63 : decode cX3_commandSucceeds 63 = .ok (.ifCond .ne 18, 3) := by decide +kernel
theorem dX3_commandSucceeds_66 : decode cX3_commandSucceeds 66 = .ok (.aload_n 0, 1) := by decide +kernel
theorem dX3_commandSucceeds_67 : decode cX3_commandSucceeds 67 = .ok (.getfield 23, 3) := by decide +kernel
theorem dX3_commandSucceeds_70 : decode cX3_commandSucceeds 70 = .ok (.iload_n 2, 1) := by decide +kernel
theorem dX3_commandSucceeds_71 : decode cX3_commandSucceeds 71 = .ok (.invokevirtual 200, 3) := by decide +kernel
theorem dX3_commandSucceeds_74 : decode cX3_commandSucceeds 74 = .ok (.ifCond .eq 7, 3) := by decide +kernel
theorem dX3_commandSucceeds_77 : decode cX3_commandSucceeds 77 = .ok (.iconst 1, 1) := by decide +kernel
theorem dX3_commandSucceeds_78 : decode cX3_commandSucceeds 78 = .ok (.goto 4, 3) := by decide +kernel
theorem dX3_commandSucceeds_81 : decode cX3_commandSucceeds 81 = .ok (.iconst 0, 1) := by decide +kernel
theorem dX3_commandSucceeds_82 : decode cX3_commandSucceeds 82 = .ok (.ireturn, 1) := by decide +kernel
theorem dX3_commandSucceeds_83 : decode cX3_commandSucceeds 83 = .ok (.aload_n 0, 1) := by decide +kernel
theorem dX3_commandSucceeds_84 : decode cX3_commandSucceeds 84 = .ok (.getfield 23, 3) := by decide +kernel
theorem dX3_commandSucceeds_87 : decode cX3_commandSucceeds 87 = .ok (.iload_n 2, 1) := by decide +kernel
theorem dX3_commandSucceeds_88 : decode cX3_commandSucceeds 88 = .ok (.iload_n 3, 1) := by decide +kernel
theorem dX3_commandSucceeds_89 : decode cX3_commandSucceeds 89 = .ok (.invokevirtual 205, 3) := by decide +kernel
theorem dX3_commandSucceeds_92 : decode cX3_commandSucceeds 92 = .ok (.ireturn, 1) := by decide +kernel
theorem dX3_commandSucceeds_93 : decode cX3_commandSucceeds 93 = .ok (.iload_n 3, 1) := by decide +kernel
theorem dX3_commandSucceeds_94 : decode cX3_commandSucceeds 94 = .ok (.bipush 10, 2) := by decide +kernel
theorem dX3_commandSucceeds_96 : decode cX3_commandSucceeds 96 = .ok (.irem, 1) := by decide +kernel
theorem dX3_commandSucceeds_97 : decode cX3_commandSucceeds 97 = .ok (.ifCond .ne 28, 3) := by decide +kernel
theorem dX3_commandSucceeds_100 : decode cX3_commandSucceeds 100 = .ok (.aload_n 0, 1) := by decide +kernel
theorem dX3_commandSucceeds_101 : decode cX3_commandSucceeds 101 = .ok (.getfield 23, 3) := by decide +kernel
theorem dX3_commandSucceeds_104 : decode cX3_commandSucceeds 104 = .ok (.iload_n 2, 1) := by decide +kernel
theorem dX3_commandSucceeds_105 : decode cX3_commandSucceeds 105 = .ok (.bipush 10, 2) := by decide +kernel
theorem dX3_commandSucceeds_107 : decode cX3_commandSucceeds 107 = .ok (.idiv, 1) := by decide +kernel
theorem dX3_commandSucceeds_108 : decode cX3_commandSucceeds 108 = .ok (.iload_n 1, 1) := by decide +kernel
theorem dX3_commandSucceeds_109 : decode cX3_commandSucceeds 109 = .ok (.bipush 10, 2) := by decide +kernel
theorem dX3_commandSucceeds_111 : decode cX3_commandSucceeds 111 = .ok (.idiv, 1) := by decide +kernel
theorem dX3_commandSucceeds_112 : decode cX3_commandSucceeds 112 = .ok (.bipush 100, 2) := by decide +kernel
theorem dX3_commandSucceeds_114 : decode cX3_commandSucceeds 114 = .ok (.irem, 1) := by decide +kernel
theorem dX3_commandSucceeds_115 : decode cX3_commandSucceeds 115 = .ok (.invokevirtual 218, 3) := by decide +kernel
theorem dX3_commandSucceeds_118 : decode cX3_commandSucceeds 118 = .ok (.ifCond .eq 7, 3) := by decide +kernel
theorem dX3_commandSucceeds_121 : decode cX3_commandSucceeds 121 = .ok (.iconst 1, 1) := by decide +kernel
theorem dX3_commandSucceeds_122 : decode cX3_commandSucceeds 122 = .ok (.goto 4, 3) := by decide +kernel
theorem dX3_commandSucceeds_125 : decode cX3_commandSucceeds 125 = .ok (.iconst 0, 1) := by decide +kernel
theorem dX3_commandSucceeds_126 : decode cX3_commandSucceeds 126 = .ok (.ireturn, 1) := by decide +kernel
theorem dX3_commandSucceeds_127 : decode cX3_commandSucceeds 127 = .ok (.iload_n 2, 1) := by decide +kernel
theorem dX3_commandSucceeds_128 : decode cX3_commandSucceeds 128 = .ok (.ifCond .ne 21, 3) := by decide +kernel
theorem dX3_commandSucceeds_131 : decode cX3_commandSucceeds 131 = .ok (.iload_n 3, 1) := by decide +kernel
theorem dX3_commandSucceeds_132 : decode cX3_commandSucceeds 132 = .ok (.ifCond .ne 17, 3) := by decide +kernel
theorem dX3_commandSucceeds_135 : decode cX3_commandSucceeds 135 = .ok (.aload_n 0, 1) := by decide +kernel
theorem dX3_commandSucceeds_136 : decode cX3_commandSucceeds 136 = .ok (.getfield 23, 3) := by decide +kernel
theorem dX3_commandSucceeds_139 : decode cX3_commandSucceeds 139 = .ok (.invokevirtual 223, 3) := by decide +kernel
theorem dX3_commandSucceeds_142 : decode cX3_commandSucceeds 142 = .ok (.ifCond .eq 7, 3) := by decide +kernel
theorem dX3_commandSucceeds_145 : decode cX3_commandSucceeds 145 = .ok (.iconst 1, 1) := by decide +kernel
theorem dX3_commandSucceeds_146 : decode cX3_commandSucceeds 146 = .ok (.goto 4, 3) := by decide +kernel
theorem dX3_commandSucceeds_149 : decode cX3_commandSucceeds 149 = .ok (.iconst 0, 1) := by decide +kernel
theorem dX3_commandSucceeds_150 : decode cX3_commandSucceeds 150 = .ok (.ireturn, 1) := by decide +kernel
theorem dX3_commandSucceeds_151 : decode cX3_commandSucceeds 151 = .ok (.aload_n 0, 1) := by decide +kernel
theorem dX3_commandSucceeds_152 : decode cX3_commandSucceeds 152 = .ok (.iload_n 1, 1) := by decide +kernel
theorem dX3_commandSucceeds_153 : decode cX3_commandSucceeds 153 = .ok (.invokevirtual 294, 3) := by decide +kernel
theorem dX3_commandSucceeds_156 : decode cX3_commandSucceeds 156 = .ok (.ireturn, 1) := by decide +kernel
theorem dX3_conditionHolds_0 : decode cX3_conditionHolds 0 = .ok (.iload_n 1, 1) := by decide +kernel
theorem dX3_conditionHolds_1 : decode cX3_conditionHolds 1 = .ok (.bipush 100, 2) := by decide +kernel
theorem dX3_conditionHolds_3 : decode cX3_conditionHolds 3 = .ok (.idiv, 1) := by decide +kernel
theorem dX3_conditionHolds_4 : decode cX3_conditionHolds 4 = .ok (.bipush 100, 2) := by decide +kernel
theorem dX3_conditionHolds_6 : decode cX3_conditionHolds 6 = .ok (.irem, 1) := by decide +kernel
theorem dX3_conditionHolds_7 : decode cX3_conditionHolds 7 = .ok (.istore_n 2, 1) := by decide +kernel
theorem dX3_conditionHolds_8 : decode cX3_conditionHolds 8 = .ok (.iload_n 1, 1) := by decide +kernel
theorem dX3_conditionHolds_9 : decode cX3_conditionHolds 9 = .ok (.bipush 100, 2) := by decide +kernel
theorem dX3_conditionHolds_11 : decode cX3_conditionHolds 11 = .ok (.irem, 1) := by decide +kernel
theorem dX3_conditionHolds_12 : decode cX3_conditionHolds 12 = .ok (.istore_n 3, 1) := by decide +kernel
theorem dX3_conditionHolds_13 : decode cX3_conditionHolds 13 = .ok (.aload_n 0, 1) := by decide +kernel
theorem dX3_conditionHolds_14 : decode cX3_conditionHolds 14 = .ok (.getfield 29, 3) := by decide +kernel
theorem dX3_conditionHolds_17 : decode cX3_conditionHolds 17 = .ok (.aload_n 0, 1) := by decide +kernel
theorem dX3_conditionHolds_18 : decode cX3_conditionHolds 18 = .ok (.getfield 23, 3) := by decide +kernel
theorem dX3_conditionHolds_21 : decode cX3_conditionHolds 21 = .ok (.invokevirtual 75, 3) := by decide +kernel
theorem dX3_conditionHolds_24 : decode cX3_conditionHolds 24 = .ok (.iload_n 1, 1) := by decide +kernel
theorem dX3_conditionHolds_25 : decode cX3_conditionHolds 25 = .ok (.sipush 10000, 3) := by decide +kernel
theorem dX3_conditionHolds_28 : decode cX3_conditionHolds 28 = .ok (.idiv, 1) := by decide +kernel
theorem dX3_conditionHolds_29 : decode cX3_conditionHolds 29 = .ok (.tableswitch 145 6 9 #[31, 52, 83, 104], 31) := by decide +kernel
theorem dX3_conditionHolds_60 : decode cX3_conditionHolds 60 = .ok (.iload_n 2, 1) := by decide +kernel
theorem dX3_conditionHolds_61 : decode cX3_conditionHolds 61 = .ok (.ifCond .ne 18, 3) := by decide +kernel
theorem dX3_conditionHolds_64 : decode cX3_conditionHolds 64 = .ok (.aload_n 0, 1) := by decide +kernel
theorem dX3_conditionHolds_65 : decode cX3_conditionHolds 65 = .ok (.getfield 29, 3) := by decide +kernel
theorem dX3_conditionHolds_68 : decode cX3_conditionHolds 68 = .ok (.getfield 85, 3) := by decide +kernel
theorem dX3_conditionHolds_71 : decode cX3_conditionHolds 71 = .ok (.iload_n 3, 1) := by decide +kernel
theorem dX3_conditionHolds_72 : decode cX3_conditionHolds 72 = .ok (.if_icmp .lt 7, 3) := by decide +kernel
theorem dX3_conditionHolds_75 : decode cX3_conditionHolds 75 = .ok (.iconst 1, 1) := by decide +kernel
theorem dX3_conditionHolds_76 : decode cX3_conditionHolds 76 = .ok (.goto 4, 3) := by decide +kernel
theorem dX3_conditionHolds_79 : decode cX3_conditionHolds 79 = .ok (.iconst 0, 1) := by decide +kernel
theorem dX3_conditionHolds_80 : decode cX3_conditionHolds 80 = .ok (.ireturn, 1) := by decide +kernel
theorem dX3_conditionHolds_81 : decode cX3_conditionHolds 81 = .ok (.iload_n 2, 1) := by decide +kernel
theorem dX3_conditionHolds_82 : decode cX3_conditionHolds 82 = .ok (.ifCond .ne 28, 3) := by decide +kernel
theorem dX3_conditionHolds_85 : decode cX3_conditionHolds 85 = .ok (.aload_n 0, 1) := by decide +kernel
theorem dX3_conditionHolds_86 : decode cX3_conditionHolds 86 = .ok (.getfield 23, 3) := by decide +kernel
theorem dX3_conditionHolds_89 : decode cX3_conditionHolds 89 = .ok (.getfield 79, 3) := by decide +kernel
theorem dX3_conditionHolds_92 : decode cX3_conditionHolds 92 = .ok (.iconst 2, 1) := by decide +kernel
theorem dX3_conditionHolds_93 : decode cX3_conditionHolds 93 = .ok (.aload_n 0, 1) := by decide +kernel
theorem dX3_conditionHolds_94 : decode cX3_conditionHolds 94 = .ok (.getfield 29, 3) := by decide +kernel
theorem dX3_conditionHolds_97 : decode cX3_conditionHolds 97 = .ok (.getfield 85, 3) := by decide +kernel
theorem dX3_conditionHolds_100 : decode cX3_conditionHolds 100 = .ok (.imul, 1) := by decide +kernel
theorem dX3_conditionHolds_101 : decode cX3_conditionHolds 101 = .ok (.isub, 1) := by decide +kernel
theorem dX3_conditionHolds_102 : decode cX3_conditionHolds 102 = .ok (.iload_n 3, 1) := by decide +kernel
theorem dX3_conditionHolds_103 : decode cX3_conditionHolds 103 = .ok (.if_icmp .gt 7, 3) := by decide +kernel
theorem dX3_conditionHolds_106 : decode cX3_conditionHolds 106 = .ok (.iconst 1, 1) := by decide +kernel
theorem dX3_conditionHolds_107 : decode cX3_conditionHolds 107 = .ok (.goto 4, 3) := by decide +kernel
theorem dX3_conditionHolds_110 : decode cX3_conditionHolds 110 = .ok (.iconst 0, 1) := by decide +kernel
theorem dX3_conditionHolds_111 : decode cX3_conditionHolds 111 = .ok (.ireturn, 1) := by decide +kernel
theorem dX3_conditionHolds_112 : decode cX3_conditionHolds 112 = .ok (.aload_n 0, 1) := by decide +kernel
theorem dX3_conditionHolds_113 : decode cX3_conditionHolds 113 = .ok (.getfield 29, 3) := by decide +kernel
theorem dX3_conditionHolds_116 : decode cX3_conditionHolds 116 = .ok (.getfield 88, 3) := by decide +kernel
theorem dX3_conditionHolds_119 : decode cX3_conditionHolds 119 = .ok (.iload_n 1, 1) := by decide +kernel
theorem dX3_conditionHolds_120 : decode cX3_conditionHolds 120 = .ok (.sipush 10000, 3) := by decide +kernel
theorem dX3_conditionHolds_123 : decode cX3_conditionHolds 123 = .ok (.irem, 1) := by decide +kernel
theorem dX3_conditionHolds_124 : decode cX3_conditionHolds 124 = .ok (.if_icmp .lt 7, 3) := by decide +kernel
theorem dX3_conditionHolds_127 : decode cX3_conditionHolds 127 = .ok (.iconst 1, 1) := by decide +kernel
theorem dX3_conditionHolds_128 : decode cX3_conditionHolds 128 = .ok (.goto 4, 3) := by decide +kernel
theorem dX3_conditionHolds_131 : decode cX3_conditionHolds 131 = .ok (.iconst 0, 1) := by decide +kernel
theorem dX3_conditionHolds_132 : decode cX3_conditionHolds 132 = .ok (.ireturn, 1) := by decide +kernel
theorem dX3_conditionHolds_133 : decode cX3_conditionHolds 133 = .ok (.aload_n 0, 1) := by decide +kernel
theorem dX3_conditionHolds_134 : decode cX3_conditionHolds 134 = .ok (.getfield 23, 3) := by decide +kernel
theorem dX3_conditionHolds_137 : decode cX3_conditionHolds 137 = .ok (.iload_n 2, 1) := by decide +kernel
theorem dX3_conditionHolds_138 : decode cX3_conditionHolds 138 = .ok (.invokevirtual 285, 3) := by decide +kernel
theorem dX3_conditionHolds_141 : decode cX3_conditionHolds 141 = .ok (.ifCond .eq 31, 3) := by decide +kernel
theorem dX3_conditionHolds_144 : decode cX3_conditionHolds 144 = .ok (.iload_n 3, 1) := by decide +kernel
theorem dX3_conditionHolds_145 : decode cX3_conditionHolds 145 = .ok (.aload_n 0, 1) := by decide +kernel
theorem dX3_conditionHolds_146 : decode cX3_conditionHolds 146 = .ok (.getfield 29, 3) := by decide +kernel
theorem dX3_conditionHolds_149 : decode cX3_conditionHolds 149 = .ok (.getfield 118, 3) := by decide +kernel
theorem dX3_conditionHolds_152 : decode cX3_conditionHolds 152 = .ok (.iload_n 2, 1) := by decide +kernel
theorem dX3_conditionHolds_153 : decode cX3_conditionHolds 153 = .ok (.invokestatic 108, 3) := by decide +kernel
theorem dX3_conditionHolds_156 : decode cX3_conditionHolds 156 = .ok (.iconst (-1), 1) := by decide +kernel
theorem dX3_conditionHolds_157 : decode cX3_conditionHolds 157 = .ok (.if_icmp .ne 7, 3) := by decide +kernel
theorem dX3_conditionHolds_160 : decode cX3_conditionHolds 160 = .ok (.iconst 0, 1) := by decide +kernel
theorem dX3_conditionHolds_161 : decode cX3_conditionHolds 161 = .ok (.goto 4, 3) := by decide +kernel
theorem dX3_conditionHolds_164 : decode cX3_conditionHolds 164 = .ok (.iconst 1, 1) := by decide +kernel
theorem dX3_conditionHolds_165 : decode cX3_conditionHolds 165 = .ok (.if_icmp .ne 7, 3) := by decide +kernel
theorem dX3_conditionHolds_168 : decode cX3_conditionHolds 168 = .ok (.iconst 1, 1) := by decide +kernel
theorem dX3_conditionHolds_169 : decode cX3_conditionHolds 169 = .ok (.goto 4, 3) := by decide +kernel
theorem dX3_conditionHolds_172 : decode cX3_conditionHolds 172 = .ok (.iconst 0, 1) := by decide +kernel
theorem dX3_conditionHolds_173 : decode cX3_conditionHolds 173 = .ok (.ireturn, 1) := by decide +kernel
theorem dX3_conditionHolds_174 : decode cX3_conditionHolds 174 = .ok (.iconst 0, 1) := by decide +kernel
theorem dX3_conditionHolds_175 : decode cX3_conditionHolds 175 = .ok (.ireturn, 1) := by decide +kernel
theorem dX3_simulatedPause_0 : decode cX3_simulatedPause 0 = .ok (.iload_n 1, 1) := by decide +kernel
theorem dX3_simulatedPause_1 : decode cX3_simulatedPause 1 = .ok (.bipush 8, 2) := by decide +kernel
theorem dX3_simulatedPause_3 : decode cX3_simulatedPause 3 = .ok (.irem, 1) := by decide +kernel
theorem dX3_simulatedPause_4 : decode cX3_simulatedPause 4 = .ok (.ifCond .ne 14, 3) := by decide +kernel
theorem dX3_simulatedPause_7 : decode cX3_simulatedPause 7 = .ok (.iconst 1, 1) := by decide +kernel
theorem dX3_simulatedPause_8 : decode cX3_simulatedPause 8 = .ok (.iload_n 1, 1) := by decide +kernel
theorem dX3_simulatedPause_9 : decode cX3_simulatedPause 9 = .ok (.sipush 2048, 3) := by decide +kernel
theorem dX3_simulatedPause_12 : decode cX3_simulatedPause 12 = .ok (.idiv, 1) := by decide +kernel
theorem dX3_simulatedPause_13 : decode cX3_simulatedPause 13 = .ok (.bipush 60, 2) := by decide +kernel
theorem dX3_simulatedPause_15 : decode cX3_simulatedPause 15 = .ok (.irem, 1) := by decide +kernel
theorem dX3_simulatedPause_16 : decode cX3_simulatedPause 16 = .ok (.iadd, 1) := by decide +kernel
theorem dX3_simulatedPause_17 : decode cX3_simulatedPause 17 = .ok (.ireturn, 1) := by decide +kernel
theorem dX3_simulatedPause_18 : decode cX3_simulatedPause 18 = .ok (.iload_n 1, 1) := by decide +kernel
theorem dX3_simulatedPause_19 : decode cX3_simulatedPause 19 = .ok (.iconst 2, 1) := by decide +kernel
theorem dX3_simulatedPause_20 : decode cX3_simulatedPause 20 = .ok (.irem, 1) := by decide +kernel
theorem dX3_simulatedPause_21 : decode cX3_simulatedPause 21 = .ok (.ifCond .eq 15, 3) := by decide +kernel
theorem dX3_simulatedPause_24 : decode cX3_simulatedPause 24 = .ok (.aload_n 0, 1) := by decide +kernel
theorem dX3_simulatedPause_25 : decode cX3_simulatedPause 25 = .ok (.getfield 23, 3) := by decide +kernel
theorem dX3_simulatedPause_28 : decode cX3_simulatedPause 28 = .ok (.getfield 176, 3) := by decide +kernel
theorem dX3_simulatedPause_31 : decode cX3_simulatedPause 31 = .ok (.iconst 0, 1) := by decide +kernel
theorem dX3_simulatedPause_32 : decode cX3_simulatedPause 32 = .ok (.invokestatic 108, 3) := by decide +kernel
theorem dX3_simulatedPause_35 : decode cX3_simulatedPause 35 = .ok (.ireturn, 1) := by decide +kernel
theorem dX3_simulatedPause_36 : decode cX3_simulatedPause 36 = .ok (.aload_n 0, 1) := by decide +kernel
theorem dX3_simulatedPause_37 : decode cX3_simulatedPause 37 = .ok (.getfield 23, 3) := by decide +kernel
theorem dX3_simulatedPause_40 : decode cX3_simulatedPause 40 = .ok (.getfield 176, 3) := by decide +kernel
theorem dX3_simulatedPause_43 : decode cX3_simulatedPause 43 = .ok (.iconst 1, 1) := by decide +kernel
theorem dX3_simulatedPause_44 : decode cX3_simulatedPause 44 = .ok (.invokestatic 108, 3) := by decide +kernel
theorem dX3_simulatedPause_47 : decode cX3_simulatedPause 47 = .ok (.iload_n 1, 1) := by decide +kernel
theorem dX3_simulatedPause_48 : decode cX3_simulatedPause 48 = .ok (.sipush 2048, 3) := by decide +kernel
theorem dX3_simulatedPause_51 : decode cX3_simulatedPause 51 = .ok (.idiv, 1) := by decide +kernel
theorem dX3_simulatedPause_52 : decode cX3_simulatedPause 52 = .ok (.iconst 4, 1) := by decide +kernel
theorem dX3_simulatedPause_53 : decode cX3_simulatedPause 53 = .ok (.irem, 1) := by decide +kernel
theorem dX3_simulatedPause_54 : decode cX3_simulatedPause 54 = .ok (.iadd, 1) := by decide +kernel
theorem dX3_simulatedPause_55 : decode cX3_simulatedPause 55 = .ok (.bipush 60, 2) := by decide +kernel
theorem dX3_simulatedPause_57 : decode cX3_simulatedPause 57 = .ok (.invokestatic 250, 3) := by decide +kernel
theorem dX3_simulatedPause_60 : decode cX3_simulatedPause 60 = .ok (.ireturn, 1) := by decide +kernel
theorem dX3_withoutLastGroups_0 : decode cX3_withoutLastGroups 0 = .ok (.lload_n 0, 1) := by decide +kernel
theorem dX3_withoutLastGroups_1 : decode cX3_withoutLastGroups 1 = .ok (.lstore_n 3, 1) := by decide +kernel
theorem dX3_withoutLastGroups_2 : decode cX3_withoutLastGroups 2 = .ok (.iconst 0, 1) := by decide +kernel
theorem dX3_withoutLastGroups_3 : decode cX3_withoutLastGroups 3 = .ok (.istore 5, 2) := by decide +kernel
theorem dX3_withoutLastGroups_5 : decode cX3_withoutLastGroups 5 = .ok (.iload 5, 2) := by decide +kernel
theorem dX3_withoutLastGroups_7 : decode cX3_withoutLastGroups 7 = .ok (.iload_n 2, 1) := by decide +kernel
theorem dX3_withoutLastGroups_8 : decode cX3_withoutLastGroups 8 = .ok (.if_icmp .ge 15, 3) := by decide +kernel
theorem dX3_withoutLastGroups_11 : decode cX3_withoutLastGroups 11 = .ok (.lload_n 3, 1) := by decide +kernel
theorem dX3_withoutLastGroups_12 : decode cX3_withoutLastGroups 12 = .ok (.ldc2_w 266, 3) := by decide +kernel
theorem dX3_withoutLastGroups_15 : decode cX3_withoutLastGroups 15 = .ok (.ldiv, 1) := by decide +kernel
theorem dX3_withoutLastGroups_16 : decode cX3_withoutLastGroups 16 = .ok (.lstore_n 3, 1) := by decide +kernel
theorem dX3_withoutLastGroups_17 : decode cX3_withoutLastGroups 17 = .ok (.iinc 5 1, 3) := by decide +kernel
theorem dX3_withoutLastGroups_20 : decode cX3_withoutLastGroups 20 = .ok (.goto (-15), 3) := by decide +kernel
theorem dX3_withoutLastGroups_23 : decode cX3_withoutLastGroups 23 = .ok (.lload_n 3, 1) := by decide +kernel
theorem dX3_withoutLastGroups_24 : decode cX3_withoutLastGroups 24 = .ok (.lreturn, 1) := by decide +kernel
theorem dX3_isPause_0 : decode cX3_isPause 0 = .ok (.iload_n 0, 1) := by decide +kernel
theorem dX3_isPause_1 : decode cX3_isPause 1 = .ok (.iconst 1, 1) := by decide +kernel
theorem dX3_isPause_2 : decode cX3_isPause 2 = .ok (.if_icmp .lt 13, 3) := by decide +kernel
theorem dX3_isPause_5 : decode cX3_isPause 5 = .ok (.iload_n 0, 1) := by decide +kernel
theorem dX3_isPause_6 : decode cX3_isPause 6 = .ok (.bipush 60, 2) := by decide +kernel
theorem dX3_isPause_8 : decode cX3_isPause 8 = .ok (.if_icmp .gt 7, 3) := by decide +kernel
theorem dX3_isPause_11 : decode cX3_isPause 11 = .ok (.iconst 1, 1) := by decide +kernel
theorem dX3_isPause_12 : decode cX3_isPause 12 = .ok (.goto 4, 3) := by decide +kernel
theorem dX3_isPause_15 : decode cX3_isPause 15 = .ok (.iconst 0, 1) := by decide +kernel
theorem dX3_isPause_16 : decode cX3_isPause 16 = .ok (.ireturn, 1) := by decide +kernel
theorem dX3_isWeight_0 : decode cX3_isWeight 0 = .ok (.iload_n 0, 1) := by decide +kernel
theorem dX3_isWeight_1 : decode cX3_isWeight 1 = .ok (.iconst 1, 1) := by decide +kernel
theorem dX3_isWeight_2 : decode cX3_isWeight 2 = .ok (.if_icmp .lt 13, 3) := by decide +kernel
theorem dX3_isWeight_5 : decode cX3_isWeight 5 = .ok (.iload_n 0, 1) := by decide +kernel
theorem dX3_isWeight_6 : decode cX3_isWeight 6 = .ok (.bipush 99, 2) := by decide +kernel
theorem dX3_isWeight_8 : decode cX3_isWeight 8 = .ok (.if_icmp .gt 7, 3) := by decide +kernel
theorem dX3_isWeight_11 : decode cX3_isWeight 11 = .ok (.iconst 1, 1) := by decide +kernel
theorem dX3_isWeight_12 : decode cX3_isWeight 12 = .ok (.goto 4, 3) := by decide +kernel
theorem dX3_isWeight_15 : decode cX3_isWeight 15 = .ok (.iconst 0, 1) := by decide +kernel
theorem dX3_isWeight_16 : decode cX3_isWeight 16 = .ok (.ireturn, 1) := by decide +kernel
theorem dX3_isSetting_0 : decode cX3_isSetting 0 = .ok (.iload_n 0, 1) := by decide +kernel
theorem dX3_isSetting_1 : decode cX3_isSetting 1 = .ok (.ifCond .lt 15, 3) := by decide +kernel
theorem dX3_isSetting_4 : decode cX3_isSetting 4 = .ok (.iload_n 0, 1) := by decide +kernel
theorem dX3_isSetting_5 : decode cX3_isSetting 5 = .ok (.getstatic 297, 3) := by decide +kernel
theorem dX3_isSetting_8 : decode cX3_isSetting 8 = .ok (.arraylength, 1) := by decide +kernel
theorem dX3_isSetting_9 : decode cX3_isSetting 9 = .ok (.if_icmp .ge 7, 3) := by decide +kernel
theorem dX3_isSetting_12 : decode cX3_isSetting 12 = .ok (.iconst 1, 1) := by decide +kernel
theorem dX3_isSetting_13 : decode cX3_isSetting 13 = .ok (.goto 4, 3) := by decide +kernel
theorem dX3_isSetting_16 : decode cX3_isSetting 16 = .ok (.iconst 0, 1) := by decide +kernel
theorem dX3_isSetting_17 : decode cX3_isSetting 17 = .ok (.ireturn, 1) := by decide +kernel
theorem dX3_isValueOfSetting_0 : decode cX3_isValueOfSetting 0 = .ok (.iload_n 0, 1) := by decide +kernel
theorem dX3_isValueOfSetting_1 : decode cX3_isValueOfSetting 1 = .ok (.invokestatic 171, 3) := by decide +kernel
theorem dX3_isValueOfSetting_4 : decode cX3_isValueOfSetting 4 = .ok (.ifCond .eq 29, 3) := by decide +kernel
theorem dX3_isValueOfSetting_7 : decode cX3_isValueOfSetting 7 = .ok (.iload_n 1, 1) := by decide +kernel
theorem dX3_isValueOfSetting_8 : decode cX3_isValueOfSetting 8 = .ok (.getstatic 239, 3) := by decide +kernel
theorem dX3_isValueOfSetting_11 : decode cX3_isValueOfSetting 11 = .ok (.iload_n 0, 1) := by decide +kernel
theorem dX3_isValueOfSetting_12 : decode cX3_isValueOfSetting 12 = .ok (.invokestatic 108, 3) := by decide +kernel
theorem dX3_isValueOfSetting_15 : decode cX3_isValueOfSetting 15 = .ok (.if_icmp .lt 18, 3) := by decide +kernel
theorem dX3_isValueOfSetting_18 : decode cX3_isValueOfSetting 18 = .ok (.iload_n 1, 1) := by decide +kernel
theorem dX3_isValueOfSetting_19 : decode cX3_isValueOfSetting 19 = .ok (.getstatic 242, 3) := by decide +kernel
theorem dX3_isValueOfSetting_22 : decode cX3_isValueOfSetting 22 = .ok (.iload_n 0, 1) := by decide +kernel
theorem dX3_isValueOfSetting_23 : decode cX3_isValueOfSetting 23 = .ok (.invokestatic 108, 3) := by decide +kernel
theorem dX3_isValueOfSetting_26 : decode cX3_isValueOfSetting 26 = .ok (.if_icmp .gt 7, 3) := by decide +kernel
theorem dX3_isValueOfSetting_29 : decode cX3_isValueOfSetting 29 = .ok (.iconst 1, 1) := by decide +kernel
theorem dX3_isValueOfSetting_30 : decode cX3_isValueOfSetting 30 = .ok (.goto 4, 3) := by decide +kernel
theorem dX3_isValueOfSetting_33 : decode cX3_isValueOfSetting 33 = .ok (.iconst 0, 1) := by decide +kernel
theorem dX3_isValueOfSetting_34 : decode cX3_isValueOfSetting 34 = .ok (.ireturn, 1) := by decide +kernel
theorem dX3_at_0 : decode cX3_at 0 = .ok (.iload_n 1, 1) := by decide +kernel
theorem dX3_at_1 : decode cX3_at 1 = .ok (.ifCond .lt 15, 3) := by decide +kernel
theorem dX3_at_4 : decode cX3_at 4 = .ok (.iload_n 1, 1) := by decide +kernel
theorem dX3_at_5 : decode cX3_at 5 = .ok (.aload_n 0, 1) := by decide +kernel
theorem dX3_at_6 : decode cX3_at 6 = .ok (.arraylength, 1) := by decide +kernel
theorem dX3_at_7 : decode cX3_at 7 = .ok (.if_icmp .ge 9, 3) := by decide +kernel
theorem dX3_at_10 : decode cX3_at 10 = .ok (.aload_n 0, 1) := by decide +kernel
theorem dX3_at_11 : decode cX3_at 11 = .ok (.iload_n 1, 1) := by decide +kernel
theorem dX3_at_12 : decode cX3_at 12 = .ok (.iaload, 1) := by decide +kernel
theorem dX3_at_13 : decode cX3_at 13 = .ok (.goto 4, 3) := by decide +kernel
theorem dX3_at_16 : decode cX3_at 16 = .ok (.iconst 0, 1) := by decide +kernel
theorem dX3_at_17 : decode cX3_at 17 = .ok (.ireturn, 1) := by decide +kernel
theorem dX3_copy_0 : decode cX3_copy 0 = .ok (.aload_n 0, 1) := by decide +kernel
theorem dX3_copy_1 : decode cX3_copy 1 = .ok (.ifnull 7, 3) := by decide +kernel
theorem dX3_copy_4 : decode cX3_copy 4 = .ok (.aload_n 1, 1) := by decide +kernel
theorem dX3_copy_5 : decode cX3_copy 5 = .ok (.ifnonnull 4, 3) := by decide +kernel
theorem dX3_copy_8 : decode cX3_copy 8 = .ok (.return_, 1) := by decide +kernel
theorem dX3_copy_9 : decode cX3_copy 9 = .ok (.iconst 0, 1) := by decide +kernel
theorem dX3_copy_10 : decode cX3_copy 10 = .ok (.istore_n 2, 1) := by decide +kernel
theorem dX3_copy_11 : decode cX3_copy 11 = .ok (.iload_n 2, 1) := by decide +kernel
theorem dX3_copy_12 : decode cX3_copy 12 = .ok (.bipush 30, 2) := by decide +kernel
theorem dX3_copy_14 : decode cX3_copy 14 = .ok (.if_icmp .ge 45, 3) := by decide +kernel
theorem dX3_copy_17 : decode cX3_copy 17 = .ok (.aload_n 1, 1) := by decide +kernel
theorem dX3_copy_18 : decode cX3_copy 18 = .ok (.getfield 104, 3) := by decide +kernel
theorem dX3_copy_21 : decode cX3_copy 21 = .ok (.iload_n 2, 1) := by decide +kernel
theorem dX3_copy_22 : decode cX3_copy 22 = .ok (.aload_n 0, 1) := by decide +kernel
theorem dX3_copy_23 : decode cX3_copy 23 = .ok (.getfield 104, 3) := by decide +kernel
theorem dX3_copy_26 : decode cX3_copy 26 = .ok (.iload_n 2, 1) := by decide +kernel
theorem dX3_copy_27 : decode cX3_copy 27 = .ok (.iaload, 1) := by decide +kernel
theorem dX3_copy_28 : decode cX3_copy 28 = .ok (.iastore, 1) := by decide +kernel
theorem dX3_copy_29 : decode cX3_copy 29 = .ok (.aload_n 1, 1) := by decide +kernel
theorem dX3_copy_30 : decode cX3_copy 30 = .ok (.getfield 112, 3) := by decide +kernel
theorem dX3_copy_33 : decode cX3_copy 33 = .ok (.iload_n 2, 1) := by decide +kernel
theorem dX3_copy_34 : decode cX3_copy 34 = .ok (.aload_n 0, 1) := by decide +kernel
theorem dX3_copy_35 : decode cX3_copy 35 = .ok (.getfield 112, 3) := by decide +kernel
theorem dX3_copy_38 : decode cX3_copy 38 = .ok (.iload_n 2, 1) := by decide +kernel
theorem dX3_copy_39 : decode cX3_copy 39 = .ok (.iaload, 1) := by decide +kernel
theorem dX3_copy_40 : decode cX3_copy 40 = .ok (.iastore, 1) := by decide +kernel
theorem dX3_copy_41 : decode cX3_copy 41 = .ok (.aload_n 1, 1) := by decide +kernel
theorem dX3_copy_42 : decode cX3_copy 42 = .ok (.getfield 210, 3) := by decide +kernel
theorem dX3_copy_45 : decode cX3_copy 45 = .ok (.iload_n 2, 1) := by decide +kernel
theorem dX3_copy_46 : decode cX3_copy 46 = .ok (.aload_n 0, 1) := by decide +kernel
theorem dX3_copy_47 : decode cX3_copy 47 = .ok (.getfield 210, 3) := by decide +kernel
theorem dX3_copy_50 : decode cX3_copy 50 = .ok (.iload_n 2, 1) := by decide +kernel
theorem dX3_copy_51 : decode cX3_copy 51 = .ok (.iaload, 1) := by decide +kernel
theorem dX3_copy_52 : decode cX3_copy 52 = .ok (.iastore, 1) := by decide +kernel
theorem dX3_copy_53 : decode cX3_copy 53 = .ok (.iinc 2 1, 3) := by decide +kernel
theorem dX3_copy_56 : decode cX3_copy 56 = .ok (.goto (-45), 3) := by decide +kernel
theorem dX3_copy_59 : decode cX3_copy 59 = .ok (.iconst 0, 1) := by decide +kernel
theorem dX3_copy_60 : decode cX3_copy 60 = .ok (.istore_n 2, 1) := by decide +kernel
theorem dX3_copy_61 : decode cX3_copy 61 = .ok (.iload_n 2, 1) := by decide +kernel
theorem dX3_copy_62 : decode cX3_copy 62 = .ok (.getstatic 297, 3) := by decide +kernel
theorem dX3_copy_65 : decode cX3_copy 65 = .ok (.arraylength, 1) := by decide +kernel
theorem dX3_copy_66 : decode cX3_copy 66 = .ok (.if_icmp .ge 21, 3) := by decide +kernel
theorem dX3_copy_69 : decode cX3_copy 69 = .ok (.aload_n 1, 1) := by decide +kernel
theorem dX3_copy_70 : decode cX3_copy 70 = .ok (.getfield 176, 3) := by decide +kernel
theorem dX3_copy_73 : decode cX3_copy 73 = .ok (.iload_n 2, 1) := by decide +kernel
theorem dX3_copy_74 : decode cX3_copy 74 = .ok (.aload_n 0, 1) := by decide +kernel
theorem dX3_copy_75 : decode cX3_copy 75 = .ok (.getfield 176, 3) := by decide +kernel
theorem dX3_copy_78 : decode cX3_copy 78 = .ok (.iload_n 2, 1) := by decide +kernel
theorem dX3_copy_79 : decode cX3_copy 79 = .ok (.iaload, 1) := by decide +kernel
theorem dX3_copy_80 : decode cX3_copy 80 = .ok (.iastore, 1) := by decide +kernel
theorem dX3_copy_81 : decode cX3_copy 81 = .ok (.iinc 2 1, 3) := by decide +kernel
theorem dX3_copy_84 : decode cX3_copy 84 = .ok (.goto (-23), 3) := by decide +kernel
theorem dX3_copy_87 : decode cX3_copy 87 = .ok (.aload_n 1, 1) := by decide +kernel
theorem dX3_copy_88 : decode cX3_copy 88 = .ok (.aload_n 0, 1) := by decide +kernel
theorem dX3_copy_89 : decode cX3_copy 89 = .ok (.getfield 79, 3) := by decide +kernel
theorem dX3_copy_92 : decode cX3_copy 92 = .ok (.putfield 79, 3) := by decide +kernel
theorem dX3_copy_95 : decode cX3_copy 95 = .ok (.return_, 1) := by decide +kernel
theorem dX4_init_0 : decode cX4_init 0 = .ok (.aload_n 0, 1) := by decide +kernel
theorem dX4_init_1 : decode cX4_init 1 = .ok (.invokespecial 1, 3) := by decide +kernel
theorem dX4_init_4 : decode cX4_init 4 = .ok (.aload_n 0, 1) := by decide +kernel
theorem dX4_init_5 : decode cX4_init 5 = .ok (.bipush 120, 2) := by decide +kernel
theorem dX4_init_7 : decode cX4_init 7 = .ok (.newarray .int, 2) := by decide +kernel
theorem dX4_init_9 : decode cX4_init 9 = .ok (.putfield 7, 3) := by decide +kernel
theorem dX4_init_12 : decode cX4_init 12 = .ok (.aload_n 0, 1) := by decide +kernel
theorem dX4_init_13 : decode cX4_init 13 = .ok (.bipush 30, 2) := by decide +kernel
theorem dX4_init_15 : decode cX4_init 15 = .ok (.newarray .int, 2) := by decide +kernel
theorem dX4_init_17 : decode cX4_init 17 = .ok (.putfield 13, 3) := by decide +kernel
theorem dX4_init_20 : decode cX4_init 20 = .ok (.aload_n 0, 1) := by decide +kernel
theorem dX4_init_21 : decode cX4_init 21 = .ok (.bipush 30, 2) := by decide +kernel
theorem dX4_init_23 : decode cX4_init 23 = .ok (.newarray .int, 2) := by decide +kernel
theorem dX4_init_25 : decode cX4_init 25 = .ok (.putfield 16, 3) := by decide +kernel
theorem dX4_init_28 : decode cX4_init 28 = .ok (.aload_n 0, 1) := by decide +kernel
theorem dX4_init_29 : decode cX4_init 29 = .ok (.iconst 4, 1) := by decide +kernel
theorem dX4_init_30 : decode cX4_init 30 = .ok (.newarray .int, 2) := by decide +kernel
theorem dX4_init_32 : decode cX4_init 32 = .ok (.putfield 19, 3) := by decide +kernel
theorem dX4_init_35 : decode cX4_init 35 = .ok (.aload_n 0, 1) := by decide +kernel
theorem dX4_init_36 : decode cX4_init 36 = .ok (.iconst 4, 1) := by decide +kernel
theorem dX4_init_37 : decode cX4_init 37 = .ok (.newarray .int, 2) := by decide +kernel
theorem dX4_init_39 : decode cX4_init 39 = .ok (.putfield 22, 3) := by decide +kernel
theorem dX4_init_42 : decode cX4_init 42 = .ok (.aload_n 0, 1) := by decide +kernel
theorem dX4_init_43 : decode cX4_init 43 = .ok (.iconst 4, 1) := by decide +kernel
theorem dX4_init_44 : decode cX4_init 44 = .ok (.newarray .int, 2) := by decide +kernel
theorem dX4_init_46 : decode cX4_init 46 = .ok (.putfield 25, 3) := by decide +kernel
theorem dX4_init_49 : decode cX4_init 49 = .ok (.aload_n 0, 1) := by decide +kernel
theorem dX4_init_50 : decode cX4_init 50 = .ok (.bipush 95, 2) := by decide +kernel
theorem dX4_init_52 : decode cX4_init 52 = .ok (.newarray .int, 2) := by decide +kernel
theorem dX4_init_54 : decode cX4_init 54 = .ok (.putfield 28, 3) := by decide +kernel
theorem dX4_init_57 : decode cX4_init 57 = .ok (.aload_n 0, 1) := by decide +kernel
theorem dX4_init_58 : decode cX4_init 58 = .ok (.bipush 95, 2) := by decide +kernel
theorem dX4_init_60 : decode cX4_init 60 = .ok (.newarray .int, 2) := by decide +kernel
theorem dX4_init_62 : decode cX4_init 62 = .ok (.putfield 31, 3) := by decide +kernel
theorem dX4_init_65 : decode cX4_init 65 = .ok (.aload_n 0, 1) := by decide +kernel
theorem dX4_init_66 : decode cX4_init 66 = .ok (.sipush 1330, 3) := by decide +kernel
theorem dX4_init_69 : decode cX4_init 69 = .ok (.newarray .int, 2) := by decide +kernel
theorem dX4_init_71 : decode cX4_init 71 = .ok (.putfield 34, 3) := by decide +kernel
theorem dX4_init_74 : decode cX4_init 74 = .ok (.aload_n 0, 1) := by decide +kernel
theorem dX4_init_75 : decode cX4_init 75 = .ok (.sipush 190, 3) := by decide +kernel
theorem dX4_init_78 : decode cX4_init 78 = .ok (.newarray .int, 2) := by decide +kernel
theorem dX4_init_80 : decode cX4_init 80 = .ok (.putfield 37, 3) := by decide +kernel
theorem dX4_init_83 : decode cX4_init 83 = .ok (.aload_n 0, 1) := by decide +kernel
theorem dX4_init_84 : decode cX4_init 84 = .ok (.iconst 2, 1) := by decide +kernel
theorem dX4_init_85 : decode cX4_init 85 = .ok (.newarray .boolean, 2) := by decide +kernel
theorem dX4_init_87 : decode cX4_init 87 = .ok (.putfield 40, 3) := by decide +kernel
theorem dX4_init_90 : decode cX4_init 90 = .ok (.aload_n 0, 1) := by decide +kernel
theorem dX4_init_91 : decode cX4_init 91 = .ok (.sipush 1024, 3) := by decide +kernel
theorem dX4_init_94 : decode cX4_init 94 = .ok (.newarray .int, 2) := by decide +kernel
theorem dX4_init_96 : decode cX4_init 96 = .ok (.putfield 44, 3) := by decide +kernel
theorem dX4_init_99 : decode cX4_init 99 = .ok (.aload_n 0, 1) := by decide +kernel
theorem dX4_init_100 : decode cX4_init 100 = .ok (.bipush 31, 2) := by decide +kernel
theorem dX4_init_102 : decode cX4_init 102 = .ok (.newarray .int, 2) := by decide +kernel
theorem dX4_init_104 : decode cX4_init 104 = .ok (.putfield 47, 3) := by decide +kernel
theorem dX4_init_107 : decode cX4_init 107 = .ok (.aload_n 0, 1) := by decide +kernel
theorem dX4_init_108 : decode cX4_init 108 = .ok (.bipush 31, 2) := by decide +kernel
theorem dX4_init_110 : decode cX4_init 110 = .ok (.newarray .int, 2) := by decide +kernel
theorem dX4_init_112 : decode cX4_init 112 = .ok (.putfield 50, 3) := by decide +kernel
theorem dX4_init_115 : decode cX4_init 115 = .ok (.aload_n 0, 1) := by decide +kernel
theorem dX4_init_116 : decode cX4_init 116 = .ok (.bipush 30, 2) := by decide +kernel
theorem dX4_init_118 : decode cX4_init 118 = .ok (.newarray .int, 2) := by decide +kernel
theorem dX4_init_120 : decode cX4_init 120 = .ok (.putfield 53, 3) := by decide +kernel
theorem dX4_init_123 : decode cX4_init 123 = .ok (.aload_n 0, 1) := by decide +kernel
theorem dX4_init_124 : decode cX4_init 124 = .ok (.bipush 15, 2) := by decide +kernel
theorem dX4_init_126 : decode cX4_init 126 = .ok (.newarray .int, 2) := by decide +kernel
theorem dX4_init_128 : decode cX4_init 128 = .ok (.putfield 56, 3) := by decide +kernel
theorem dX4_init_131 : decode cX4_init 131 = .ok (.aload_n 0, 1) := by decide +kernel
theorem dX4_init_132 : decode cX4_init 132 = .ok (.getfield 28, 3) := by decide +kernel
theorem dX4_init_135 : decode cX4_init 135 = .ok (.iconst 1, 1) := by decide +kernel
theorem dX4_init_136 : decode cX4_init 136 = .ok (.iconst 4, 1) := by decide +kernel
theorem dX4_init_137 : decode cX4_init 137 = .ok (.iastore, 1) := by decide +kernel
theorem dX4_init_138 : decode cX4_init 138 = .ok (.aload_n 0, 1) := by decide +kernel
theorem dX4_init_139 : decode cX4_init 139 = .ok (.getfield 28, 3) := by decide +kernel
theorem dX4_init_142 : decode cX4_init 142 = .ok (.iconst 2, 1) := by decide +kernel
theorem dX4_init_143 : decode cX4_init 143 = .ok (.bipush 6, 2) := by decide +kernel
theorem dX4_init_145 : decode cX4_init 145 = .ok (.iastore, 1) := by decide +kernel
theorem dX4_init_146 : decode cX4_init 146 = .ok (.aload_n 0, 1) := by decide +kernel
theorem dX4_init_147 : decode cX4_init 147 = .ok (.getfield 28, 3) := by decide +kernel
theorem dX4_init_150 : decode cX4_init 150 = .ok (.iconst 3, 1) := by decide +kernel
theorem dX4_init_151 : decode cX4_init 151 = .ok (.bipush 15, 2) := by decide +kernel
theorem dX4_init_153 : decode cX4_init 153 = .ok (.iastore, 1) := by decide +kernel
theorem dX4_init_154 : decode cX4_init 154 = .ok (.aload_n 0, 1) := by decide +kernel
theorem dX4_init_155 : decode cX4_init 155 = .ok (.getfield 28, 3) := by decide +kernel
theorem dX4_init_158 : decode cX4_init 158 = .ok (.iconst 4, 1) := by decide +kernel
theorem dX4_init_159 : decode cX4_init 159 = .ok (.bipush 40, 2) := by decide +kernel
theorem dX4_init_161 : decode cX4_init 161 = .ok (.iastore, 1) := by decide +kernel
theorem dX4_init_162 : decode cX4_init 162 = .ok (.return_, 1) := by decide +kernel
theorem dX4_thrown_0 : decode cX4_thrown 0 = .ok (.aload_n 0, 1) := by decide +kernel
theorem dX4_thrown_1 : decode cX4_thrown 1 = .ok (.getfield 59, 3) := by decide +kernel
theorem dX4_thrown_4 : decode cX4_thrown 4 = .ok (.ireturn, 1) := by decide +kernel
theorem dX4_refused_0 : decode cX4_refused 0 = .ok (.aload_n 0, 1) := by decide +kernel
theorem dX4_refused_1 : decode cX4_refused 1 = .ok (.iload_n 1, 1) := by decide +kernel
theorem dX4_refused_2 : decode cX4_refused 2 = .ok (.putfield 59, 3) := by decide +kernel
theorem dX4_refused_5 : decode cX4_refused 5 = .ok (.iload_n 1, 1) := by decide +kernel
theorem dX4_refused_6 : decode cX4_refused 6 = .ok (.ifCond .le 7, 3) := by decide +kernel
theorem dX4_refused_9 : decode cX4_refused 9 = .ok (.iconst 1, 1) := by decide +kernel
theorem dX4_refused_10 : decode cX4_refused 10 = .ok (.goto 4, 3) := by decide +kernel
theorem dX4_refused_13 : decode cX4_refused 13 = .ok (.iconst 0, 1) := by decide +kernel
theorem dX4_refused_14 : decode cX4_refused 14 = .ok (.ireturn, 1) := by decide +kernel
theorem dX4_in_0 : decode cX4_in 0 = .ok (.lload_n 0, 1) := by decide +kernel
theorem dX4_in_1 : decode cX4_in 1 = .ok (.lload_n 2, 1) := by decide +kernel
theorem dX4_in_2 : decode cX4_in 2 = .ok (.lcmp, 1) := by decide +kernel
theorem dX4_in_3 : decode cX4_in 3 = .ok (.ifCond .lt 14, 3) := by decide +kernel
theorem dX4_in_6 : decode cX4_in 6 = .ok (.lload_n 0, 1) := by decide +kernel
theorem dX4_in_7 : decode cX4_in 7 = .ok (.lload 4, 2) := by decide +kernel
theorem dX4_in_9 : decode cX4_in 9 = .ok (.lcmp, 1) := by decide +kernel
theorem dX4_in_10 : decode cX4_in 10 = .ok (.ifCond .gt 7, 3) := by decide +kernel
theorem dX4_in_13 : decode cX4_in 13 = .ok (.iconst 1, 1) := by decide +kernel
theorem dX4_in_14 : decode cX4_in 14 = .ok (.goto 4, 3) := by decide +kernel
theorem dX4_in_17 : decode cX4_in 17 = .ok (.iconst 0, 1) := by decide +kernel
theorem dX4_in_18 : decode cX4_in 18 = .ok (.ireturn, 1) := by decide +kernel
theorem dX4_size_0 : decode cX4_size 0 = .ok (.iload_n 0, 1) := by decide +kernel
theorem dX4_size_1 : decode cX4_size 1 = .ok (.ifCond .ge 8, 3) := by decide +kernel
theorem dX4_size_4 : decode cX4_size 4 = .ok (.iload_n 0, 1) := by decide +kernel
theorem dX4_size_5 : decode cX4_size 5 = .ok (.ineg, 1) := by decide +kernel
theorem dX4_size_6 : decode cX4_size 6 = .ok (.goto 4, 3) := by decide +kernel
theorem dX4_size_9 : decode cX4_size 9 = .ok (.iload_n 0, 1) := by decide +kernel
theorem dX4_size_10 : decode cX4_size 10 = .ok (.ireturn, 1) := by decide +kernel
theorem dX4_copy_0 : decode cX4_copy 0 = .ok (.iconst 0, 1) := by decide +kernel
theorem dX4_copy_1 : decode cX4_copy 1 = .ok (.istore 5, 2) := by decide +kernel
theorem dX4_copy_3 : decode cX4_copy 3 = .ok (.iload 5, 2) := by decide +kernel
theorem dX4_copy_5 : decode cX4_copy 5 = .ok (.iload 4, 2) := by decide +kernel
theorem dX4_copy_7 : decode cX4_copy 7 = .ok (.if_icmp .ge 21, 3) := by decide +kernel
theorem dX4_copy_10 : decode cX4_copy 10 = .ok (.aload_n 2, 1) := by decide +kernel
theorem dX4_copy_11 : decode cX4_copy 11 = .ok (.iload_n 3, 1) := by decide +kernel
theorem dX4_copy_12 : decode cX4_copy 12 = .ok (.iload 5, 2) := by decide +kernel
theorem dX4_copy_14 : decode cX4_copy 14 = .ok (.iadd, 1) := by decide +kernel
theorem dX4_copy_15 : decode cX4_copy 15 = .ok (.aload_n 0, 1) := by decide +kernel
theorem dX4_copy_16 : decode cX4_copy 16 = .ok (.iload_n 1, 1) := by decide +kernel
theorem dX4_copy_17 : decode cX4_copy 17 = .ok (.iload 5, 2) := by decide +kernel
theorem dX4_copy_19 : decode cX4_copy 19 = .ok (.iadd, 1) := by decide +kernel
theorem dX4_copy_20 : decode cX4_copy 20 = .ok (.iaload, 1) := by decide +kernel
theorem dX4_copy_21 : decode cX4_copy 21 = .ok (.iastore, 1) := by decide +kernel
theorem dX4_copy_22 : decode cX4_copy 22 = .ok (.iinc 5 1, 3) := by decide +kernel
theorem dX4_copy_25 : decode cX4_copy 25 = .ok (.goto (-22), 3) := by decide +kernel
theorem dX4_copy_28 : decode cX4_copy 28 = .ok (.return_, 1) := by decide +kernel
theorem dX4_tenTo_0 : decode cX4_tenTo 0 = .ok (.lconst 1, 1) := by decide +kernel
theorem dX4_tenTo_1 : decode cX4_tenTo 1 = .ok (.lstore_n 1, 1) := by decide +kernel
theorem dX4_tenTo_2 : decode cX4_tenTo 2 = .ok (.iconst 0, 1) := by decide +kernel
theorem dX4_tenTo_3 : decode cX4_tenTo 3 = .ok (.istore_n 3, 1) := by decide +kernel
theorem dX4_tenTo_4 : decode cX4_tenTo 4 = .ok (.iload_n 3, 1) := by decide +kernel
theorem dX4_tenTo_5 : decode cX4_tenTo 5 = .ok (.iload_n 0, 1) := by decide +kernel
theorem dX4_tenTo_6 : decode cX4_tenTo 6 = .ok (.if_icmp .ge 15, 3) := by decide +kernel
theorem dX4_tenTo_9 : decode cX4_tenTo 9 = .ok (.lload_n 1, 1) := by decide +kernel
theorem dX4_tenTo_10 : decode cX4_tenTo 10 = .ok (.ldc2_w 63, 3) := by decide +kernel
theorem dX4_tenTo_13 : decode cX4_tenTo 13 = .ok (.lmul, 1) := by decide +kernel
theorem dX4_tenTo_14 : decode cX4_tenTo 14 = .ok (.lstore_n 1, 1) := by decide +kernel
theorem dX4_tenTo_15 : decode cX4_tenTo 15 = .ok (.iinc 3 1, 3) := by decide +kernel
theorem dX4_tenTo_18 : decode cX4_tenTo 18 = .ok (.goto (-14), 3) := by decide +kernel
theorem dX4_tenTo_21 : decode cX4_tenTo 21 = .ok (.lload_n 1, 1) := by decide +kernel
theorem dX4_tenTo_22 : decode cX4_tenTo 22 = .ok (.lreturn, 1) := by decide +kernel
theorem dX4_remember_0 : decode cX4_remember 0 = .ok (.aload_n 0, 1) := by decide +kernel
theorem dX4_remember_1 : decode cX4_remember 1 = .ok (.getfield 65, 3) := by decide +kernel
theorem dX4_remember_4 : decode cX4_remember 4 = .ok (.bipush 14, 2) := by decide +kernel
theorem dX4_remember_6 : decode cX4_remember 6 = .ok (.if_icmp .ne 30, 3) := by decide +kernel
theorem dX4_remember_9 : decode cX4_remember 9 = .ok (.aload_n 0, 1) := by decide +kernel
theorem dX4_remember_10 : decode cX4_remember 10 = .ok (.getfield 34, 3) := by decide +kernel
theorem dX4_remember_13 : decode cX4_remember 13 = .ok (.bipush 95, 2) := by decide +kernel
theorem dX4_remember_15 : decode cX4_remember 15 = .ok (.aload_n 0, 1) := by decide +kernel
theorem dX4_remember_16 : decode cX4_remember 16 = .ok (.getfield 34, 3) := by decide +kernel
theorem dX4_remember_19 : decode cX4_remember 19 = .ok (.iconst 0, 1) := by decide +kernel
theorem dX4_remember_20 : decode cX4_remember 20 = .ok (.sipush 1235, 3) := by decide +kernel
theorem dX4_remember_23 : decode cX4_remember 23 = .ok (.invokestatic 68, 3) := by decide +kernel
theorem dX4_remember_26 : decode cX4_remember 26 = .ok (.aload_n 0, 1) := by decide +kernel
theorem dX4_remember_27 : decode cX4_remember 27 = .ok (.dup, 1) := by decide +kernel
theorem dX4_remember_28 : decode cX4_remember 28 = .ok (.getfield 65, 3) := by decide +kernel
theorem dX4_remember_31 : decode cX4_remember 31 = .ok (.iconst 1, 1) := by decide +kernel
theorem dX4_remember_32 : decode cX4_remember 32 = .ok (.isub, 1) := by decide +kernel
theorem dX4_remember_33 : decode cX4_remember 33 = .ok (.putfield 65, 3) := by decide +kernel
theorem dX4_remember_36 : decode cX4_remember 36 = .ok (.aload_n 0, 1) := by decide +kernel
theorem dX4_remember_37 : decode cX4_remember 37 = .ok (.getfield 28, 3) := by decide +kernel
theorem dX4_remember_40 : decode cX4_remember 40 = .ok (.iconst 0, 1) := by decide +kernel
theorem dX4_remember_41 : decode cX4_remember 41 = .ok (.aload_n 0, 1) := by decide +kernel
theorem dX4_remember_42 : decode cX4_remember 42 = .ok (.getfield 34, 3) := by decide +kernel
theorem dX4_remember_45 : decode cX4_remember 45 = .ok (.bipush 95, 2) := by decide +kernel
theorem dX4_remember_47 : decode cX4_remember 47 = .ok (.aload_n 0, 1) := by decide +kernel
theorem dX4_remember_48 : decode cX4_remember 48 = .ok (.getfield 65, 3) := by decide +kernel
theorem dX4_remember_51 : decode cX4_remember 51 = .ok (.imul, 1) := by decide +kernel
theorem dX4_remember_52 : decode cX4_remember 52 = .ok (.bipush 95, 2) := by decide +kernel
theorem dX4_remember_54 : decode cX4_remember 54 = .ok (.invokestatic 68, 3) := by decide +kernel
theorem dX4_remember_57 : decode cX4_remember 57 = .ok (.aload_n 0, 1) := by decide +kernel
theorem dX4_remember_58 : decode cX4_remember 58 = .ok (.dup, 1) := by decide +kernel
theorem dX4_remember_59 : decode cX4_remember 59 = .ok (.getfield 65, 3) := by decide +kernel
theorem dX4_remember_62 : decode cX4_remember 62 = .ok (.iconst 1, 1) := by decide +kernel
theorem dX4_remember_63 : decode cX4_remember 63 = .ok (.iadd, 1) := by decide +kernel
theorem dX4_remember_64 : decode cX4_remember 64 = .ok (.putfield 65, 3) := by decide +kernel
theorem dX4_remember_67 : decode cX4_remember 67 = .ok (.return_, 1) := by decide +kernel
theorem dX4_tryIt_0 : decode cX4_tryIt 0 = .ok (.aload_n 0, 1) := by decide +kernel
theorem dX4_tryIt_1 : decode cX4_tryIt 1 = .ok (.getfield 28, 3) := by decide +kernel
theorem dX4_tryIt_4 : decode cX4_tryIt 4 = .ok (.iconst 0, 1) := by decide +kernel
theorem dX4_tryIt_5 : decode cX4_tryIt 5 = .ok (.aload_n 0, 1) := by decide +kernel
theorem dX4_tryIt_6 : decode cX4_tryIt 6 = .ok (.getfield 31, 3) := by decide +kernel
theorem dX4_tryIt_9 : decode cX4_tryIt 9 = .ok (.iconst 0, 1) := by decide +kernel
theorem dX4_tryIt_10 : decode cX4_tryIt 10 = .ok (.bipush 95, 2) := by decide +kernel
theorem dX4_tryIt_12 : decode cX4_tryIt 12 = .ok (.invokestatic 68, 3) := by decide +kernel
theorem dX4_tryIt_15 : decode cX4_tryIt 15 = .ok (.return_, 1) := by decide +kernel
theorem dX4_carCost_0 : decode cX4_carCost 0 = .ok (.iconst 3, 1) := by decide +kernel
theorem dX4_carCost_1 : decode cX4_carCost 1 = .ok (.aload_n 0, 1) := by decide +kernel
theorem dX4_carCost_2 : decode cX4_carCost 2 = .ok (.bipush 35, 2) := by decide +kernel
theorem dX4_carCost_4 : decode cX4_carCost 4 = .ok (.iload_n 1, 1) := by decide +kernel
theorem dX4_carCost_5 : decode cX4_carCost 5 = .ok (.iadd, 1) := by decide +kernel
theorem dX4_carCost_6 : decode cX4_carCost 6 = .ok (.iconst 1, 1) := by decide +kernel
theorem dX4_carCost_7 : decode cX4_carCost 7 = .ok (.iadd, 1) := by decide +kernel
theorem dX4_carCost_8 : decode cX4_carCost 8 = .ok (.iaload, 1) := by decide +kernel
theorem dX4_carCost_9 : decode cX4_carCost 9 = .ok (.aload_n 0, 1) := by decide +kernel
theorem dX4_carCost_10 : decode cX4_carCost 10 = .ok (.iconst 1, 1) := by decide +kernel
theorem dX4_carCost_11 : decode cX4_carCost 11 = .ok (.iaload, 1) := by decide +kernel
theorem dX4_carCost_12 : decode cX4_carCost 12 = .ok (.isub, 1) := by decide +kernel
theorem dX4_carCost_13 : decode cX4_carCost 13 = .ok (.invokestatic 72, 3) := by decide +kernel
theorem dX4_carCost_16 : decode cX4_carCost 16 = .ok (.imul, 1) := by decide +kernel
theorem dX4_carCost_17 : decode cX4_carCost 17 = .ok (.aload_n 0, 1) := by decide +kernel
theorem dX4_carCost_18 : decode cX4_carCost 18 = .ok (.bipush 65, 2) := by decide +kernel
theorem dX4_carCost_20 : decode cX4_carCost 20 = .ok (.iload_n 1, 1) := by decide +kernel
theorem dX4_carCost_21 : decode cX4_carCost 21 = .ok (.iadd, 1) := by decide +kernel
theorem dX4_carCost_22 : decode cX4_carCost 22 = .ok (.iaload, 1) := by decide +kernel
theorem dX4_carCost_23 : decode cX4_carCost 23 = .ok (.aload_n 0, 1) := by decide +kernel
theorem dX4_carCost_24 : decode cX4_carCost 24 = .ok (.bipush 65, 2) := by decide +kernel
theorem dX4_carCost_26 : decode cX4_carCost 26 = .ok (.iload_n 1, 1) := by decide +kernel
theorem dX4_carCost_27 : decode cX4_carCost 27 = .ok (.iadd, 1) := by decide +kernel
theorem dX4_carCost_28 : decode cX4_carCost 28 = .ok (.iconst 1, 1) := by decide +kernel
theorem dX4_carCost_29 : decode cX4_carCost 29 = .ok (.iadd, 1) := by decide +kernel
theorem dX4_carCost_30 : decode cX4_carCost 30 = .ok (.iaload, 1) := by decide +kernel
theorem dX4_carCost_31 : decode cX4_carCost 31 = .ok (.isub, 1) := by decide +kernel
theorem dX4_carCost_32 : decode cX4_carCost 32 = .ok (.invokestatic 72, 3) := by decide +kernel
theorem dX4_carCost_35 : decode cX4_carCost 35 = .ok (.iadd, 1) := by decide +kernel
theorem dX4_carCost_36 : decode cX4_carCost 36 = .ok (.ireturn, 1) := by decide +kernel
theorem dX4_gapCost_0 : decode cX4_gapCost 0 = .ok (.aload_n 0, 1) := by decide +kernel
theorem dX4_gapCost_1 : decode cX4_gapCost 1 = .ok (.getfield 47, 3) := by decide +kernel
theorem dX4_gapCost_4 : decode cX4_gapCost 4 = .ok (.iload_n 3, 1) := by decide +kernel
theorem dX4_gapCost_5 : decode cX4_gapCost 5 = .ok (.iaload, 1) := by decide +kernel
theorem dX4_gapCost_6 : decode cX4_gapCost 6 = .ok (.aload_n 0, 1) := by decide +kernel
theorem dX4_gapCost_7 : decode cX4_gapCost 7 = .ok (.getfield 47, 3) := by decide +kernel
theorem dX4_gapCost_10 : decode cX4_gapCost 10 = .ok (.iload_n 2, 1) := by decide +kernel
theorem dX4_gapCost_11 : decode cX4_gapCost 11 = .ok (.iaload, 1) := by decide +kernel
theorem dX4_gapCost_12 : decode cX4_gapCost 12 = .ok (.isub, 1) := by decide +kernel
theorem dX4_gapCost_13 : decode cX4_gapCost 13 = .ok (.istore 4, 2) := by decide +kernel
theorem dX4_gapCost_15 : decode cX4_gapCost 15 = .ok (.iload 4, 2) := by decide +kernel
theorem dX4_gapCost_17 : decode cX4_gapCost 17 = .ok (.aload_n 1, 1) := by decide +kernel
theorem dX4_gapCost_18 : decode cX4_gapCost 18 = .ok (.iconst 2, 1) := by decide +kernel
theorem dX4_gapCost_19 : decode cX4_gapCost 19 = .ok (.iaload, 1) := by decide +kernel
theorem dX4_gapCost_20 : decode cX4_gapCost 20 = .ok (.if_icmp .ge 14, 3) := by decide +kernel
theorem dX4_gapCost_23 : decode cX4_gapCost 23 = .ok (.iconst 2, 1) := by decide +kernel
theorem dX4_gapCost_24 : decode cX4_gapCost 24 = .ok (.aload_n 1, 1) := by decide +kernel
theorem dX4_gapCost_25 : decode cX4_gapCost 25 = .ok (.iconst 2, 1) := by decide +kernel
theorem dX4_gapCost_26 : decode cX4_gapCost 26 = .ok (.iaload, 1) := by decide +kernel
theorem dX4_gapCost_27 : decode cX4_gapCost 27 = .ok (.iload 4, 2) := by decide +kernel
theorem dX4_gapCost_29 : decode cX4_gapCost 29 = .ok (.isub, 1) := by decide +kernel
theorem dX4_gapCost_30 : decode cX4_gapCost 30 = .ok (.imul, 1) := by decide +kernel
theorem dX4_gapCost_31 : decode cX4_gapCost 31 = .ok (.goto 4, 3) := by decide +kernel
theorem dX4_gapCost_34 : decode cX4_gapCost 34 = .ok (.iconst 0, 1) := by decide +kernel
theorem dX4_gapCost_35 : decode cX4_gapCost 35 = .ok (.ireturn, 1) := by decide +kernel
theorem dX4_place_0 : decode cX4_place 0 = .ok (.bipush 32, 2) := by decide +kernel
theorem dX4_place_2 : decode cX4_place 2 = .ok (.iload_n 1, 1) := by decide +kernel
theorem dX4_place_3 : decode cX4_place 3 = .ok (.iload_n 0, 1) := by decide +kernel
theorem dX4_place_4 : decode cX4_place 4 = .ok (.isub, 1) := by decide +kernel
theorem dX4_place_5 : decode cX4_place 5 = .ok (.imul, 1) := by decide +kernel
theorem dX4_place_6 : decode cX4_place 6 = .ok (.iload_n 2, 1) := by decide +kernel
theorem dX4_place_7 : decode cX4_place 7 = .ok (.iadd, 1) := by decide +kernel
theorem dX4_place_8 : decode cX4_place 8 = .ok (.ireturn, 1) := by decide +kernel
theorem dX4_withCar_0 : decode cX4_withCar 0 = .ok (.iload 4, 2) := by decide +kernel
theorem dX4_withCar_2 : decode cX4_withCar 2 = .ok (.ifCond .ne 7, 3) := by decide +kernel
theorem dX4_withCar_5 : decode cX4_withCar 5 = .ok (.iconst 0, 1) := by decide +kernel
theorem dX4_withCar_6 : decode cX4_withCar 6 = .ok (.goto 15, 3) := by decide +kernel
theorem dX4_withCar_9 : decode cX4_withCar 9 = .ok (.aload_n 0, 1) := by decide +kernel
theorem dX4_withCar_10 : decode cX4_withCar 10 = .ok (.aload_n 1, 1) := by decide +kernel
theorem dX4_withCar_11 : decode cX4_withCar 11 = .ok (.iload_n 2, 1) := by decide +kernel
theorem dX4_withCar_12 : decode cX4_withCar 12 = .ok (.iload 4, 2) := by decide +kernel
theorem dX4_withCar_14 : decode cX4_withCar 14 = .ok (.iadd, 1) := by decide +kernel
theorem dX4_withCar_15 : decode cX4_withCar 15 = .ok (.iconst 1, 1) := by decide +kernel
theorem dX4_withCar_16 : decode cX4_withCar 16 = .ok (.isub, 1) := by decide +kernel
theorem dX4_withCar_17 : decode cX4_withCar 17 = .ok (.iload_n 3, 1) := by decide +kernel
theorem dX4_withCar_18 : decode cX4_withCar 18 = .ok (.invokevirtual 76, 3) := by decide +kernel
theorem dX4_withCar_21 : decode cX4_withCar 21 = .ok (.istore 5, 2) := by decide +kernel
theorem dX4_withCar_23 : decode cX4_withCar 23 = .ok (.bipush 100, 2) := by decide +kernel
theorem dX4_withCar_25 : decode cX4_withCar 25 = .ok (.aload_n 1, 1) := by decide +kernel
theorem dX4_withCar_26 : decode cX4_withCar 26 = .ok (.iload_n 3, 1) := by decide +kernel
theorem dX4_withCar_27 : decode cX4_withCar 27 = .ok (.invokestatic 80, 3) := by decide +kernel
theorem dX4_withCar_30 : decode cX4_withCar 30 = .ok (.iload 5, 2) := by decide +kernel
theorem dX4_withCar_32 : decode cX4_withCar 32 = .ok (.iadd, 1) := by decide +kernel
theorem dX4_withCar_33 : decode cX4_withCar 33 = .ok (.imul, 1) := by decide +kernel
theorem dX4_withCar_34 : decode cX4_withCar 34 = .ok (.iconst 1, 1) := by decide +kernel
theorem dX4_withCar_35 : decode cX4_withCar 35 = .ok (.isub, 1) := by decide +kernel
theorem dX4_withCar_36 : decode cX4_withCar 36 = .ok (.aload_n 0, 1) := by decide +kernel
theorem dX4_withCar_37 : decode cX4_withCar 37 = .ok (.getfield 44, 3) := by decide +kernel
theorem dX4_withCar_40 : decode cX4_withCar 40 = .ok (.iload_n 2, 1) := by decide +kernel
theorem dX4_withCar_41 : decode cX4_withCar 41 = .ok (.iload_n 3, 1) := by decide +kernel
theorem dX4_withCar_42 : decode cX4_withCar 42 = .ok (.iconst 2, 1) := by decide +kernel
theorem dX4_withCar_43 : decode cX4_withCar 43 = .ok (.iadd, 1) := by decide +kernel
theorem dX4_withCar_44 : decode cX4_withCar 44 = .ok (.iload_n 3, 1) := by decide +kernel
theorem dX4_withCar_45 : decode cX4_withCar 45 = .ok (.iconst 2, 1) := by decide +kernel
theorem dX4_withCar_46 : decode cX4_withCar 46 = .ok (.iadd, 1) := by decide +kernel
theorem dX4_withCar_47 : decode cX4_withCar 47 = .ok (.iload_n 2, 1) := by decide +kernel
theorem dX4_withCar_48 : decode cX4_withCar 48 = .ok (.isub, 1) := by decide +kernel
theorem dX4_withCar_49 : decode cX4_withCar 49 = .ok (.invokestatic 84, 3) := by decide +kernel
theorem dX4_withCar_52 : decode cX4_withCar 52 = .ok (.iaload, 1) := by decide +kernel
theorem dX4_withCar_53 : decode cX4_withCar 53 = .ok (.iadd, 1) := by decide +kernel
theorem dX4_withCar_54 : decode cX4_withCar 54 = .ok (.ireturn, 1) := by decide +kernel
theorem dX4_withStray_0 : decode cX4_withStray 0 = .ok (.bipush 100, 2) := by decide +kernel
theorem dX4_withStray_2 : decode cX4_withStray 2 = .ok (.aload_n 1, 1) := by decide +kernel
theorem dX4_withStray_3 : decode cX4_withStray 3 = .ok (.iconst 3, 1) := by decide +kernel
theorem dX4_withStray_4 : decode cX4_withStray 4 = .ok (.iaload, 1) := by decide +kernel
theorem dX4_withStray_5 : decode cX4_withStray 5 = .ok (.imul, 1) := by decide +kernel
theorem dX4_withStray_6 : decode cX4_withStray 6 = .ok (.aload_n 0, 1) := by decide +kernel
theorem dX4_withStray_7 : decode cX4_withStray 7 = .ok (.getfield 44, 3) := by decide +kernel
theorem dX4_withStray_10 : decode cX4_withStray 10 = .ok (.iload_n 2, 1) := by decide +kernel
theorem dX4_withStray_11 : decode cX4_withStray 11 = .ok (.iload_n 3, 1) := by decide +kernel
theorem dX4_withStray_12 : decode cX4_withStray 12 = .ok (.iconst 1, 1) := by decide +kernel
theorem dX4_withStray_13 : decode cX4_withStray 13 = .ok (.iadd, 1) := by decide +kernel
theorem dX4_withStray_14 : decode cX4_withStray 14 = .ok (.iload 4, 2) := by decide +kernel
theorem dX4_withStray_16 : decode cX4_withStray 16 = .ok (.invokestatic 84, 3) := by decide +kernel
theorem dX4_withStray_19 : decode cX4_withStray 19 = .ok (.iaload, 1) := by decide +kernel
theorem dX4_withStray_20 : decode cX4_withStray 20 = .ok (.iadd, 1) := by decide +kernel
theorem dX4_withStray_21 : decode cX4_withStray 21 = .ok (.ireturn, 1) := by decide +kernel
theorem dX4_canPair_0 : decode cX4_canPair 0 = .ok (.iload_n 0, 1) := by decide +kernel
theorem dX4_canPair_1 : decode cX4_canPair 1 = .ok (.iconst 1, 1) := by decide +kernel
theorem dX4_canPair_2 : decode cX4_canPair 2 = .ok (.iadd, 1) := by decide +kernel
theorem dX4_canPair_3 : decode cX4_canPair 3 = .ok (.iload_n 1, 1) := by decide +kernel
theorem dX4_canPair_4 : decode cX4_canPair 4 = .ok (.if_icmp .ge 19, 3) := by decide +kernel
theorem dX4_canPair_7 : decode cX4_canPair 7 = .ok (.iload_n 0, 1) := by decide +kernel
theorem dX4_canPair_8 : decode cX4_canPair 8 = .ok (.iload_n 2, 1) := by decide +kernel
theorem dX4_canPair_9 : decode cX4_canPair 9 = .ok (.if_icmp .eq 14, 3) := by decide +kernel
theorem dX4_canPair_12 : decode cX4_canPair 12 = .ok (.iload_n 0, 1) := by decide +kernel
theorem dX4_canPair_13 : decode cX4_canPair 13 = .ok (.iconst 1, 1) := by decide +kernel
theorem dX4_canPair_14 : decode cX4_canPair 14 = .ok (.iadd, 1) := by decide +kernel
theorem dX4_canPair_15 : decode cX4_canPair 15 = .ok (.iload_n 2, 1) := by decide +kernel
theorem dX4_canPair_16 : decode cX4_canPair 16 = .ok (.if_icmp .eq 7, 3) := by decide +kernel
theorem dX4_canPair_19 : decode cX4_canPair 19 = .ok (.iconst 1, 1) := by decide +kernel
theorem dX4_canPair_20 : decode cX4_canPair 20 = .ok (.goto 4, 3) := by decide +kernel
theorem dX4_canPair_23 : decode cX4_canPair 23 = .ok (.iconst 0, 1) := by decide +kernel
theorem dX4_canPair_24 : decode cX4_canPair 24 = .ok (.ireturn, 1) := by decide +kernel
theorem dX4_layRest_0 : decode cX4_layRest 0 = .ok (.iconst 0, 1) := by decide +kernel
theorem dX4_layRest_1 : decode cX4_layRest 1 = .ok (.istore 5, 2) := by decide +kernel
theorem dX4_layRest_3 : decode cX4_layRest 3 = .ok (.iload 5, 2) := by decide +kernel
theorem dX4_layRest_5 : decode cX4_layRest 5 = .ok (.iload_n 3, 1) := by decide +kernel
theorem dX4_layRest_6 : decode cX4_layRest 6 = .ok (.iload_n 2, 1) := by decide +kernel
theorem dX4_layRest_7 : decode cX4_layRest 7 = .ok (.isub, 1) := by decide +kernel
theorem dX4_layRest_8 : decode cX4_layRest 8 = .ok (.if_icmp .gt 22, 3) := by decide +kernel
theorem dX4_layRest_11 : decode cX4_layRest 11 = .ok (.aload_n 0, 1) := by decide +kernel
theorem dX4_layRest_12 : decode cX4_layRest 12 = .ok (.getfield 44, 3) := by decide +kernel
theorem dX4_layRest_15 : decode cX4_layRest 15 = .ok (.iload_n 2, 1) := by decide +kernel
theorem dX4_layRest_16 : decode cX4_layRest 16 = .ok (.iload_n 3, 1) := by decide +kernel
theorem dX4_layRest_17 : decode cX4_layRest 17 = .ok (.iload 5, 2) := by decide +kernel
theorem dX4_layRest_19 : decode cX4_layRest 19 = .ok (.invokestatic 84, 3) := by decide +kernel
theorem dX4_layRest_22 : decode cX4_layRest 22 = .ok (.iconst 0, 1) := by decide +kernel
theorem dX4_layRest_23 : decode cX4_layRest 23 = .ok (.iastore, 1) := by decide +kernel
theorem dX4_layRest_24 : decode cX4_layRest 24 = .ok (.iinc 5 1, 3) := by decide +kernel
theorem dX4_layRest_27 : decode cX4_layRest 27 = .ok (.goto (-24), 3) := by decide +kernel
theorem dX4_layRest_30 : decode cX4_layRest 30 = .ok (.iload_n 3, 1) := by decide +kernel
theorem dX4_layRest_31 : decode cX4_layRest 31 = .ok (.iconst 1, 1) := by decide +kernel
theorem dX4_layRest_32 : decode cX4_layRest 32 = .ok (.isub, 1) := by decide +kernel
theorem dX4_layRest_33 : decode cX4_layRest 33 = .ok (.istore 5, 2) := by decide +kernel
theorem dX4_layRest_35 : decode cX4_layRest 35 = .ok (.iload 5, 2) := by decide +kernel
theorem dX4_layRest_37 : decode cX4_layRest 37 = .ok (.iload_n 2, 1) := by decide +kernel
theorem dX4_layRest_38 : decode cX4_layRest 38 = .ok (.if_icmp .lt 93, 3) := by decide +kernel
theorem dX4_layRest_41 : decode cX4_layRest 41 = .ok (.iconst 0, 1) := by decide +kernel
theorem dX4_layRest_42 : decode cX4_layRest 42 = .ok (.istore 6, 2) := by decide +kernel
theorem dX4_layRest_44 : decode cX4_layRest 44 = .ok (.iload 6, 2) := by decide +kernel
theorem dX4_layRest_46 : decode cX4_layRest 46 = .ok (.iload 5, 2) := by decide +kernel
theorem dX4_layRest_48 : decode cX4_layRest 48 = .ok (.iload_n 2, 1) := by decide +kernel
theorem dX4_layRest_49 : decode cX4_layRest 49 = .ok (.isub, 1) := by decide +kernel
theorem dX4_layRest_50 : decode cX4_layRest 50 = .ok (.if_icmp .gt 75, 3) := by decide +kernel
theorem dX4_layRest_53 : decode cX4_layRest 53 = .ok (.aload_n 0, 1) := by decide +kernel
theorem dX4_layRest_54 : decode cX4_layRest 54 = .ok (.aload_n 1, 1) := by decide +kernel
theorem dX4_layRest_55 : decode cX4_layRest 55 = .ok (.iload_n 2, 1) := by decide +kernel
theorem dX4_layRest_56 : decode cX4_layRest 56 = .ok (.iload 5, 2) := by decide +kernel
theorem dX4_layRest_58 : decode cX4_layRest 58 = .ok (.iload 6, 2) := by decide +kernel
theorem dX4_layRest_60 : decode cX4_layRest 60 = .ok (.invokevirtual 88, 3) := by decide +kernel
theorem dX4_layRest_63 : decode cX4_layRest 63 = .ok (.istore 7, 2) := by decide +kernel
theorem dX4_layRest_65 : decode cX4_layRest 65 = .ok (.iload 5, 2) := by decide +kernel
theorem dX4_layRest_67 : decode cX4_layRest 67 = .ok (.iload_n 3, 1) := by decide +kernel
theorem dX4_layRest_68 : decode cX4_layRest 68 = .ok (.iload 4, 2) := by decide +kernel
theorem dX4_layRest_70 : decode cX4_layRest 70 = .ok (.invokestatic 92, 3) := by decide +kernel
theorem dX4_layRest_73 : decode cX4_layRest 73 = .ok (.ifCond .eq 31, 3) := by decide +kernel
theorem dX4_layRest_76 : decode cX4_layRest 76 = .ok (.aload_n 0, 1) := by decide +kernel
theorem dX4_layRest_77 : decode cX4_layRest 77 = .ok (.aload_n 1, 1) := by decide +kernel
theorem dX4_layRest_78 : decode cX4_layRest 78 = .ok (.iload_n 2, 1) := by decide +kernel
theorem dX4_layRest_79 : decode cX4_layRest 79 = .ok (.iload 5, 2) := by decide +kernel
theorem dX4_layRest_81 : decode cX4_layRest 81 = .ok (.iload 6, 2) := by decide +kernel
theorem dX4_layRest_83 : decode cX4_layRest 83 = .ok (.invokevirtual 96, 3) := by decide +kernel
theorem dX4_layRest_86 : decode cX4_layRest 86 = .ok (.istore 8, 2) := by decide +kernel
theorem dX4_layRest_88 : decode cX4_layRest 88 = .ok (.iload 8, 2) := by decide +kernel
theorem dX4_layRest_90 : decode cX4_layRest 90 = .ok (.iload 7, 2) := by decide +kernel
theorem dX4_layRest_92 : decode cX4_layRest 92 = .ok (.if_icmp .gt 8, 3) := by decide +kernel
theorem dX4_layRest_95 : decode cX4_layRest 95 = .ok (.iload 8, 2) := by decide +kernel
theorem dX4_layRest_97 : decode cX4_layRest 97 = .ok (.goto 5, 3) := by decide +kernel
theorem dX4_layRest_100 : decode cX4_layRest 100 = .ok (.iload 7, 2) := by decide +kernel
theorem dX4_layRest_102 : decode cX4_layRest 102 = .ok (.istore 7, 2) := by decide +kernel
theorem dX4_layRest_104 : decode cX4_layRest 104 = .ok (.aload_n 0, 1) := by decide +kernel
theorem dX4_layRest_105 : decode cX4_layRest 105 = .ok (.getfield 44, 3) := by decide +kernel
theorem dX4_layRest_108 : decode cX4_layRest 108 = .ok (.iload_n 2, 1) := by decide +kernel
theorem dX4_layRest_109 : decode cX4_layRest 109 = .ok (.iload 5, 2) := by decide +kernel
theorem dX4_layRest_111 : decode cX4_layRest 111 = .ok (.iload 6, 2) := by decide +kernel
theorem dX4_layRest_113 : decode cX4_layRest 113 = .ok (.invokestatic 84, 3) := by decide +kernel
theorem dX4_layRest_116 : decode cX4_layRest 116 = .ok (.iload 7, 2) := by decide +kernel
theorem dX4_layRest_118 : decode cX4_layRest 118 = .ok (.iastore, 1) := by decide +kernel
theorem dX4_layRest_119 : decode cX4_layRest 119 = .ok (.iinc 6 1, 3) := by decide +kernel
theorem dX4_layRest_122 : decode cX4_layRest 122 = .ok (.goto (-78), 3) := by decide +kernel
theorem dX4_layRest_125 : decode cX4_layRest 125 = .ok (.iinc 5 (-1), 3) := by decide +kernel
theorem dX4_layRest_128 : decode cX4_layRest 128 = .ok (.goto (-93), 3) := by decide +kernel
theorem dX4_layRest_131 : decode cX4_layRest 131 = .ok (.aload_n 0, 1) := by decide +kernel
theorem dX4_layRest_132 : decode cX4_layRest 132 = .ok (.getfield 44, 3) := by decide +kernel
theorem dX4_layRest_135 : decode cX4_layRest 135 = .ok (.iload_n 2, 1) := by decide +kernel
theorem dX4_layRest_136 : decode cX4_layRest 136 = .ok (.iload_n 2, 1) := by decide +kernel
theorem dX4_layRest_137 : decode cX4_layRest 137 = .ok (.iconst 0, 1) := by decide +kernel
theorem dX4_layRest_138 : decode cX4_layRest 138 = .ok (.invokestatic 84, 3) := by decide +kernel
theorem dX4_layRest_141 : decode cX4_layRest 141 = .ok (.iaload, 1) := by decide +kernel
theorem dX4_layRest_142 : decode cX4_layRest 142 = .ok (.bipush 99, 2) := by decide +kernel
theorem dX4_layRest_144 : decode cX4_layRest 144 = .ok (.iadd, 1) := by decide +kernel
theorem dX4_layRest_145 : decode cX4_layRest 145 = .ok (.bipush 100, 2) := by decide +kernel
theorem dX4_layRest_147 : decode cX4_layRest 147 = .ok (.idiv, 1) := by decide +kernel
theorem dX4_layRest_148 : decode cX4_layRest 148 = .ok (.ireturn, 1) := by decide +kernel
theorem dX4_layCars_0 : decode cX4_layCars 0 = .ok (.iload_n 2, 1) := by decide +kernel
theorem dX4_layCars_1 : decode cX4_layCars 1 = .ok (.istore 4, 2) := by decide +kernel
theorem dX4_layCars_3 : decode cX4_layCars 3 = .ok (.iconst 0, 1) := by decide +kernel
theorem dX4_layCars_4 : decode cX4_layCars 4 = .ok (.istore 5, 2) := by decide +kernel
theorem dX4_layCars_6 : decode cX4_layCars 6 = .ok (.iload 4, 2) := by decide +kernel
theorem dX4_layCars_8 : decode cX4_layCars 8 = .ok (.iload_n 3, 1) := by decide +kernel
theorem dX4_layCars_9 : decode cX4_layCars 9 = .ok (.if_icmp .ge 98, 3) := by decide +kernel
theorem dX4_layCars_12 : decode cX4_layCars 12 = .ok (.iload 4, 2) := by decide +kernel
theorem dX4_layCars_14 : decode cX4_layCars 14 = .ok (.iload_n 3, 1) := by decide +kernel
theorem dX4_layCars_15 : decode cX4_layCars 15 = .ok (.iconst (-1), 1) := by decide +kernel
theorem dX4_layCars_16 : decode cX4_layCars 16 = .ok (.invokestatic 92, 3) := by decide +kernel
theorem dX4_layCars_19 : decode cX4_layCars 19 = .ok (.ifCond .eq 33, 3) := by decide +kernel
theorem dX4_layCars_22 : decode cX4_layCars 22 = .ok (.aload_n 0, 1) := by decide +kernel
theorem dX4_layCars_23 : decode cX4_layCars 23 = .ok (.aload_n 1, 1) := by decide +kernel
theorem dX4_layCars_24 : decode cX4_layCars 24 = .ok (.iload_n 2, 1) := by decide +kernel
theorem dX4_layCars_25 : decode cX4_layCars 25 = .ok (.iload 4, 2) := by decide +kernel
theorem dX4_layCars_27 : decode cX4_layCars 27 = .ok (.iload 5, 2) := by decide +kernel
theorem dX4_layCars_29 : decode cX4_layCars 29 = .ok (.invokevirtual 96, 3) := by decide +kernel
theorem dX4_layCars_32 : decode cX4_layCars 32 = .ok (.aload_n 0, 1) := by decide +kernel
theorem dX4_layCars_33 : decode cX4_layCars 33 = .ok (.getfield 44, 3) := by decide +kernel
theorem dX4_layCars_36 : decode cX4_layCars 36 = .ok (.iload_n 2, 1) := by decide +kernel
theorem dX4_layCars_37 : decode cX4_layCars 37 = .ok (.iload 4, 2) := by decide +kernel
theorem dX4_layCars_39 : decode cX4_layCars 39 = .ok (.iload 5, 2) := by decide +kernel
theorem dX4_layCars_41 : decode cX4_layCars 41 = .ok (.invokestatic 84, 3) := by decide +kernel
theorem dX4_layCars_44 : decode cX4_layCars 44 = .ok (.iaload, 1) := by decide +kernel
theorem dX4_layCars_45 : decode cX4_layCars 45 = .ok (.if_icmp .ne 7, 3) := by decide +kernel
theorem dX4_layCars_48 : decode cX4_layCars 48 = .ok (.iconst 1, 1) := by decide +kernel
theorem dX4_layCars_49 : decode cX4_layCars 49 = .ok (.goto 4, 3) := by decide +kernel
theorem dX4_layCars_52 : decode cX4_layCars 52 = .ok (.iconst 0, 1) := by decide +kernel
theorem dX4_layCars_53 : decode cX4_layCars 53 = .ok (.istore 6, 2) := by decide +kernel
theorem dX4_layCars_55 : decode cX4_layCars 55 = .ok (.iload 6, 2) := by decide +kernel
theorem dX4_layCars_57 : decode cX4_layCars 57 = .ok (.ifCond .eq 32, 3) := by decide +kernel
theorem dX4_layCars_60 : decode cX4_layCars 60 = .ok (.aload_n 0, 1) := by decide +kernel
theorem dX4_layCars_61 : decode cX4_layCars 61 = .ok (.getfield 56, 3) := by decide +kernel
theorem dX4_layCars_64 : decode cX4_layCars 64 = .ok (.aload_n 0, 1) := by decide +kernel
theorem dX4_layCars_65 : decode cX4_layCars 65 = .ok (.getfield 99, 3) := by decide +kernel
theorem dX4_layCars_68 : decode cX4_layCars 68 = .ok (.iload 4, 2) := by decide +kernel
theorem dX4_layCars_70 : decode cX4_layCars 70 = .ok (.iastore, 1) := by decide +kernel
theorem dX4_layCars_71 : decode cX4_layCars 71 = .ok (.aload_n 0, 1) := by decide +kernel
theorem dX4_layCars_72 : decode cX4_layCars 72 = .ok (.dup, 1) := by decide +kernel
theorem dX4_layCars_73 : decode cX4_layCars 73 = .ok (.getfield 99, 3) := by decide +kernel
theorem dX4_layCars_76 : decode cX4_layCars 76 = .ok (.iconst 1, 1) := by decide +kernel
theorem dX4_layCars_77 : decode cX4_layCars 77 = .ok (.iadd, 1) := by decide +kernel
theorem dX4_layCars_78 : decode cX4_layCars 78 = .ok (.putfield 99, 3) := by decide +kernel
theorem dX4_layCars_81 : decode cX4_layCars 81 = .ok (.iload 4, 2) := by decide +kernel
theorem dX4_layCars_83 : decode cX4_layCars 83 = .ok (.iconst 2, 1) := by decide +kernel
theorem dX4_layCars_84 : decode cX4_layCars 84 = .ok (.iadd, 1) := by decide +kernel
theorem dX4_layCars_85 : decode cX4_layCars 85 = .ok (.iload_n 2, 1) := by decide +kernel
theorem dX4_layCars_86 : decode cX4_layCars 86 = .ok (.isub, 1) := by decide +kernel
theorem dX4_layCars_87 : decode cX4_layCars 87 = .ok (.istore 5, 2) := by decide +kernel
theorem dX4_layCars_89 : decode cX4_layCars 89 = .ok (.iload 4, 2) := by decide +kernel
theorem dX4_layCars_91 : decode cX4_layCars 91 = .ok (.iload 6, 2) := by decide +kernel
theorem dX4_layCars_93 : decode cX4_layCars 93 = .ok (.ifCond .eq 7, 3) := by decide +kernel
theorem dX4_layCars_96 : decode cX4_layCars 96 = .ok (.iconst 2, 1) := by decide +kernel
theorem dX4_layCars_97 : decode cX4_layCars 97 = .ok (.goto 4, 3) := by decide +kernel
theorem dX4_layCars_100 : decode cX4_layCars 100 = .ok (.iconst 1, 1) := by decide +kernel
theorem dX4_layCars_101 : decode cX4_layCars 101 = .ok (.iadd, 1) := by decide +kernel
theorem dX4_layCars_102 : decode cX4_layCars 102 = .ok (.istore 4, 2) := by decide +kernel
theorem dX4_layCars_104 : decode cX4_layCars 104 = .ok (.goto (-98), 3) := by decide +kernel
theorem dX4_layCars_107 : decode cX4_layCars 107 = .ok (.return_, 1) := by decide +kernel
theorem dX4_lay_0 : decode cX4_lay 0 = .ok (.aload_n 1, 1) := by decide +kernel
theorem dX4_lay_1 : decode cX4_lay 1 = .ok (.iconst 0, 1) := by decide +kernel
theorem dX4_lay_2 : decode cX4_lay 2 = .ok (.iaload, 1) := by decide +kernel
theorem dX4_lay_3 : decode cX4_lay 3 = .ok (.istore_n 2, 1) := by decide +kernel
theorem dX4_lay_4 : decode cX4_lay 4 = .ok (.aload_n 0, 1) := by decide +kernel
theorem dX4_lay_5 : decode cX4_lay 5 = .ok (.iconst 0, 1) := by decide +kernel
theorem dX4_lay_6 : decode cX4_lay 6 = .ok (.putfield 102, 3) := by decide +kernel
theorem dX4_lay_9 : decode cX4_lay 9 = .ok (.aload_n 0, 1) := by decide +kernel
theorem dX4_lay_10 : decode cX4_lay 10 = .ok (.iconst 0, 1) := by decide +kernel
theorem dX4_lay_11 : decode cX4_lay 11 = .ok (.putfield 99, 3) := by decide +kernel
theorem dX4_lay_14 : decode cX4_lay 14 = .ok (.aload_n 0, 1) := by decide +kernel
theorem dX4_lay_15 : decode cX4_lay 15 = .ok (.iconst 0, 1) := by decide +kernel
theorem dX4_lay_16 : decode cX4_lay 16 = .ok (.putfield 105, 3) := by decide +kernel
theorem dX4_lay_19 : decode cX4_lay 19 = .ok (.iconst 0, 1) := by decide +kernel
theorem dX4_lay_20 : decode cX4_lay 20 = .ok (.istore_n 3, 1) := by decide +kernel
theorem dX4_lay_21 : decode cX4_lay 21 = .ok (.iload_n 3, 1) := by decide +kernel
theorem dX4_lay_22 : decode cX4_lay 22 = .ok (.iload_n 2, 1) := by decide +kernel
theorem dX4_lay_23 : decode cX4_lay 23 = .ok (.if_icmp .ge 74, 3) := by decide +kernel
theorem dX4_lay_26 : decode cX4_lay 26 = .ok (.aload_n 0, 1) := by decide +kernel
theorem dX4_lay_27 : decode cX4_lay 27 = .ok (.getfield 47, 3) := by decide +kernel
theorem dX4_lay_30 : decode cX4_lay 30 = .ok (.iload_n 3, 1) := by decide +kernel
theorem dX4_lay_31 : decode cX4_lay 31 = .ok (.aload_n 1, 1) := by decide +kernel
theorem dX4_lay_32 : decode cX4_lay 32 = .ok (.bipush 35, 2) := by decide +kernel
theorem dX4_lay_34 : decode cX4_lay 34 = .ok (.iload_n 3, 1) := by decide +kernel
theorem dX4_lay_35 : decode cX4_lay 35 = .ok (.iadd, 1) := by decide +kernel
theorem dX4_lay_36 : decode cX4_lay 36 = .ok (.iaload, 1) := by decide +kernel
theorem dX4_lay_37 : decode cX4_lay 37 = .ok (.iload_n 3, 1) := by decide +kernel
theorem dX4_lay_38 : decode cX4_lay 38 = .ok (.ifCond .ne 7, 3) := by decide +kernel
theorem dX4_lay_41 : decode cX4_lay 41 = .ok (.iconst 0, 1) := by decide +kernel
theorem dX4_lay_42 : decode cX4_lay 42 = .ok (.goto 11, 3) := by decide +kernel
theorem dX4_lay_45 : decode cX4_lay 45 = .ok (.aload_n 0, 1) := by decide +kernel
theorem dX4_lay_46 : decode cX4_lay 46 = .ok (.getfield 47, 3) := by decide +kernel
theorem dX4_lay_49 : decode cX4_lay 49 = .ok (.iload_n 3, 1) := by decide +kernel
theorem dX4_lay_50 : decode cX4_lay 50 = .ok (.iconst 1, 1) := by decide +kernel
theorem dX4_lay_51 : decode cX4_lay 51 = .ok (.isub, 1) := by decide +kernel
theorem dX4_lay_52 : decode cX4_lay 52 = .ok (.iaload, 1) := by decide +kernel
theorem dX4_lay_53 : decode cX4_lay 53 = .ok (.iadd, 1) := by decide +kernel
theorem dX4_lay_54 : decode cX4_lay 54 = .ok (.iastore, 1) := by decide +kernel
theorem dX4_lay_55 : decode cX4_lay 55 = .ok (.iload_n 3, 1) := by decide +kernel
theorem dX4_lay_56 : decode cX4_lay 56 = .ok (.ifCond .eq 15, 3) := by decide +kernel
theorem dX4_lay_59 : decode cX4_lay 59 = .ok (.aload_n 1, 1) := by decide +kernel
theorem dX4_lay_60 : decode cX4_lay 60 = .ok (.bipush 35, 2) := by decide +kernel
theorem dX4_lay_62 : decode cX4_lay 62 = .ok (.iload_n 3, 1) := by decide +kernel
theorem dX4_lay_63 : decode cX4_lay 63 = .ok (.iadd, 1) := by decide +kernel
theorem dX4_lay_64 : decode cX4_lay 64 = .ok (.iaload, 1) := by decide +kernel
theorem dX4_lay_65 : decode cX4_lay 65 = .ok (.aload_n 1, 1) := by decide +kernel
theorem dX4_lay_66 : decode cX4_lay 66 = .ok (.iconst 4, 1) := by decide +kernel
theorem dX4_lay_67 : decode cX4_lay 67 = .ok (.iaload, 1) := by decide +kernel
theorem dX4_lay_68 : decode cX4_lay 68 = .ok (.if_icmp .lt 23, 3) := by decide +kernel
theorem dX4_lay_71 : decode cX4_lay 71 = .ok (.aload_n 0, 1) := by decide +kernel
theorem dX4_lay_72 : decode cX4_lay 72 = .ok (.getfield 50, 3) := by decide +kernel
theorem dX4_lay_75 : decode cX4_lay 75 = .ok (.aload_n 0, 1) := by decide +kernel
theorem dX4_lay_76 : decode cX4_lay 76 = .ok (.getfield 102, 3) := by decide +kernel
theorem dX4_lay_79 : decode cX4_lay 79 = .ok (.iload_n 3, 1) := by decide +kernel
theorem dX4_lay_80 : decode cX4_lay 80 = .ok (.iastore, 1) := by decide +kernel
theorem dX4_lay_81 : decode cX4_lay 81 = .ok (.aload_n 0, 1) := by decide +kernel
theorem dX4_lay_82 : decode cX4_lay 82 = .ok (.dup, 1) := by decide +kernel
theorem dX4_lay_83 : decode cX4_lay 83 = .ok (.getfield 102, 3) := by decide +kernel
theorem dX4_lay_86 : decode cX4_lay 86 = .ok (.iconst 1, 1) := by decide +kernel
theorem dX4_lay_87 : decode cX4_lay 87 = .ok (.iadd, 1) := by decide +kernel
theorem dX4_lay_88 : decode cX4_lay 88 = .ok (.putfield 102, 3) := by decide +kernel
theorem dX4_lay_91 : decode cX4_lay 91 = .ok (.iinc 3 1, 3) := by decide +kernel
theorem dX4_lay_94 : decode cX4_lay 94 = .ok (.goto (-73), 3) := by decide +kernel
theorem dX4_lay_97 : decode cX4_lay 97 = .ok (.aload_n 0, 1) := by decide +kernel
theorem dX4_lay_98 : decode cX4_lay 98 = .ok (.getfield 50, 3) := by decide +kernel
theorem dX4_lay_101 : decode cX4_lay 101 = .ok (.aload_n 0, 1) := by decide +kernel
theorem dX4_lay_102 : decode cX4_lay 102 = .ok (.getfield 102, 3) := by decide +kernel
theorem dX4_lay_105 : decode cX4_lay 105 = .ok (.iload_n 2, 1) := by decide +kernel
theorem dX4_lay_106 : decode cX4_lay 106 = .ok (.iastore, 1) := by decide +kernel
theorem dX4_lay_107 : decode cX4_lay 107 = .ok (.iconst 0, 1) := by decide +kernel
theorem dX4_lay_108 : decode cX4_lay 108 = .ok (.istore_n 3, 1) := by decide +kernel
theorem dX4_lay_109 : decode cX4_lay 109 = .ok (.iload_n 3, 1) := by decide +kernel
theorem dX4_lay_110 : decode cX4_lay 110 = .ok (.aload_n 0, 1) := by decide +kernel
theorem dX4_lay_111 : decode cX4_lay 111 = .ok (.getfield 102, 3) := by decide +kernel
theorem dX4_lay_114 : decode cX4_lay 114 = .ok (.if_icmp .ge 69, 3) := by decide +kernel
theorem dX4_lay_117 : decode cX4_lay 117 = .ok (.aload_n 0, 1) := by decide +kernel
theorem dX4_lay_118 : decode cX4_lay 118 = .ok (.getfield 53, 3) := by decide +kernel
theorem dX4_lay_121 : decode cX4_lay 121 = .ok (.iload_n 3, 1) := by decide +kernel
theorem dX4_lay_122 : decode cX4_lay 122 = .ok (.aload_n 0, 1) := by decide +kernel
theorem dX4_lay_123 : decode cX4_lay 123 = .ok (.aload_n 1, 1) := by decide +kernel
theorem dX4_lay_124 : decode cX4_lay 124 = .ok (.aload_n 0, 1) := by decide +kernel
theorem dX4_lay_125 : decode cX4_lay 125 = .ok (.getfield 50, 3) := by decide +kernel
theorem dX4_lay_128 : decode cX4_lay 128 = .ok (.iload_n 3, 1) := by decide +kernel
theorem dX4_lay_129 : decode cX4_lay 129 = .ok (.iaload, 1) := by decide +kernel
theorem dX4_lay_130 : decode cX4_lay 130 = .ok (.aload_n 0, 1) := by decide +kernel
theorem dX4_lay_131 : decode cX4_lay 131 = .ok (.getfield 50, 3) := by decide +kernel
theorem dX4_lay_134 : decode cX4_lay 134 = .ok (.iload_n 3, 1) := by decide +kernel
theorem dX4_lay_135 : decode cX4_lay 135 = .ok (.iconst 1, 1) := by decide +kernel
theorem dX4_lay_136 : decode cX4_lay 136 = .ok (.iadd, 1) := by decide +kernel
theorem dX4_lay_137 : decode cX4_lay 137 = .ok (.iaload, 1) := by decide +kernel
theorem dX4_lay_138 : decode cX4_lay 138 = .ok (.iconst (-1), 1) := by decide +kernel
theorem dX4_lay_139 : decode cX4_lay 139 = .ok (.invokevirtual 108, 3) := by decide +kernel
theorem dX4_lay_142 : decode cX4_lay 142 = .ok (.iastore, 1) := by decide +kernel
theorem dX4_lay_143 : decode cX4_lay 143 = .ok (.aload_n 0, 1) := by decide +kernel
theorem dX4_lay_144 : decode cX4_lay 144 = .ok (.aload_n 1, 1) := by decide +kernel
theorem dX4_lay_145 : decode cX4_lay 145 = .ok (.aload_n 0, 1) := by decide +kernel
theorem dX4_lay_146 : decode cX4_lay 146 = .ok (.getfield 50, 3) := by decide +kernel
theorem dX4_lay_149 : decode cX4_lay 149 = .ok (.iload_n 3, 1) := by decide +kernel
theorem dX4_lay_150 : decode cX4_lay 150 = .ok (.iaload, 1) := by decide +kernel
theorem dX4_lay_151 : decode cX4_lay 151 = .ok (.aload_n 0, 1) := by decide +kernel
theorem dX4_lay_152 : decode cX4_lay 152 = .ok (.getfield 50, 3) := by decide +kernel
theorem dX4_lay_155 : decode cX4_lay 155 = .ok (.iload_n 3, 1) := by decide +kernel
theorem dX4_lay_156 : decode cX4_lay 156 = .ok (.iconst 1, 1) := by decide +kernel
theorem dX4_lay_157 : decode cX4_lay 157 = .ok (.iadd, 1) := by decide +kernel
theorem dX4_lay_158 : decode cX4_lay 158 = .ok (.iaload, 1) := by decide +kernel
theorem dX4_lay_159 : decode cX4_lay 159 = .ok (.invokevirtual 111, 3) := by decide +kernel
theorem dX4_lay_162 : decode cX4_lay 162 = .ok (.aload_n 0, 1) := by decide +kernel
theorem dX4_lay_163 : decode cX4_lay 163 = .ok (.dup, 1) := by decide +kernel
theorem dX4_lay_164 : decode cX4_lay 164 = .ok (.getfield 105, 3) := by decide +kernel
theorem dX4_lay_167 : decode cX4_lay 167 = .ok (.aload_n 0, 1) := by decide +kernel
theorem dX4_lay_168 : decode cX4_lay 168 = .ok (.getfield 53, 3) := by decide +kernel
theorem dX4_lay_171 : decode cX4_lay 171 = .ok (.iload_n 3, 1) := by decide +kernel
theorem dX4_lay_172 : decode cX4_lay 172 = .ok (.iaload, 1) := by decide +kernel
theorem dX4_lay_173 : decode cX4_lay 173 = .ok (.iadd, 1) := by decide +kernel
theorem dX4_lay_174 : decode cX4_lay 174 = .ok (.putfield 105, 3) := by decide +kernel
theorem dX4_lay_177 : decode cX4_lay 177 = .ok (.iinc 3 1, 3) := by decide +kernel
theorem dX4_lay_180 : decode cX4_lay 180 = .ok (.goto (-71), 3) := by decide +kernel
theorem dX4_lay_183 : decode cX4_lay 183 = .ok (.return_, 1) := by decide +kernel
theorem dX4_carWeight_0 : decode cX4_carWeight 0 = .ok (.aload_n 0, 1) := by decide +kernel
theorem dX4_carWeight_1 : decode cX4_carWeight 1 = .ok (.bipush 65, 2) := by decide +kernel
theorem dX4_carWeight_3 : decode cX4_carWeight 3 = .ok (.iload_n 1, 1) := by decide +kernel
theorem dX4_carWeight_4 : decode cX4_carWeight 4 = .ok (.iadd, 1) := by decide +kernel
theorem dX4_carWeight_5 : decode cX4_carWeight 5 = .ok (.iaload, 1) := by decide +kernel
theorem dX4_carWeight_6 : decode cX4_carWeight 6 = .ok (.aload_n 0, 1) := by decide +kernel
theorem dX4_carWeight_7 : decode cX4_carWeight 7 = .ok (.bipush 65, 2) := by decide +kernel
theorem dX4_carWeight_9 : decode cX4_carWeight 9 = .ok (.iload_n 1, 1) := by decide +kernel
theorem dX4_carWeight_10 : decode cX4_carWeight 10 = .ok (.iadd, 1) := by decide +kernel
theorem dX4_carWeight_11 : decode cX4_carWeight 11 = .ok (.iconst 1, 1) := by decide +kernel
theorem dX4_carWeight_12 : decode cX4_carWeight 12 = .ok (.iadd, 1) := by decide +kernel
theorem dX4_carWeight_13 : decode cX4_carWeight 13 = .ok (.iaload, 1) := by decide +kernel
theorem dX4_carWeight_14 : decode cX4_carWeight 14 = .ok (.iadd, 1) := by decide +kernel
theorem dX4_carWeight_15 : decode cX4_carWeight 15 = .ok (.ireturn, 1) := by decide +kernel
theorem dX4_allWeight_0 : decode cX4_allWeight 0 = .ok (.iconst 0, 1) := by decide +kernel
theorem dX4_allWeight_1 : decode cX4_allWeight 1 = .ok (.istore_n 2, 1) := by decide +kernel
theorem dX4_allWeight_2 : decode cX4_allWeight 2 = .ok (.iconst 0, 1) := by decide +kernel
theorem dX4_allWeight_3 : decode cX4_allWeight 3 = .ok (.istore_n 3, 1) := by decide +kernel
theorem dX4_allWeight_4 : decode cX4_allWeight 4 = .ok (.iload_n 3, 1) := by decide +kernel
theorem dX4_allWeight_5 : decode cX4_allWeight 5 = .ok (.aload_n 0, 1) := by decide +kernel
theorem dX4_allWeight_6 : decode cX4_allWeight 6 = .ok (.getfield 99, 3) := by decide +kernel
theorem dX4_allWeight_9 : decode cX4_allWeight 9 = .ok (.if_icmp .ge 22, 3) := by decide +kernel
theorem dX4_allWeight_12 : decode cX4_allWeight 12 = .ok (.iload_n 2, 1) := by decide +kernel
theorem dX4_allWeight_13 : decode cX4_allWeight 13 = .ok (.aload_n 1, 1) := by decide +kernel
theorem dX4_allWeight_14 : decode cX4_allWeight 14 = .ok (.aload_n 0, 1) := by decide +kernel
theorem dX4_allWeight_15 : decode cX4_allWeight 15 = .ok (.getfield 56, 3) := by decide +kernel
theorem dX4_allWeight_18 : decode cX4_allWeight 18 = .ok (.iload_n 3, 1) := by decide +kernel
theorem dX4_allWeight_19 : decode cX4_allWeight 19 = .ok (.iaload, 1) := by decide +kernel
theorem dX4_allWeight_20 : decode cX4_allWeight 20 = .ok (.invokestatic 115, 3) := by decide +kernel
theorem dX4_allWeight_23 : decode cX4_allWeight 23 = .ok (.iadd, 1) := by decide +kernel
theorem dX4_allWeight_24 : decode cX4_allWeight 24 = .ok (.istore_n 2, 1) := by decide +kernel
theorem dX4_allWeight_25 : decode cX4_allWeight 25 = .ok (.iinc 3 1, 3) := by decide +kernel
theorem dX4_allWeight_28 : decode cX4_allWeight 28 = .ok (.goto (-24), 3) := by decide +kernel
theorem dX4_allWeight_31 : decode cX4_allWeight 31 = .ok (.iload_n 2, 1) := by decide +kernel
theorem dX4_allWeight_32 : decode cX4_allWeight 32 = .ok (.ireturn, 1) := by decide +kernel
theorem dX4_trainOf_0 : decode cX4_trainOf 0 = .ok (.iconst 0, 1) := by decide +kernel
theorem dX4_trainOf_1 : decode cX4_trainOf 1 = .ok (.istore_n 2, 1) := by decide +kernel
theorem dX4_trainOf_2 : decode cX4_trainOf 2 = .ok (.aload_n 0, 1) := by decide +kernel
theorem dX4_trainOf_3 : decode cX4_trainOf 3 = .ok (.getfield 50, 3) := by decide +kernel
theorem dX4_trainOf_6 : decode cX4_trainOf 6 = .ok (.iload_n 2, 1) := by decide +kernel
theorem dX4_trainOf_7 : decode cX4_trainOf 7 = .ok (.iconst 1, 1) := by decide +kernel
theorem dX4_trainOf_8 : decode cX4_trainOf 8 = .ok (.iadd, 1) := by decide +kernel
theorem dX4_trainOf_9 : decode cX4_trainOf 9 = .ok (.iaload, 1) := by decide +kernel
theorem dX4_trainOf_10 : decode cX4_trainOf 10 = .ok (.iload_n 1, 1) := by decide +kernel
theorem dX4_trainOf_11 : decode cX4_trainOf 11 = .ok (.if_icmp .gt 9, 3) := by decide +kernel
theorem dX4_trainOf_14 : decode cX4_trainOf 14 = .ok (.iinc 2 1, 3) := by decide +kernel
theorem dX4_trainOf_17 : decode cX4_trainOf 17 = .ok (.goto (-15), 3) := by decide +kernel
theorem dX4_trainOf_20 : decode cX4_trainOf 20 = .ok (.iload_n 2, 1) := by decide +kernel
theorem dX4_trainOf_21 : decode cX4_trainOf 21 = .ok (.ireturn, 1) := by decide +kernel
theorem dX4_carOf_0 : decode cX4_carOf 0 = .ok (.iconst (-1), 1) := by decide +kernel
theorem dX4_carOf_1 : decode cX4_carOf 1 = .ok (.istore_n 2, 1) := by decide +kernel
theorem dX4_carOf_2 : decode cX4_carOf 2 = .ok (.iconst 0, 1) := by decide +kernel
theorem dX4_carOf_3 : decode cX4_carOf 3 = .ok (.istore_n 3, 1) := by decide +kernel
theorem dX4_carOf_4 : decode cX4_carOf 4 = .ok (.iload_n 3, 1) := by decide +kernel
theorem dX4_carOf_5 : decode cX4_carOf 5 = .ok (.aload_n 0, 1) := by decide +kernel
theorem dX4_carOf_6 : decode cX4_carOf 6 = .ok (.getfield 99, 3) := by decide +kernel
theorem dX4_carOf_9 : decode cX4_carOf 9 = .ok (.if_icmp .ge 32, 3) := by decide +kernel
theorem dX4_carOf_12 : decode cX4_carOf 12 = .ok (.iload_n 1, 1) := by decide +kernel
theorem dX4_carOf_13 : decode cX4_carOf 13 = .ok (.aload_n 0, 1) := by decide +kernel
theorem dX4_carOf_14 : decode cX4_carOf 14 = .ok (.getfield 56, 3) := by decide +kernel
theorem dX4_carOf_17 : decode cX4_carOf 17 = .ok (.iload_n 3, 1) := by decide +kernel
theorem dX4_carOf_18 : decode cX4_carOf 18 = .ok (.iaload, 1) := by decide +kernel
theorem dX4_carOf_19 : decode cX4_carOf 19 = .ok (.isub, 1) := by decide +kernel
theorem dX4_carOf_20 : decode cX4_carOf 20 = .ok (.i2l, 1) := by decide +kernel
theorem dX4_carOf_21 : decode cX4_carOf 21 = .ok (.lconst 0, 1) := by decide +kernel
theorem dX4_carOf_22 : decode cX4_carOf 22 = .ok (.lconst 1, 1) := by decide +kernel
theorem dX4_carOf_23 : decode cX4_carOf 23 = .ok (.invokestatic 118, 3) := by decide +kernel
theorem dX4_carOf_26 : decode cX4_carOf 26 = .ok (.ifCond .eq 7, 3) := by decide +kernel
theorem dX4_carOf_29 : decode cX4_carOf 29 = .ok (.iload_n 3, 1) := by decide +kernel
theorem dX4_carOf_30 : decode cX4_carOf 30 = .ok (.goto 4, 3) := by decide +kernel
theorem dX4_carOf_33 : decode cX4_carOf 33 = .ok (.iload_n 2, 1) := by decide +kernel
theorem dX4_carOf_34 : decode cX4_carOf 34 = .ok (.istore_n 2, 1) := by decide +kernel
theorem dX4_carOf_35 : decode cX4_carOf 35 = .ok (.iinc 3 1, 3) := by decide +kernel
theorem dX4_carOf_38 : decode cX4_carOf 38 = .ok (.goto (-34), 3) := by decide +kernel
theorem dX4_carOf_41 : decode cX4_carOf 41 = .ok (.iload_n 2, 1) := by decide +kernel
theorem dX4_carOf_42 : decode cX4_carOf 42 = .ok (.ireturn, 1) := by decide +kernel
theorem dX4_rollIn_0 : decode cX4_rollIn 0 = .ok (.aload_n 0, 1) := by decide +kernel
theorem dX4_rollIn_1 : decode cX4_rollIn 1 = .ok (.iconst 0, 1) := by decide +kernel
theorem dX4_rollIn_2 : decode cX4_rollIn 2 = .ok (.iaload, 1) := by decide +kernel
theorem dX4_rollIn_3 : decode cX4_rollIn 3 = .ok (.istore_n 3, 1) := by decide +kernel
theorem dX4_rollIn_4 : decode cX4_rollIn 4 = .ok (.aload_n 0, 1) := by decide +kernel
theorem dX4_rollIn_5 : decode cX4_rollIn 5 = .ok (.bipush 35, 2) := by decide +kernel
theorem dX4_rollIn_7 : decode cX4_rollIn 7 = .ok (.iload_n 3, 1) := by decide +kernel
theorem dX4_rollIn_8 : decode cX4_rollIn 8 = .ok (.iadd, 1) := by decide +kernel
theorem dX4_rollIn_9 : decode cX4_rollIn 9 = .ok (.iload_n 1, 1) := by decide +kernel
theorem dX4_rollIn_10 : decode cX4_rollIn 10 = .ok (.iastore, 1) := by decide +kernel
theorem dX4_rollIn_11 : decode cX4_rollIn 11 = .ok (.aload_n 0, 1) := by decide +kernel
theorem dX4_rollIn_12 : decode cX4_rollIn 12 = .ok (.bipush 65, 2) := by decide +kernel
theorem dX4_rollIn_14 : decode cX4_rollIn 14 = .ok (.iload_n 3, 1) := by decide +kernel
theorem dX4_rollIn_15 : decode cX4_rollIn 15 = .ok (.iadd, 1) := by decide +kernel
theorem dX4_rollIn_16 : decode cX4_rollIn 16 = .ok (.iload_n 2, 1) := by decide +kernel
theorem dX4_rollIn_17 : decode cX4_rollIn 17 = .ok (.iastore, 1) := by decide +kernel
theorem dX4_rollIn_18 : decode cX4_rollIn 18 = .ok (.aload_n 0, 1) := by decide +kernel
theorem dX4_rollIn_19 : decode cX4_rollIn 19 = .ok (.iconst 0, 1) := by decide +kernel
theorem dX4_rollIn_20 : decode cX4_rollIn 20 = .ok (.dup2, 1) := by decide +kernel
theorem dX4_rollIn_21 : decode cX4_rollIn 21 = .ok (.iaload, 1) := by decide +kernel
theorem dX4_rollIn_22 : decode cX4_rollIn 22 = .ok (.iconst 1, 1) := by decide +kernel
theorem dX4_rollIn_23 : decode cX4_rollIn 23 = .ok (.iadd, 1) := by decide +kernel
theorem dX4_rollIn_24 : decode cX4_rollIn 24 = .ok (.iastore, 1) := by decide +kernel
theorem dX4_rollIn_25 : decode cX4_rollIn 25 = .ok (.iload_n 3, 1) := by decide +kernel
theorem dX4_rollIn_26 : decode cX4_rollIn 26 = .ok (.ireturn, 1) := by decide +kernel
theorem dX4_cutOut_0 : decode cX4_cutOut 0 = .ok (.aload_n 0, 1) := by decide +kernel
theorem dX4_cutOut_1 : decode cX4_cutOut 1 = .ok (.bipush 35, 2) := by decide +kernel
theorem dX4_cutOut_3 : decode cX4_cutOut 3 = .ok (.iload_n 1, 1) := by decide +kernel
theorem dX4_cutOut_4 : decode cX4_cutOut 4 = .ok (.iadd, 1) := by decide +kernel
theorem dX4_cutOut_5 : decode cX4_cutOut 5 = .ok (.iload_n 2, 1) := by decide +kernel
theorem dX4_cutOut_6 : decode cX4_cutOut 6 = .ok (.iadd, 1) := by decide +kernel
theorem dX4_cutOut_7 : decode cX4_cutOut 7 = .ok (.aload_n 0, 1) := by decide +kernel
theorem dX4_cutOut_8 : decode cX4_cutOut 8 = .ok (.bipush 35, 2) := by decide +kernel
theorem dX4_cutOut_10 : decode cX4_cutOut 10 = .ok (.iload_n 1, 1) := by decide +kernel
theorem dX4_cutOut_11 : decode cX4_cutOut 11 = .ok (.iadd, 1) := by decide +kernel
theorem dX4_cutOut_12 : decode cX4_cutOut 12 = .ok (.aload_n 0, 1) := by decide +kernel
theorem dX4_cutOut_13 : decode cX4_cutOut 13 = .ok (.iconst 0, 1) := by decide +kernel
theorem dX4_cutOut_14 : decode cX4_cutOut 14 = .ok (.iaload, 1) := by decide +kernel
theorem dX4_cutOut_15 : decode cX4_cutOut 15 = .ok (.iload_n 1, 1) := by decide +kernel
theorem dX4_cutOut_16 : decode cX4_cutOut 16 = .ok (.isub, 1) := by decide +kernel
theorem dX4_cutOut_17 : decode cX4_cutOut 17 = .ok (.iload_n 2, 1) := by decide +kernel
theorem dX4_cutOut_18 : decode cX4_cutOut 18 = .ok (.isub, 1) := by decide +kernel
theorem dX4_cutOut_19 : decode cX4_cutOut 19 = .ok (.invokestatic 68, 3) := by decide +kernel
theorem dX4_cutOut_22 : decode cX4_cutOut 22 = .ok (.aload_n 0, 1) := by decide +kernel
theorem dX4_cutOut_23 : decode cX4_cutOut 23 = .ok (.bipush 65, 2) := by decide +kernel
theorem dX4_cutOut_25 : decode cX4_cutOut 25 = .ok (.iload_n 1, 1) := by decide +kernel
theorem dX4_cutOut_26 : decode cX4_cutOut 26 = .ok (.iadd, 1) := by decide +kernel
theorem dX4_cutOut_27 : decode cX4_cutOut 27 = .ok (.iload_n 2, 1) := by decide +kernel
theorem dX4_cutOut_28 : decode cX4_cutOut 28 = .ok (.iadd, 1) := by decide +kernel
theorem dX4_cutOut_29 : decode cX4_cutOut 29 = .ok (.aload_n 0, 1) := by decide +kernel
theorem dX4_cutOut_30 : decode cX4_cutOut 30 = .ok (.bipush 65, 2) := by decide +kernel
theorem dX4_cutOut_32 : decode cX4_cutOut 32 = .ok (.iload_n 1, 1) := by decide +kernel
theorem dX4_cutOut_33 : decode cX4_cutOut 33 = .ok (.iadd, 1) := by decide +kernel
theorem dX4_cutOut_34 : decode cX4_cutOut 34 = .ok (.aload_n 0, 1) := by decide +kernel
theorem dX4_cutOut_35 : decode cX4_cutOut 35 = .ok (.iconst 0, 1) := by decide +kernel
theorem dX4_cutOut_36 : decode cX4_cutOut 36 = .ok (.iaload, 1) := by decide +kernel
theorem dX4_cutOut_37 : decode cX4_cutOut 37 = .ok (.iload_n 1, 1) := by decide +kernel
theorem dX4_cutOut_38 : decode cX4_cutOut 38 = .ok (.isub, 1) := by decide +kernel
theorem dX4_cutOut_39 : decode cX4_cutOut 39 = .ok (.iload_n 2, 1) := by decide +kernel
theorem dX4_cutOut_40 : decode cX4_cutOut 40 = .ok (.isub, 1) := by decide +kernel
theorem dX4_cutOut_41 : decode cX4_cutOut 41 = .ok (.invokestatic 68, 3) := by decide +kernel
theorem dX4_cutOut_44 : decode cX4_cutOut 44 = .ok (.aload_n 0, 1) := by decide +kernel
theorem dX4_cutOut_45 : decode cX4_cutOut 45 = .ok (.iconst 0, 1) := by decide +kernel
theorem dX4_cutOut_46 : decode cX4_cutOut 46 = .ok (.dup2, 1) := by decide +kernel
theorem dX4_cutOut_47 : decode cX4_cutOut 47 = .ok (.iaload, 1) := by decide +kernel
theorem dX4_cutOut_48 : decode cX4_cutOut 48 = .ok (.iload_n 2, 1) := by decide +kernel
theorem dX4_cutOut_49 : decode cX4_cutOut 49 = .ok (.isub, 1) := by decide +kernel
theorem dX4_cutOut_50 : decode cX4_cutOut 50 = .ok (.iastore, 1) := by decide +kernel
theorem dX4_cutOut_51 : decode cX4_cutOut 51 = .ok (.return_, 1) := by decide +kernel
theorem dX4_strikeIn_0 : decode cX4_strikeIn 0 = .ok (.aload_n 0, 1) := by decide +kernel
theorem dX4_strikeIn_1 : decode cX4_strikeIn 1 = .ok (.bipush 35, 2) := by decide +kernel
theorem dX4_strikeIn_3 : decode cX4_strikeIn 3 = .ok (.iload_n 1, 1) := by decide +kernel
theorem dX4_strikeIn_4 : decode cX4_strikeIn 4 = .ok (.iadd, 1) := by decide +kernel
theorem dX4_strikeIn_5 : decode cX4_strikeIn 5 = .ok (.iaload, 1) := by decide +kernel
theorem dX4_strikeIn_6 : decode cX4_strikeIn 6 = .ok (.istore_n 2, 1) := by decide +kernel
theorem dX4_strikeIn_7 : decode cX4_strikeIn 7 = .ok (.aload_n 0, 1) := by decide +kernel
theorem dX4_strikeIn_8 : decode cX4_strikeIn 8 = .ok (.iload_n 1, 1) := by decide +kernel
theorem dX4_strikeIn_9 : decode cX4_strikeIn 9 = .ok (.iconst 1, 1) := by decide +kernel
theorem dX4_strikeIn_10 : decode cX4_strikeIn 10 = .ok (.invokestatic 122, 3) := by decide +kernel
theorem dX4_strikeIn_13 : decode cX4_strikeIn 13 = .ok (.iload_n 1, 1) := by decide +kernel
theorem dX4_strikeIn_14 : decode cX4_strikeIn 14 = .ok (.aload_n 0, 1) := by decide +kernel
theorem dX4_strikeIn_15 : decode cX4_strikeIn 15 = .ok (.iconst 0, 1) := by decide +kernel
theorem dX4_strikeIn_16 : decode cX4_strikeIn 16 = .ok (.iaload, 1) := by decide +kernel
theorem dX4_strikeIn_17 : decode cX4_strikeIn 17 = .ok (.if_icmp .ge 30, 3) := by decide +kernel
theorem dX4_strikeIn_20 : decode cX4_strikeIn 20 = .ok (.aload_n 0, 1) := by decide +kernel
theorem dX4_strikeIn_21 : decode cX4_strikeIn 21 = .ok (.bipush 35, 2) := by decide +kernel
theorem dX4_strikeIn_23 : decode cX4_strikeIn 23 = .ok (.iload_n 1, 1) := by decide +kernel
theorem dX4_strikeIn_24 : decode cX4_strikeIn 24 = .ok (.iadd, 1) := by decide +kernel
theorem dX4_strikeIn_25 : decode cX4_strikeIn 25 = .ok (.iaload, 1) := by decide +kernel
theorem dX4_strikeIn_26 : decode cX4_strikeIn 26 = .ok (.iload_n 2, 1) := by decide +kernel
theorem dX4_strikeIn_27 : decode cX4_strikeIn 27 = .ok (.iadd, 1) := by decide +kernel
theorem dX4_strikeIn_28 : decode cX4_strikeIn 28 = .ok (.istore_n 3, 1) := by decide +kernel
theorem dX4_strikeIn_29 : decode cX4_strikeIn 29 = .ok (.aload_n 0, 1) := by decide +kernel
theorem dX4_strikeIn_30 : decode cX4_strikeIn 30 = .ok (.bipush 35, 2) := by decide +kernel
theorem dX4_strikeIn_32 : decode cX4_strikeIn 32 = .ok (.iload_n 1, 1) := by decide +kernel
theorem dX4_strikeIn_33 : decode cX4_strikeIn 33 = .ok (.iadd, 1) := by decide +kernel
theorem dX4_strikeIn_34 : decode cX4_strikeIn 34 = .ok (.iload_n 3, 1) := by decide +kernel
theorem dX4_strikeIn_35 : decode cX4_strikeIn 35 = .ok (.bipush 60, 2) := by decide +kernel
theorem dX4_strikeIn_37 : decode cX4_strikeIn 37 = .ok (.if_icmp .le 8, 3) := by decide +kernel
theorem dX4_strikeIn_40 : decode cX4_strikeIn 40 = .ok (.bipush 60, 2) := by decide +kernel
theorem dX4_strikeIn_42 : decode cX4_strikeIn 42 = .ok (.goto 4, 3) := by decide +kernel
theorem dX4_strikeIn_45 : decode cX4_strikeIn 45 = .ok (.iload_n 3, 1) := by decide +kernel
theorem dX4_strikeIn_46 : decode cX4_strikeIn 46 = .ok (.iastore, 1) := by decide +kernel
theorem dX4_strikeIn_47 : decode cX4_strikeIn 47 = .ok (.aload_n 0, 1) := by decide +kernel
theorem dX4_strikeIn_48 : decode cX4_strikeIn 48 = .ok (.iconst 0, 1) := by decide +kernel
theorem dX4_strikeIn_49 : decode cX4_strikeIn 49 = .ok (.iaload, 1) := by decide +kernel
theorem dX4_strikeIn_50 : decode cX4_strikeIn 50 = .ok (.ireturn, 1) := by decide +kernel
theorem dX4_leaveIn_0 : decode cX4_leaveIn 0 = .ok (.aload_n 0, 1) := by decide +kernel
theorem dX4_leaveIn_1 : decode cX4_leaveIn 1 = .ok (.aload_n 1, 1) := by decide +kernel
theorem dX4_leaveIn_2 : decode cX4_leaveIn 2 = .ok (.invokevirtual 125, 3) := by decide +kernel
theorem dX4_leaveIn_5 : decode cX4_leaveIn 5 = .ok (.aload_n 0, 1) := by decide +kernel
theorem dX4_leaveIn_6 : decode cX4_leaveIn 6 = .ok (.getfield 50, 3) := by decide +kernel
theorem dX4_leaveIn_9 : decode cX4_leaveIn 9 = .ok (.iconst 1, 1) := by decide +kernel
theorem dX4_leaveIn_10 : decode cX4_leaveIn 10 = .ok (.iaload, 1) := by decide +kernel
theorem dX4_leaveIn_11 : decode cX4_leaveIn 11 = .ok (.istore_n 2, 1) := by decide +kernel
theorem dX4_leaveIn_12 : decode cX4_leaveIn 12 = .ok (.iconst 0, 1) := by decide +kernel
theorem dX4_leaveIn_13 : decode cX4_leaveIn 13 = .ok (.istore_n 3, 1) := by decide +kernel
theorem dX4_leaveIn_14 : decode cX4_leaveIn 14 = .ok (.iconst 0, 1) := by decide +kernel
theorem dX4_leaveIn_15 : decode cX4_leaveIn 15 = .ok (.istore 4, 2) := by decide +kernel
theorem dX4_leaveIn_17 : decode cX4_leaveIn 17 = .ok (.iload 4, 2) := by decide +kernel
theorem dX4_leaveIn_19 : decode cX4_leaveIn 19 = .ok (.aload_n 0, 1) := by decide +kernel
theorem dX4_leaveIn_20 : decode cX4_leaveIn 20 = .ok (.getfield 99, 3) := by decide +kernel
theorem dX4_leaveIn_23 : decode cX4_leaveIn 23 = .ok (.if_icmp .ge 38, 3) := by decide +kernel
theorem dX4_leaveIn_26 : decode cX4_leaveIn 26 = .ok (.iload_n 3, 1) := by decide +kernel
theorem dX4_leaveIn_27 : decode cX4_leaveIn 27 = .ok (.aload_n 0, 1) := by decide +kernel
theorem dX4_leaveIn_28 : decode cX4_leaveIn 28 = .ok (.getfield 56, 3) := by decide +kernel
theorem dX4_leaveIn_31 : decode cX4_leaveIn 31 = .ok (.iload 4, 2) := by decide +kernel
theorem dX4_leaveIn_33 : decode cX4_leaveIn 33 = .ok (.iaload, 1) := by decide +kernel
theorem dX4_leaveIn_34 : decode cX4_leaveIn 34 = .ok (.iload_n 2, 1) := by decide +kernel
theorem dX4_leaveIn_35 : decode cX4_leaveIn 35 = .ok (.if_icmp .ge 17, 3) := by decide +kernel
theorem dX4_leaveIn_38 : decode cX4_leaveIn 38 = .ok (.aload_n 1, 1) := by decide +kernel
theorem dX4_leaveIn_39 : decode cX4_leaveIn 39 = .ok (.aload_n 0, 1) := by decide +kernel
theorem dX4_leaveIn_40 : decode cX4_leaveIn 40 = .ok (.getfield 56, 3) := by decide +kernel
theorem dX4_leaveIn_43 : decode cX4_leaveIn 43 = .ok (.iload 4, 2) := by decide +kernel
theorem dX4_leaveIn_45 : decode cX4_leaveIn 45 = .ok (.iaload, 1) := by decide +kernel
theorem dX4_leaveIn_46 : decode cX4_leaveIn 46 = .ok (.invokestatic 115, 3) := by decide +kernel
theorem dX4_leaveIn_49 : decode cX4_leaveIn 49 = .ok (.goto 4, 3) := by decide +kernel
theorem dX4_leaveIn_52 : decode cX4_leaveIn 52 = .ok (.iconst 0, 1) := by decide +kernel
theorem dX4_leaveIn_53 : decode cX4_leaveIn 53 = .ok (.iadd, 1) := by decide +kernel
theorem dX4_leaveIn_54 : decode cX4_leaveIn 54 = .ok (.istore_n 3, 1) := by decide +kernel
theorem dX4_leaveIn_55 : decode cX4_leaveIn 55 = .ok (.iinc 4 1, 3) := by decide +kernel
theorem dX4_leaveIn_58 : decode cX4_leaveIn 58 = .ok (.goto (-41), 3) := by decide +kernel
theorem dX4_leaveIn_61 : decode cX4_leaveIn 61 = .ok (.aload_n 1, 1) := by decide +kernel
theorem dX4_leaveIn_62 : decode cX4_leaveIn 62 = .ok (.iconst 0, 1) := by decide +kernel
theorem dX4_leaveIn_63 : decode cX4_leaveIn 63 = .ok (.iload_n 2, 1) := by decide +kernel
theorem dX4_leaveIn_64 : decode cX4_leaveIn 64 = .ok (.invokestatic 122, 3) := by decide +kernel
theorem dX4_leaveIn_67 : decode cX4_leaveIn 67 = .ok (.aload_n 1, 1) := by decide +kernel
theorem dX4_leaveIn_68 : decode cX4_leaveIn 68 = .ok (.bipush 6, 2) := by decide +kernel
theorem dX4_leaveIn_70 : decode cX4_leaveIn 70 = .ok (.aload_n 1, 1) := by decide +kernel
theorem dX4_leaveIn_71 : decode cX4_leaveIn 71 = .ok (.iconst 5, 1) := by decide +kernel
theorem dX4_leaveIn_72 : decode cX4_leaveIn 72 = .ok (.bipush 29, 2) := by decide +kernel
theorem dX4_leaveIn_74 : decode cX4_leaveIn 74 = .ok (.invokestatic 68, 3) := by decide +kernel
theorem dX4_leaveIn_77 : decode cX4_leaveIn 77 = .ok (.aload_n 1, 1) := by decide +kernel
theorem dX4_leaveIn_78 : decode cX4_leaveIn 78 = .ok (.bipush 34, 2) := by decide +kernel
theorem dX4_leaveIn_80 : decode cX4_leaveIn 80 = .ok (.iconst 0, 1) := by decide +kernel
theorem dX4_leaveIn_81 : decode cX4_leaveIn 81 = .ok (.iastore, 1) := by decide +kernel
theorem dX4_leaveIn_82 : decode cX4_leaveIn 82 = .ok (.iload_n 3, 1) := by decide +kernel
theorem dX4_leaveIn_83 : decode cX4_leaveIn 83 = .ok (.ireturn, 1) := by decide +kernel
theorem dX4_append_0 : decode cX4_append 0 = .ok (.aload_n 0, 1) := by decide +kernel
theorem dX4_append_1 : decode cX4_append 1 = .ok (.iload_n 1, 1) := by decide +kernel
theorem dX4_append_2 : decode cX4_append 2 = .ok (.i2l, 1) := by decide +kernel
theorem dX4_append_3 : decode cX4_append 3 = .ok (.lconst 0, 1) := by decide +kernel
theorem dX4_append_4 : decode cX4_append 4 = .ok (.ldc2_w 129, 3) := by decide +kernel
theorem dX4_append_7 : decode cX4_append 7 = .ok (.invokestatic 118, 3) := by decide +kernel
theorem dX4_append_10 : decode cX4_append 10 = .ok (.ifCond .ne 7, 3) := by decide +kernel
theorem dX4_append_13 : decode cX4_append 13 = .ok (.iconst 1, 1) := by decide +kernel
theorem dX4_append_14 : decode cX4_append 14 = .ok (.goto 17, 3) := by decide +kernel
theorem dX4_append_17 : decode cX4_append 17 = .ok (.aload_n 0, 1) := by decide +kernel
theorem dX4_append_18 : decode cX4_append 18 = .ok (.getfield 131, 3) := by decide +kernel
theorem dX4_append_21 : decode cX4_append 21 = .ok (.bipush 120, 2) := by decide +kernel
theorem dX4_append_23 : decode cX4_append 23 = .ok (.if_icmp .ne 7, 3) := by decide +kernel
theorem dX4_append_26 : decode cX4_append 26 = .ok (.iconst 2, 1) := by decide +kernel
theorem dX4_append_27 : decode cX4_append 27 = .ok (.goto 4, 3) := by decide +kernel
theorem dX4_append_30 : decode cX4_append 30 = .ok (.iconst 0, 1) := by decide +kernel
theorem dX4_append_31 : decode cX4_append 31 = .ok (.invokevirtual 134, 3) := by decide +kernel
theorem dX4_append_34 : decode cX4_append 34 = .ok (.ifCond .eq 5, 3) := by decide +kernel
theorem dX4_append_37 : decode cX4_append 37 = .ok (.iconst 0, 1) := by decide +kernel
theorem dX4_append_38 : decode cX4_append 38 = .ok (.ireturn, 1) := by decide +kernel
theorem dX4_append_39 : decode cX4_append 39 = .ok (.aload_n 0, 1) := by decide +kernel
theorem dX4_append_40 : decode cX4_append 40 = .ok (.getfield 7, 3) := by decide +kernel
theorem dX4_append_43 : decode cX4_append 43 = .ok (.aload_n 0, 1) := by decide +kernel
theorem dX4_append_44 : decode cX4_append 44 = .ok (.getfield 131, 3) := by decide +kernel
theorem dX4_append_47 : decode cX4_append 47 = .ok (.iload_n 1, 1) := by decide +kernel
theorem dX4_append_48 : decode cX4_append 48 = .ok (.iastore, 1) := by decide +kernel
theorem dX4_append_49 : decode cX4_append 49 = .ok (.aload_n 0, 1) := by decide +kernel
theorem dX4_append_50 : decode cX4_append 50 = .ok (.dup, 1) := by decide +kernel
theorem dX4_append_51 : decode cX4_append 51 = .ok (.getfield 131, 3) := by decide +kernel
theorem dX4_append_54 : decode cX4_append 54 = .ok (.iconst 1, 1) := by decide +kernel
theorem dX4_append_55 : decode cX4_append 55 = .ok (.iadd, 1) := by decide +kernel
theorem dX4_append_56 : decode cX4_append 56 = .ok (.putfield 131, 3) := by decide +kernel
theorem dX4_append_59 : decode cX4_append 59 = .ok (.aload_n 0, 1) := by decide +kernel
theorem dX4_append_60 : decode cX4_append 60 = .ok (.getfield 131, 3) := by decide +kernel
theorem dX4_append_63 : decode cX4_append 63 = .ok (.ireturn, 1) := by decide +kernel
theorem dX4_clearText_0 : decode cX4_clearText 0 = .ok (.aload_n 0, 1) := by decide +kernel
theorem dX4_clearText_1 : decode cX4_clearText 1 = .ok (.iconst 0, 1) := by decide +kernel
theorem dX4_clearText_2 : decode cX4_clearText 2 = .ok (.putfield 59, 3) := by decide +kernel
theorem dX4_clearText_5 : decode cX4_clearText 5 = .ok (.aload_n 0, 1) := by decide +kernel
theorem dX4_clearText_6 : decode cX4_clearText 6 = .ok (.getfield 131, 3) := by decide +kernel
theorem dX4_clearText_9 : decode cX4_clearText 9 = .ok (.istore_n 1, 1) := by decide +kernel
theorem dX4_clearText_10 : decode cX4_clearText 10 = .ok (.aload_n 0, 1) := by decide +kernel
theorem dX4_clearText_11 : decode cX4_clearText 11 = .ok (.iconst 0, 1) := by decide +kernel
theorem dX4_clearText_12 : decode cX4_clearText 12 = .ok (.putfield 131, 3) := by decide +kernel
theorem dX4_clearText_15 : decode cX4_clearText 15 = .ok (.iload_n 1, 1) := by decide +kernel
theorem dX4_clearText_16 : decode cX4_clearText 16 = .ok (.ireturn, 1) := by decide +kernel
theorem dX4_isNext_0 : decode cX4_isNext 0 = .ok (.aload_n 0, 1) := by decide +kernel
theorem dX4_isNext_1 : decode cX4_isNext 1 = .ok (.getfield 138, 3) := by decide +kernel
theorem dX4_isNext_4 : decode cX4_isNext 4 = .ok (.aload_n 0, 1) := by decide +kernel
theorem dX4_isNext_5 : decode cX4_isNext 5 = .ok (.getfield 131, 3) := by decide +kernel
theorem dX4_isNext_8 : decode cX4_isNext 8 = .ok (.if_icmp .ge 20, 3) := by decide +kernel
theorem dX4_isNext_11 : decode cX4_isNext 11 = .ok (.aload_n 0, 1) := by decide +kernel
theorem dX4_isNext_12 : decode cX4_isNext 12 = .ok (.getfield 7, 3) := by decide +kernel
theorem dX4_isNext_15 : decode cX4_isNext 15 = .ok (.aload_n 0, 1) := by decide +kernel
theorem dX4_isNext_16 : decode cX4_isNext 16 = .ok (.getfield 138, 3) := by decide +kernel
theorem dX4_isNext_19 : decode cX4_isNext 19 = .ok (.iaload, 1) := by decide +kernel
theorem dX4_isNext_20 : decode cX4_isNext 20 = .ok (.iload_n 1, 1) := by decide +kernel
theorem dX4_isNext_21 : decode cX4_isNext 21 = .ok (.if_icmp .ne 7, 3) := by decide +kernel
theorem dX4_isNext_24 : decode cX4_isNext 24 = .ok (.iconst 1, 1) := by decide +kernel
theorem dX4_isNext_25 : decode cX4_isNext 25 = .ok (.goto 4, 3) := by decide +kernel
theorem dX4_isNext_28 : decode cX4_isNext 28 = .ok (.iconst 0, 1) := by decide +kernel
theorem dX4_isNext_29 : decode cX4_isNext 29 = .ok (.ireturn, 1) := by decide +kernel
theorem dX4_digitAt_0 : decode cX4_digitAt 0 = .ok (.iload_n 1, 1) := by decide +kernel
theorem dX4_digitAt_1 : decode cX4_digitAt 1 = .ok (.aload_n 0, 1) := by decide +kernel
theorem dX4_digitAt_2 : decode cX4_digitAt 2 = .ok (.getfield 131, 3) := by decide +kernel
theorem dX4_digitAt_5 : decode cX4_digitAt 5 = .ok (.if_icmp .ge 34, 3) := by decide +kernel
theorem dX4_digitAt_8 : decode cX4_digitAt 8 = .ok (.aload_n 0, 1) := by decide +kernel
theorem dX4_digitAt_9 : decode cX4_digitAt 9 = .ok (.getfield 7, 3) := by decide +kernel
theorem dX4_digitAt_12 : decode cX4_digitAt 12 = .ok (.iload_n 1, 1) := by decide +kernel
theorem dX4_digitAt_13 : decode cX4_digitAt 13 = .ok (.iaload, 1) := by decide +kernel
theorem dX4_digitAt_14 : decode cX4_digitAt 14 = .ok (.i2l, 1) := by decide +kernel
theorem dX4_digitAt_15 : decode cX4_digitAt 15 = .ok (.ldc2_w 141, 3) := by decide +kernel
theorem dX4_digitAt_18 : decode cX4_digitAt 18 = .ok (.ldc2_w 143, 3) := by decide +kernel
theorem dX4_digitAt_21 : decode cX4_digitAt 21 = .ok (.invokestatic 118, 3) := by decide +kernel
theorem dX4_digitAt_24 : decode cX4_digitAt 24 = .ok (.ifCond .eq 15, 3) := by decide +kernel
theorem dX4_digitAt_27 : decode cX4_digitAt 27 = .ok (.aload_n 0, 1) := by decide +kernel
theorem dX4_digitAt_28 : decode cX4_digitAt 28 = .ok (.getfield 7, 3) := by decide +kernel
theorem dX4_digitAt_31 : decode cX4_digitAt 31 = .ok (.iload_n 1, 1) := by decide +kernel
theorem dX4_digitAt_32 : decode cX4_digitAt 32 = .ok (.iaload, 1) := by decide +kernel
theorem dX4_digitAt_33 : decode cX4_digitAt 33 = .ok (.bipush 48, 2) := by decide +kernel
theorem dX4_digitAt_35 : decode cX4_digitAt 35 = .ok (.isub, 1) := by decide +kernel
theorem dX4_digitAt_36 : decode cX4_digitAt 36 = .ok (.goto 4, 3) := by decide +kernel
theorem dX4_digitAt_39 : decode cX4_digitAt 39 = .ok (.iconst (-1), 1) := by decide +kernel
theorem dX4_digitAt_40 : decode cX4_digitAt 40 = .ok (.ireturn, 1) := by decide +kernel
theorem dX4_accept_0 : decode cX4_accept 0 = .ok (.aload_n 0, 1) := by decide +kernel
theorem dX4_accept_1 : decode cX4_accept 1 = .ok (.aload_n 0, 1) := by decide +kernel
theorem dX4_accept_2 : decode cX4_accept 2 = .ok (.getfield 145, 3) := by decide +kernel
theorem dX4_accept_5 : decode cX4_accept 5 = .ok (.ifCond .eq 11, 3) := by decide +kernel
theorem dX4_accept_8 : decode cX4_accept 8 = .ok (.iload_n 1, 1) := by decide +kernel
theorem dX4_accept_9 : decode cX4_accept 9 = .ok (.ifCond .eq 7, 3) := by decide +kernel
theorem dX4_accept_12 : decode cX4_accept 12 = .ok (.iconst 1, 1) := by decide +kernel
theorem dX4_accept_13 : decode cX4_accept 13 = .ok (.goto 4, 3) := by decide +kernel
theorem dX4_accept_16 : decode cX4_accept 16 = .ok (.iconst 0, 1) := by decide +kernel
theorem dX4_accept_17 : decode cX4_accept 17 = .ok (.putfield 145, 3) := by decide +kernel
theorem dX4_accept_20 : decode cX4_accept 20 = .ok (.aload_n 0, 1) := by decide +kernel
theorem dX4_accept_21 : decode cX4_accept 21 = .ok (.dup, 1) := by decide +kernel
theorem dX4_accept_22 : decode cX4_accept 22 = .ok (.getfield 138, 3) := by decide +kernel
theorem dX4_accept_25 : decode cX4_accept 25 = .ok (.aload_n 0, 1) := by decide +kernel
theorem dX4_accept_26 : decode cX4_accept 26 = .ok (.getfield 145, 3) := by decide +kernel
theorem dX4_accept_29 : decode cX4_accept 29 = .ok (.ifCond .eq 7, 3) := by decide +kernel
theorem dX4_accept_32 : decode cX4_accept 32 = .ok (.iconst 1, 1) := by decide +kernel
theorem dX4_accept_33 : decode cX4_accept 33 = .ok (.goto 4, 3) := by decide +kernel
theorem dX4_accept_36 : decode cX4_accept 36 = .ok (.iconst 0, 1) := by decide +kernel
theorem dX4_accept_37 : decode cX4_accept 37 = .ok (.iadd, 1) := by decide +kernel
theorem dX4_accept_38 : decode cX4_accept 38 = .ok (.putfield 138, 3) := by decide +kernel
theorem dX4_accept_41 : decode cX4_accept 41 = .ok (.return_, 1) := by decide +kernel
theorem dX4_digit_0 : decode cX4_digit 0 = .ok (.aload_n 0, 1) := by decide +kernel
theorem dX4_digit_1 : decode cX4_digit 1 = .ok (.aload_n 0, 1) := by decide +kernel
theorem dX4_digit_2 : decode cX4_digit 2 = .ok (.getfield 138, 3) := by decide +kernel
theorem dX4_digit_5 : decode cX4_digit 5 = .ok (.invokevirtual 149, 3) := by decide +kernel
theorem dX4_digit_8 : decode cX4_digit 8 = .ok (.istore_n 3, 1) := by decide +kernel
theorem dX4_digit_9 : decode cX4_digit 9 = .ok (.aload_n 0, 1) := by decide +kernel
theorem dX4_digit_10 : decode cX4_digit 10 = .ok (.iload_n 3, 1) := by decide +kernel
theorem dX4_digit_11 : decode cX4_digit 11 = .ok (.iconst (-1), 1) := by decide +kernel
theorem dX4_digit_12 : decode cX4_digit 12 = .ok (.if_icmp .eq 19, 3) := by decide +kernel
theorem dX4_digit_15 : decode cX4_digit 15 = .ok (.iload_n 3, 1) := by decide +kernel
theorem dX4_digit_16 : decode cX4_digit 16 = .ok (.i2l, 1) := by decide +kernel
theorem dX4_digit_17 : decode cX4_digit 17 = .ok (.iload_n 1, 1) := by decide +kernel
theorem dX4_digit_18 : decode cX4_digit 18 = .ok (.i2l, 1) := by decide +kernel
theorem dX4_digit_19 : decode cX4_digit 19 = .ok (.iload_n 2, 1) := by decide +kernel
theorem dX4_digit_20 : decode cX4_digit 20 = .ok (.i2l, 1) := by decide +kernel
theorem dX4_digit_21 : decode cX4_digit 21 = .ok (.invokestatic 118, 3) := by decide +kernel
theorem dX4_digit_24 : decode cX4_digit 24 = .ok (.ifCond .eq 7, 3) := by decide +kernel
theorem dX4_digit_27 : decode cX4_digit 27 = .ok (.iconst 1, 1) := by decide +kernel
theorem dX4_digit_28 : decode cX4_digit 28 = .ok (.goto 4, 3) := by decide +kernel
theorem dX4_digit_31 : decode cX4_digit 31 = .ok (.iconst 0, 1) := by decide +kernel
theorem dX4_digit_32 : decode cX4_digit 32 = .ok (.invokevirtual 152, 3) := by decide +kernel
theorem dX4_digit_35 : decode cX4_digit 35 = .ok (.aload_n 0, 1) := by decide +kernel
theorem dX4_digit_36 : decode cX4_digit 36 = .ok (.getfield 145, 3) := by decide +kernel
theorem dX4_digit_39 : decode cX4_digit 39 = .ok (.ifCond .eq 7, 3) := by decide +kernel
theorem dX4_digit_42 : decode cX4_digit 42 = .ok (.iload_n 3, 1) := by decide +kernel
theorem dX4_digit_43 : decode cX4_digit 43 = .ok (.goto 4, 3) := by decide +kernel
theorem dX4_digit_46 : decode cX4_digit 46 = .ok (.iload_n 1, 1) := by decide +kernel
theorem dX4_digit_47 : decode cX4_digit 47 = .ok (.ireturn, 1) := by decide +kernel
theorem dX4_take_0 : decode cX4_take 0 = .ok (.aload_n 0, 1) := by decide +kernel
theorem dX4_take_1 : decode cX4_take 1 = .ok (.getfield 156, 3) := by decide +kernel
theorem dX4_take_4 : decode cX4_take 4 = .ok (.bipush 30, 2) := by decide +kernel
theorem dX4_take_6 : decode cX4_take 6 = .ok (.if_icmp .ge 23, 3) := by decide +kernel
theorem dX4_take_9 : decode cX4_take 9 = .ok (.aload_n 0, 1) := by decide +kernel
theorem dX4_take_10 : decode cX4_take 10 = .ok (.getfield 13, 3) := by decide +kernel
theorem dX4_take_13 : decode cX4_take 13 = .ok (.aload_n 0, 1) := by decide +kernel
theorem dX4_take_14 : decode cX4_take 14 = .ok (.getfield 156, 3) := by decide +kernel
theorem dX4_take_17 : decode cX4_take 17 = .ok (.iload_n 1, 1) := by decide +kernel
theorem dX4_take_18 : decode cX4_take 18 = .ok (.iastore, 1) := by decide +kernel
theorem dX4_take_19 : decode cX4_take 19 = .ok (.aload_n 0, 1) := by decide +kernel
theorem dX4_take_20 : decode cX4_take 20 = .ok (.getfield 16, 3) := by decide +kernel
theorem dX4_take_23 : decode cX4_take 23 = .ok (.aload_n 0, 1) := by decide +kernel
theorem dX4_take_24 : decode cX4_take 24 = .ok (.getfield 156, 3) := by decide +kernel
theorem dX4_take_27 : decode cX4_take 27 = .ok (.iload_n 2, 1) := by decide +kernel
theorem dX4_take_28 : decode cX4_take 28 = .ok (.iastore, 1) := by decide +kernel
theorem dX4_take_29 : decode cX4_take 29 = .ok (.aload_n 0, 1) := by decide +kernel
theorem dX4_take_30 : decode cX4_take 30 = .ok (.dup, 1) := by decide +kernel
theorem dX4_take_31 : decode cX4_take 31 = .ok (.getfield 156, 3) := by decide +kernel
theorem dX4_take_34 : decode cX4_take 34 = .ok (.iconst 1, 1) := by decide +kernel
theorem dX4_take_35 : decode cX4_take 35 = .ok (.iadd, 1) := by decide +kernel
theorem dX4_take_36 : decode cX4_take 36 = .ok (.putfield 156, 3) := by decide +kernel
theorem dX4_take_39 : decode cX4_take 39 = .ok (.return_, 1) := by decide +kernel
theorem dX4_readAxle_0 : decode cX4_readAxle 0 = .ok (.aload_n 0, 1) := by decide +kernel
theorem dX4_readAxle_1 : decode cX4_readAxle 1 = .ok (.iconst 0, 1) := by decide +kernel
theorem dX4_readAxle_2 : decode cX4_readAxle 2 = .ok (.bipush 6, 2) := by decide +kernel
theorem dX4_readAxle_4 : decode cX4_readAxle 4 = .ok (.invokevirtual 159, 3) := by decide +kernel
theorem dX4_readAxle_7 : decode cX4_readAxle 7 = .ok (.istore_n 1, 1) := by decide +kernel
theorem dX4_readAxle_8 : decode cX4_readAxle 8 = .ok (.bipush 10, 2) := by decide +kernel
theorem dX4_readAxle_10 : decode cX4_readAxle 10 = .ok (.iload_n 1, 1) := by decide +kernel
theorem dX4_readAxle_11 : decode cX4_readAxle 11 = .ok (.imul, 1) := by decide +kernel
theorem dX4_readAxle_12 : decode cX4_readAxle 12 = .ok (.aload_n 0, 1) := by decide +kernel
theorem dX4_readAxle_13 : decode cX4_readAxle 13 = .ok (.iload_n 1, 1) := by decide +kernel
theorem dX4_readAxle_14 : decode cX4_readAxle 14 = .ok (.ifCond .ne 7, 3) := by decide +kernel
theorem dX4_readAxle_17 : decode cX4_readAxle 17 = .ok (.iconst 1, 1) := by decide +kernel
theorem dX4_readAxle_18 : decode cX4_readAxle 18 = .ok (.goto 4, 3) := by decide +kernel
theorem dX4_readAxle_21 : decode cX4_readAxle 21 = .ok (.iconst 0, 1) := by decide +kernel
theorem dX4_readAxle_22 : decode cX4_readAxle 22 = .ok (.iload_n 1, 1) := by decide +kernel
theorem dX4_readAxle_23 : decode cX4_readAxle 23 = .ok (.bipush 6, 2) := by decide +kernel
theorem dX4_readAxle_25 : decode cX4_readAxle 25 = .ok (.if_icmp .ne 7, 3) := by decide +kernel
theorem dX4_readAxle_28 : decode cX4_readAxle 28 = .ok (.iconst 0, 1) := by decide +kernel
theorem dX4_readAxle_29 : decode cX4_readAxle 29 = .ok (.goto 5, 3) := by decide +kernel
theorem dX4_readAxle_32 : decode cX4_readAxle 32 = .ok (.bipush 9, 2) := by decide +kernel
theorem dX4_readAxle_34 : decode cX4_readAxle 34 = .ok (.invokevirtual 159, 3) := by decide +kernel
theorem dX4_readAxle_37 : decode cX4_readAxle 37 = .ok (.iadd, 1) := by decide +kernel
theorem dX4_readAxle_38 : decode cX4_readAxle 38 = .ok (.istore_n 2, 1) := by decide +kernel
theorem dX4_readAxle_39 : decode cX4_readAxle 39 = .ok (.aload_n 0, 1) := by decide +kernel
theorem dX4_readAxle_40 : decode cX4_readAxle 40 = .ok (.iconst 0, 1) := by decide +kernel
theorem dX4_readAxle_41 : decode cX4_readAxle 41 = .ok (.bipush 9, 2) := by decide +kernel
theorem dX4_readAxle_43 : decode cX4_readAxle 43 = .ok (.invokevirtual 159, 3) := by decide +kernel
theorem dX4_readAxle_46 : decode cX4_readAxle 46 = .ok (.istore_n 3, 1) := by decide +kernel
theorem dX4_readAxle_47 : decode cX4_readAxle 47 = .ok (.bipush 10, 2) := by decide +kernel
theorem dX4_readAxle_49 : decode cX4_readAxle 49 = .ok (.iload_n 3, 1) := by decide +kernel
theorem dX4_readAxle_50 : decode cX4_readAxle 50 = .ok (.imul, 1) := by decide +kernel
theorem dX4_readAxle_51 : decode cX4_readAxle 51 = .ok (.aload_n 0, 1) := by decide +kernel
theorem dX4_readAxle_52 : decode cX4_readAxle 52 = .ok (.iload_n 3, 1) := by decide +kernel
theorem dX4_readAxle_53 : decode cX4_readAxle 53 = .ok (.ifCond .ne 7, 3) := by decide +kernel
theorem dX4_readAxle_56 : decode cX4_readAxle 56 = .ok (.iconst 1, 1) := by decide +kernel
theorem dX4_readAxle_57 : decode cX4_readAxle 57 = .ok (.goto 4, 3) := by decide +kernel
theorem dX4_readAxle_60 : decode cX4_readAxle 60 = .ok (.iconst 0, 1) := by decide +kernel
theorem dX4_readAxle_61 : decode cX4_readAxle 61 = .ok (.bipush 9, 2) := by decide +kernel
theorem dX4_readAxle_63 : decode cX4_readAxle 63 = .ok (.invokevirtual 159, 3) := by decide +kernel
theorem dX4_readAxle_66 : decode cX4_readAxle 66 = .ok (.iadd, 1) := by decide +kernel
theorem dX4_readAxle_67 : decode cX4_readAxle 67 = .ok (.istore 4, 2) := by decide +kernel
theorem dX4_readAxle_69 : decode cX4_readAxle 69 = .ok (.aload_n 0, 1) := by decide +kernel
theorem dX4_readAxle_70 : decode cX4_readAxle 70 = .ok (.getfield 145, 3) := by decide +kernel
theorem dX4_readAxle_73 : decode cX4_readAxle 73 = .ok (.ifCond .eq 23, 3) := by decide +kernel
theorem dX4_readAxle_76 : decode cX4_readAxle 76 = .ok (.aload_n 0, 1) := by decide +kernel
theorem dX4_readAxle_77 : decode cX4_readAxle 77 = .ok (.iload_n 2, 1) := by decide +kernel
theorem dX4_readAxle_78 : decode cX4_readAxle 78 = .ok (.iload 4, 2) := by decide +kernel
theorem dX4_readAxle_80 : decode cX4_readAxle 80 = .ok (.invokevirtual 163, 3) := by decide +kernel
theorem dX4_readAxle_83 : decode cX4_readAxle 83 = .ok (.aload_n 0, 1) := by decide +kernel
theorem dX4_readAxle_84 : decode cX4_readAxle 84 = .ok (.getfield 25, 3) := by decide +kernel
theorem dX4_readAxle_87 : decode cX4_readAxle 87 = .ok (.aload_n 0, 1) := by decide +kernel
theorem dX4_readAxle_88 : decode cX4_readAxle 88 = .ok (.getfield 167, 3) := by decide +kernel
theorem dX4_readAxle_91 : decode cX4_readAxle 91 = .ok (.dup2, 1) := by decide +kernel
theorem dX4_readAxle_92 : decode cX4_readAxle 92 = .ok (.iaload, 1) := by decide +kernel
theorem dX4_readAxle_93 : decode cX4_readAxle 93 = .ok (.iconst 1, 1) := by decide +kernel
theorem dX4_readAxle_94 : decode cX4_readAxle 94 = .ok (.iadd, 1) := by decide +kernel
theorem dX4_readAxle_95 : decode cX4_readAxle 95 = .ok (.iastore, 1) := by decide +kernel
theorem dX4_readAxle_96 : decode cX4_readAxle 96 = .ok (.return_, 1) := by decide +kernel
theorem dX4_openRow_0 : decode cX4_openRow 0 = .ok (.aload_n 0, 1) := by decide +kernel
theorem dX4_openRow_1 : decode cX4_openRow 1 = .ok (.iconst 2, 1) := by decide +kernel
theorem dX4_openRow_2 : decode cX4_openRow 2 = .ok (.bipush 9, 2) := by decide +kernel
theorem dX4_openRow_4 : decode cX4_openRow 4 = .ok (.invokevirtual 159, 3) := by decide +kernel
theorem dX4_openRow_7 : decode cX4_openRow 7 = .ok (.istore_n 1, 1) := by decide +kernel
theorem dX4_openRow_8 : decode cX4_openRow 8 = .ok (.aload_n 0, 1) := by decide +kernel
theorem dX4_openRow_9 : decode cX4_openRow 9 = .ok (.aload_n 0, 1) := by decide +kernel
theorem dX4_openRow_10 : decode cX4_openRow 10 = .ok (.getfield 167, 3) := by decide +kernel
theorem dX4_openRow_13 : decode cX4_openRow 13 = .ok (.iconst 3, 1) := by decide +kernel
theorem dX4_openRow_14 : decode cX4_openRow 14 = .ok (.if_icmp .ge 16, 3) := by decide +kernel
theorem dX4_openRow_17 : decode cX4_openRow 17 = .ok (.aload_n 0, 1) := by decide +kernel
theorem dX4_openRow_18 : decode cX4_openRow 18 = .ok (.bipush 40, 2) := by decide +kernel
theorem dX4_openRow_20 : decode cX4_openRow 20 = .ok (.invokevirtual 170, 3) := by decide +kernel
theorem dX4_openRow_23 : decode cX4_openRow 23 = .ok (.ifCond .eq 7, 3) := by decide +kernel
theorem dX4_openRow_26 : decode cX4_openRow 26 = .ok (.iconst 1, 1) := by decide +kernel
theorem dX4_openRow_27 : decode cX4_openRow 27 = .ok (.goto 4, 3) := by decide +kernel
theorem dX4_openRow_30 : decode cX4_openRow 30 = .ok (.iconst 0, 1) := by decide +kernel
theorem dX4_openRow_31 : decode cX4_openRow 31 = .ok (.invokevirtual 152, 3) := by decide +kernel
theorem dX4_openRow_34 : decode cX4_openRow 34 = .ok (.aload_n 0, 1) := by decide +kernel
theorem dX4_openRow_35 : decode cX4_openRow 35 = .ok (.getfield 145, 3) := by decide +kernel
theorem dX4_openRow_38 : decode cX4_openRow 38 = .ok (.ifCond .eq 46, 3) := by decide +kernel
theorem dX4_openRow_41 : decode cX4_openRow 41 = .ok (.aload_n 0, 1) := by decide +kernel
theorem dX4_openRow_42 : decode cX4_openRow 42 = .ok (.dup, 1) := by decide +kernel
theorem dX4_openRow_43 : decode cX4_openRow 43 = .ok (.getfield 167, 3) := by decide +kernel
theorem dX4_openRow_46 : decode cX4_openRow 46 = .ok (.iconst 1, 1) := by decide +kernel
theorem dX4_openRow_47 : decode cX4_openRow 47 = .ok (.iadd, 1) := by decide +kernel
theorem dX4_openRow_48 : decode cX4_openRow 48 = .ok (.putfield 167, 3) := by decide +kernel
theorem dX4_openRow_51 : decode cX4_openRow 51 = .ok (.aload_n 0, 1) := by decide +kernel
theorem dX4_openRow_52 : decode cX4_openRow 52 = .ok (.getfield 19, 3) := by decide +kernel
theorem dX4_openRow_55 : decode cX4_openRow 55 = .ok (.aload_n 0, 1) := by decide +kernel
theorem dX4_openRow_56 : decode cX4_openRow 56 = .ok (.getfield 167, 3) := by decide +kernel
theorem dX4_openRow_59 : decode cX4_openRow 59 = .ok (.aload_n 0, 1) := by decide +kernel
theorem dX4_openRow_60 : decode cX4_openRow 60 = .ok (.getfield 156, 3) := by decide +kernel
theorem dX4_openRow_63 : decode cX4_openRow 63 = .ok (.iastore, 1) := by decide +kernel
theorem dX4_openRow_64 : decode cX4_openRow 64 = .ok (.aload_n 0, 1) := by decide +kernel
theorem dX4_openRow_65 : decode cX4_openRow 65 = .ok (.getfield 22, 3) := by decide +kernel
theorem dX4_openRow_68 : decode cX4_openRow 68 = .ok (.aload_n 0, 1) := by decide +kernel
theorem dX4_openRow_69 : decode cX4_openRow 69 = .ok (.getfield 167, 3) := by decide +kernel
theorem dX4_openRow_72 : decode cX4_openRow 72 = .ok (.iload_n 1, 1) := by decide +kernel
theorem dX4_openRow_73 : decode cX4_openRow 73 = .ok (.iastore, 1) := by decide +kernel
theorem dX4_openRow_74 : decode cX4_openRow 74 = .ok (.aload_n 0, 1) := by decide +kernel
theorem dX4_openRow_75 : decode cX4_openRow 75 = .ok (.getfield 25, 3) := by decide +kernel
theorem dX4_openRow_78 : decode cX4_openRow 78 = .ok (.aload_n 0, 1) := by decide +kernel
theorem dX4_openRow_79 : decode cX4_openRow 79 = .ok (.getfield 167, 3) := by decide +kernel
theorem dX4_openRow_82 : decode cX4_openRow 82 = .ok (.iconst 0, 1) := by decide +kernel
theorem dX4_openRow_83 : decode cX4_openRow 83 = .ok (.iastore, 1) := by decide +kernel
theorem dX4_openRow_84 : decode cX4_openRow 84 = .ok (.return_, 1) := by decide +kernel
theorem dX4_closeRow_0 : decode cX4_closeRow 0 = .ok (.aload_n 0, 1) := by decide +kernel
theorem dX4_closeRow_1 : decode cX4_closeRow 1 = .ok (.aload_n 0, 1) := by decide +kernel
theorem dX4_closeRow_2 : decode cX4_closeRow 2 = .ok (.getfield 25, 3) := by decide +kernel
theorem dX4_closeRow_5 : decode cX4_closeRow 5 = .ok (.aload_n 0, 1) := by decide +kernel
theorem dX4_closeRow_6 : decode cX4_closeRow 6 = .ok (.getfield 167, 3) := by decide +kernel
theorem dX4_closeRow_9 : decode cX4_closeRow 9 = .ok (.iaload, 1) := by decide +kernel
theorem dX4_closeRow_10 : decode cX4_closeRow 10 = .ok (.ifCond .le 7, 3) := by decide +kernel
theorem dX4_closeRow_13 : decode cX4_closeRow 13 = .ok (.iconst 1, 1) := by decide +kernel
theorem dX4_closeRow_14 : decode cX4_closeRow 14 = .ok (.goto 4, 3) := by decide +kernel
theorem dX4_closeRow_17 : decode cX4_closeRow 17 = .ok (.iconst 0, 1) := by decide +kernel
theorem dX4_closeRow_18 : decode cX4_closeRow 18 = .ok (.invokevirtual 152, 3) := by decide +kernel
theorem dX4_closeRow_21 : decode cX4_closeRow 21 = .ok (.aload_n 0, 1) := by decide +kernel
theorem dX4_closeRow_22 : decode cX4_closeRow 22 = .ok (.getfield 145, 3) := by decide +kernel
theorem dX4_closeRow_25 : decode cX4_closeRow 25 = .ok (.ifCond .ne 4, 3) := by decide +kernel
theorem dX4_closeRow_28 : decode cX4_closeRow 28 = .ok (.return_, 1) := by decide +kernel
theorem dX4_closeRow_29 : decode cX4_closeRow 29 = .ok (.aload_n 0, 1) := by decide +kernel
theorem dX4_closeRow_30 : decode cX4_closeRow 30 = .ok (.getfield 19, 3) := by decide +kernel
theorem dX4_closeRow_33 : decode cX4_closeRow 33 = .ok (.aload_n 0, 1) := by decide +kernel
theorem dX4_closeRow_34 : decode cX4_closeRow 34 = .ok (.getfield 167, 3) := by decide +kernel
theorem dX4_closeRow_37 : decode cX4_closeRow 37 = .ok (.iaload, 1) := by decide +kernel
theorem dX4_closeRow_38 : decode cX4_closeRow 38 = .ok (.istore_n 1, 1) := by decide +kernel
theorem dX4_closeRow_39 : decode cX4_closeRow 39 = .ok (.aload_n 0, 1) := by decide +kernel
theorem dX4_closeRow_40 : decode cX4_closeRow 40 = .ok (.getfield 156, 3) := by decide +kernel
theorem dX4_closeRow_43 : decode cX4_closeRow 43 = .ok (.iload_n 1, 1) := by decide +kernel
theorem dX4_closeRow_44 : decode cX4_closeRow 44 = .ok (.isub, 1) := by decide +kernel
theorem dX4_closeRow_45 : decode cX4_closeRow 45 = .ok (.istore_n 2, 1) := by decide +kernel
theorem dX4_closeRow_46 : decode cX4_closeRow 46 = .ok (.iload_n 2, 1) := by decide +kernel
theorem dX4_closeRow_47 : decode cX4_closeRow 47 = .ok (.aload_n 0, 1) := by decide +kernel
theorem dX4_closeRow_48 : decode cX4_closeRow 48 = .ok (.getfield 22, 3) := by decide +kernel
theorem dX4_closeRow_51 : decode cX4_closeRow 51 = .ok (.aload_n 0, 1) := by decide +kernel
theorem dX4_closeRow_52 : decode cX4_closeRow 52 = .ok (.getfield 167, 3) := by decide +kernel
theorem dX4_closeRow_55 : decode cX4_closeRow 55 = .ok (.iaload, 1) := by decide +kernel
theorem dX4_closeRow_56 : decode cX4_closeRow 56 = .ok (.imul, 1) := by decide +kernel
theorem dX4_closeRow_57 : decode cX4_closeRow 57 = .ok (.istore_n 3, 1) := by decide +kernel
theorem dX4_closeRow_58 : decode cX4_closeRow 58 = .ok (.iload_n 2, 1) := by decide +kernel
theorem dX4_closeRow_59 : decode cX4_closeRow 59 = .ok (.istore 4, 2) := by decide +kernel
theorem dX4_closeRow_61 : decode cX4_closeRow 61 = .ok (.iload 4, 2) := by decide +kernel
theorem dX4_closeRow_63 : decode cX4_closeRow 63 = .ok (.iload_n 3, 1) := by decide +kernel
theorem dX4_closeRow_64 : decode cX4_closeRow 64 = .ok (.if_icmp .ge 58, 3) := by decide +kernel
theorem dX4_closeRow_67 : decode cX4_closeRow 67 = .ok (.iload_n 1, 1) := by decide +kernel
theorem dX4_closeRow_68 : decode cX4_closeRow 68 = .ok (.iload 4, 2) := by decide +kernel
theorem dX4_closeRow_70 : decode cX4_closeRow 70 = .ok (.iadd, 1) := by decide +kernel
theorem dX4_closeRow_71 : decode cX4_closeRow 71 = .ok (.bipush 30, 2) := by decide +kernel
theorem dX4_closeRow_73 : decode cX4_closeRow 73 = .ok (.if_icmp .ge 49, 3) := by decide +kernel
theorem dX4_closeRow_76 : decode cX4_closeRow 76 = .ok (.aload_n 0, 1) := by decide +kernel
theorem dX4_closeRow_77 : decode cX4_closeRow 77 = .ok (.getfield 13, 3) := by decide +kernel
theorem dX4_closeRow_80 : decode cX4_closeRow 80 = .ok (.iload_n 1, 1) := by decide +kernel
theorem dX4_closeRow_81 : decode cX4_closeRow 81 = .ok (.iload 4, 2) := by decide +kernel
theorem dX4_closeRow_83 : decode cX4_closeRow 83 = .ok (.iadd, 1) := by decide +kernel
theorem dX4_closeRow_84 : decode cX4_closeRow 84 = .ok (.aload_n 0, 1) := by decide +kernel
theorem dX4_closeRow_85 : decode cX4_closeRow 85 = .ok (.getfield 13, 3) := by decide +kernel
theorem dX4_closeRow_88 : decode cX4_closeRow 88 = .ok (.iload_n 1, 1) := by decide +kernel
theorem dX4_closeRow_89 : decode cX4_closeRow 89 = .ok (.iload 4, 2) := by decide +kernel
theorem dX4_closeRow_91 : decode cX4_closeRow 91 = .ok (.iadd, 1) := by decide +kernel
theorem dX4_closeRow_92 : decode cX4_closeRow 92 = .ok (.iload_n 2, 1) := by decide +kernel
theorem dX4_closeRow_93 : decode cX4_closeRow 93 = .ok (.isub, 1) := by decide +kernel
theorem dX4_closeRow_94 : decode cX4_closeRow 94 = .ok (.iaload, 1) := by decide +kernel
theorem dX4_closeRow_95 : decode cX4_closeRow 95 = .ok (.iastore, 1) := by decide +kernel
theorem dX4_closeRow_96 : decode cX4_closeRow 96 = .ok (.aload_n 0, 1) := by decide +kernel
theorem dX4_closeRow_97 : decode cX4_closeRow 97 = .ok (.getfield 16, 3) := by decide +kernel
theorem dX4_closeRow_100 : decode cX4_closeRow 100 = .ok (.iload_n 1, 1) := by decide +kernel
theorem dX4_closeRow_101 : decode cX4_closeRow 101 = .ok (.iload 4, 2) := by decide +kernel
theorem dX4_closeRow_103 : decode cX4_closeRow 103 = .ok (.iadd, 1) := by decide +kernel
theorem dX4_closeRow_104 : decode cX4_closeRow 104 = .ok (.aload_n 0, 1) := by decide +kernel
theorem dX4_closeRow_105 : decode cX4_closeRow 105 = .ok (.getfield 16, 3) := by decide +kernel
theorem dX4_closeRow_108 : decode cX4_closeRow 108 = .ok (.iload_n 1, 1) := by decide +kernel
theorem dX4_closeRow_109 : decode cX4_closeRow 109 = .ok (.iload 4, 2) := by decide +kernel
theorem dX4_closeRow_111 : decode cX4_closeRow 111 = .ok (.iadd, 1) := by decide +kernel
theorem dX4_closeRow_112 : decode cX4_closeRow 112 = .ok (.iload_n 2, 1) := by decide +kernel
theorem dX4_closeRow_113 : decode cX4_closeRow 113 = .ok (.isub, 1) := by decide +kernel
theorem dX4_closeRow_114 : decode cX4_closeRow 114 = .ok (.iaload, 1) := by decide +kernel
theorem dX4_closeRow_115 : decode cX4_closeRow 115 = .ok (.iastore, 1) := by decide +kernel
theorem dX4_closeRow_116 : decode cX4_closeRow 116 = .ok (.iinc 4 1, 3) := by decide +kernel
theorem dX4_closeRow_119 : decode cX4_closeRow 119 = .ok (.goto (-58), 3) := by decide +kernel
theorem dX4_closeRow_122 : decode cX4_closeRow 122 = .ok (.aload_n 0, 1) := by decide +kernel
theorem dX4_closeRow_123 : decode cX4_closeRow 123 = .ok (.iload_n 1, 1) := by decide +kernel
theorem dX4_closeRow_124 : decode cX4_closeRow 124 = .ok (.iload_n 3, 1) := by decide +kernel
theorem dX4_closeRow_125 : decode cX4_closeRow 125 = .ok (.iadd, 1) := by decide +kernel
theorem dX4_closeRow_126 : decode cX4_closeRow 126 = .ok (.putfield 156, 3) := by decide +kernel
theorem dX4_closeRow_129 : decode cX4_closeRow 129 = .ok (.aload_n 0, 1) := by decide +kernel
theorem dX4_closeRow_130 : decode cX4_closeRow 130 = .ok (.dup, 1) := by decide +kernel
theorem dX4_closeRow_131 : decode cX4_closeRow 131 = .ok (.getfield 167, 3) := by decide +kernel
theorem dX4_closeRow_134 : decode cX4_closeRow 134 = .ok (.iconst 1, 1) := by decide +kernel
theorem dX4_closeRow_135 : decode cX4_closeRow 135 = .ok (.isub, 1) := by decide +kernel
theorem dX4_closeRow_136 : decode cX4_closeRow 136 = .ok (.putfield 167, 3) := by decide +kernel
theorem dX4_closeRow_139 : decode cX4_closeRow 139 = .ok (.aload_n 0, 1) := by decide +kernel
theorem dX4_closeRow_140 : decode cX4_closeRow 140 = .ok (.getfield 25, 3) := by decide +kernel
theorem dX4_closeRow_143 : decode cX4_closeRow 143 = .ok (.aload_n 0, 1) := by decide +kernel
theorem dX4_closeRow_144 : decode cX4_closeRow 144 = .ok (.getfield 167, 3) := by decide +kernel
theorem dX4_closeRow_147 : decode cX4_closeRow 147 = .ok (.dup2, 1) := by decide +kernel
theorem dX4_closeRow_148 : decode cX4_closeRow 148 = .ok (.iaload, 1) := by decide +kernel
theorem dX4_closeRow_149 : decode cX4_closeRow 149 = .ok (.iconst 1, 1) := by decide +kernel
theorem dX4_closeRow_150 : decode cX4_closeRow 150 = .ok (.iadd, 1) := by decide +kernel
theorem dX4_closeRow_151 : decode cX4_closeRow 151 = .ok (.iastore, 1) := by decide +kernel
theorem dX4_closeRow_152 : decode cX4_closeRow 152 = .ok (.return_, 1) := by decide +kernel
theorem dX4_readPart_0 : decode cX4_readPart 0 = .ok (.aload_n 0, 1) := by decide +kernel
theorem dX4_readPart_1 : decode cX4_readPart 1 = .ok (.aload_n 0, 1) := by decide +kernel
theorem dX4_readPart_2 : decode cX4_readPart 2 = .ok (.getfield 138, 3) := by decide +kernel
theorem dX4_readPart_5 : decode cX4_readPart 5 = .ok (.invokevirtual 149, 3) := by decide +kernel
theorem dX4_readPart_8 : decode cX4_readPart 8 = .ok (.istore_n 1, 1) := by decide +kernel
theorem dX4_readPart_9 : decode cX4_readPart 9 = .ok (.iload_n 1, 1) := by decide +kernel
theorem dX4_readPart_10 : decode cX4_readPart 10 = .ok (.i2l, 1) := by decide +kernel
theorem dX4_readPart_11 : decode cX4_readPart 11 = .ok (.ldc2_w 173, 3) := by decide +kernel
theorem dX4_readPart_14 : decode cX4_readPart 14 = .ok (.ldc2_w 175, 3) := by decide +kernel
theorem dX4_readPart_17 : decode cX4_readPart 17 = .ok (.invokestatic 118, 3) := by decide +kernel
theorem dX4_readPart_20 : decode cX4_readPart 20 = .ok (.ifCond .eq 11, 3) := by decide +kernel
theorem dX4_readPart_23 : decode cX4_readPart 23 = .ok (.aload_n 0, 1) := by decide +kernel
theorem dX4_readPart_24 : decode cX4_readPart 24 = .ok (.getfield 167, 3) := by decide +kernel
theorem dX4_readPart_27 : decode cX4_readPart 27 = .ok (.iconst 3, 1) := by decide +kernel
theorem dX4_readPart_28 : decode cX4_readPart 28 = .ok (.if_icmp .lt 46, 3) := by decide +kernel
theorem dX4_readPart_31 : decode cX4_readPart 31 = .ok (.iload_n 1, 1) := by decide +kernel
theorem dX4_readPart_32 : decode cX4_readPart 32 = .ok (.i2l, 1) := by decide +kernel
theorem dX4_readPart_33 : decode cX4_readPart 33 = .ok (.ldc2_w 177, 3) := by decide +kernel
theorem dX4_readPart_36 : decode cX4_readPart 36 = .ok (.ldc2_w 179, 3) := by decide +kernel
theorem dX4_readPart_39 : decode cX4_readPart 39 = .ok (.invokestatic 118, 3) := by decide +kernel
theorem dX4_readPart_42 : decode cX4_readPart 42 = .ok (.ifCond .eq 36, 3) := by decide +kernel
theorem dX4_readPart_45 : decode cX4_readPart 45 = .ok (.aload_n 0, 1) := by decide +kernel
theorem dX4_readPart_46 : decode cX4_readPart 46 = .ok (.getfield 138, 3) := by decide +kernel
theorem dX4_readPart_49 : decode cX4_readPart 49 = .ok (.iconst 1, 1) := by decide +kernel
theorem dX4_readPart_50 : decode cX4_readPart 50 = .ok (.iadd, 1) := by decide +kernel
theorem dX4_readPart_51 : decode cX4_readPart 51 = .ok (.aload_n 0, 1) := by decide +kernel
theorem dX4_readPart_52 : decode cX4_readPart 52 = .ok (.getfield 131, 3) := by decide +kernel
theorem dX4_readPart_55 : decode cX4_readPart 55 = .ok (.if_icmp .ge 23, 3) := by decide +kernel
theorem dX4_readPart_58 : decode cX4_readPart 58 = .ok (.aload_n 0, 1) := by decide +kernel
theorem dX4_readPart_59 : decode cX4_readPart 59 = .ok (.getfield 7, 3) := by decide +kernel
theorem dX4_readPart_62 : decode cX4_readPart 62 = .ok (.aload_n 0, 1) := by decide +kernel
theorem dX4_readPart_63 : decode cX4_readPart 63 = .ok (.getfield 138, 3) := by decide +kernel
theorem dX4_readPart_66 : decode cX4_readPart 66 = .ok (.iconst 1, 1) := by decide +kernel
theorem dX4_readPart_67 : decode cX4_readPart 67 = .ok (.iadd, 1) := by decide +kernel
theorem dX4_readPart_68 : decode cX4_readPart 68 = .ok (.iaload, 1) := by decide +kernel
theorem dX4_readPart_69 : decode cX4_readPart 69 = .ok (.bipush 40, 2) := by decide +kernel
theorem dX4_readPart_71 : decode cX4_readPart 71 = .ok (.if_icmp .ne 7, 3) := by decide +kernel
theorem dX4_readPart_74 : decode cX4_readPart 74 = .ok (.iconst 1, 1) := by decide +kernel
theorem dX4_readPart_75 : decode cX4_readPart 75 = .ok (.goto 4, 3) := by decide +kernel
theorem dX4_readPart_78 : decode cX4_readPart 78 = .ok (.iconst 0, 1) := by decide +kernel
theorem dX4_readPart_79 : decode cX4_readPart 79 = .ok (.istore_n 2, 1) := by decide +kernel
theorem dX4_readPart_80 : decode cX4_readPart 80 = .ok (.aload_n 0, 1) := by decide +kernel
theorem dX4_readPart_81 : decode cX4_readPart 81 = .ok (.getfield 167, 3) := by decide +kernel
theorem dX4_readPart_84 : decode cX4_readPart 84 = .ok (.ifCond .le 19, 3) := by decide +kernel
theorem dX4_readPart_87 : decode cX4_readPart 87 = .ok (.aload_n 0, 1) := by decide +kernel
theorem dX4_readPart_88 : decode cX4_readPart 88 = .ok (.bipush 41, 2) := by decide +kernel
theorem dX4_readPart_90 : decode cX4_readPart 90 = .ok (.invokevirtual 170, 3) := by decide +kernel
theorem dX4_readPart_93 : decode cX4_readPart 93 = .ok (.ifCond .eq 10, 3) := by decide +kernel
theorem dX4_readPart_96 : decode cX4_readPart 96 = .ok (.aload_n 0, 1) := by decide +kernel
theorem dX4_readPart_97 : decode cX4_readPart 97 = .ok (.invokevirtual 181, 3) := by decide +kernel
theorem dX4_readPart_100 : decode cX4_readPart 100 = .ok (.goto 18, 3) := by decide +kernel
theorem dX4_readPart_103 : decode cX4_readPart 103 = .ok (.iload_n 2, 1) := by decide +kernel
theorem dX4_readPart_104 : decode cX4_readPart 104 = .ok (.ifCond .eq 10, 3) := by decide +kernel
theorem dX4_readPart_107 : decode cX4_readPart 107 = .ok (.aload_n 0, 1) := by decide +kernel
theorem dX4_readPart_108 : decode cX4_readPart 108 = .ok (.invokevirtual 184, 3) := by decide +kernel
theorem dX4_readPart_111 : decode cX4_readPart 111 = .ok (.goto 7, 3) := by decide +kernel
theorem dX4_readPart_114 : decode cX4_readPart 114 = .ok (.aload_n 0, 1) := by decide +kernel
theorem dX4_readPart_115 : decode cX4_readPart 115 = .ok (.invokevirtual 187, 3) := by decide +kernel
theorem dX4_readPart_118 : decode cX4_readPart 118 = .ok (.return_, 1) := by decide +kernel
theorem dX4_readText_0 : decode cX4_readText 0 = .ok (.aload_n 0, 1) := by decide +kernel
theorem dX4_readText_1 : decode cX4_readText 1 = .ok (.iconst 0, 1) := by decide +kernel
theorem dX4_readText_2 : decode cX4_readText 2 = .ok (.putfield 138, 3) := by decide +kernel
theorem dX4_readText_5 : decode cX4_readText 5 = .ok (.aload_n 0, 1) := by decide +kernel
theorem dX4_readText_6 : decode cX4_readText 6 = .ok (.iconst 1, 1) := by decide +kernel
theorem dX4_readText_7 : decode cX4_readText 7 = .ok (.putfield 145, 3) := by decide +kernel
theorem dX4_readText_10 : decode cX4_readText 10 = .ok (.aload_n 0, 1) := by decide +kernel
theorem dX4_readText_11 : decode cX4_readText 11 = .ok (.iconst 0, 1) := by decide +kernel
theorem dX4_readText_12 : decode cX4_readText 12 = .ok (.putfield 156, 3) := by decide +kernel
theorem dX4_readText_15 : decode cX4_readText 15 = .ok (.aload_n 0, 1) := by decide +kernel
theorem dX4_readText_16 : decode cX4_readText 16 = .ok (.iconst 0, 1) := by decide +kernel
theorem dX4_readText_17 : decode cX4_readText 17 = .ok (.putfield 167, 3) := by decide +kernel
theorem dX4_readText_20 : decode cX4_readText 20 = .ok (.aload_n 0, 1) := by decide +kernel
theorem dX4_readText_21 : decode cX4_readText 21 = .ok (.aload_n 0, 1) := by decide +kernel
theorem dX4_readText_22 : decode cX4_readText 22 = .ok (.bipush 82, 2) := by decide +kernel
theorem dX4_readText_24 : decode cX4_readText 24 = .ok (.invokevirtual 170, 3) := by decide +kernel
theorem dX4_readText_27 : decode cX4_readText 27 = .ok (.invokevirtual 152, 3) := by decide +kernel
theorem dX4_readText_30 : decode cX4_readText 30 = .ok (.aload_n 0, 1) := by decide +kernel
theorem dX4_readText_31 : decode cX4_readText 31 = .ok (.getfield 145, 3) := by decide +kernel
theorem dX4_readText_34 : decode cX4_readText 34 = .ok (.ifCond .eq 21, 3) := by decide +kernel
theorem dX4_readText_37 : decode cX4_readText 37 = .ok (.aload_n 0, 1) := by decide +kernel
theorem dX4_readText_38 : decode cX4_readText 38 = .ok (.getfield 138, 3) := by decide +kernel
theorem dX4_readText_41 : decode cX4_readText 41 = .ok (.aload_n 0, 1) := by decide +kernel
theorem dX4_readText_42 : decode cX4_readText 42 = .ok (.getfield 131, 3) := by decide +kernel
theorem dX4_readText_45 : decode cX4_readText 45 = .ok (.if_icmp .ge 10, 3) := by decide +kernel
theorem dX4_readText_48 : decode cX4_readText 48 = .ok (.aload_n 0, 1) := by decide +kernel
theorem dX4_readText_49 : decode cX4_readText 49 = .ok (.invokevirtual 190, 3) := by decide +kernel
theorem dX4_readText_52 : decode cX4_readText 52 = .ok (.goto (-22), 3) := by decide +kernel
theorem dX4_readText_55 : decode cX4_readText 55 = .ok (.aload_n 0, 1) := by decide +kernel
theorem dX4_readText_56 : decode cX4_readText 56 = .ok (.getfield 145, 3) := by decide +kernel
theorem dX4_readText_59 : decode cX4_readText 59 = .ok (.ifCond .eq 14, 3) := by decide +kernel
theorem dX4_readText_62 : decode cX4_readText 62 = .ok (.aload_n 0, 1) := by decide +kernel
theorem dX4_readText_63 : decode cX4_readText 63 = .ok (.getfield 167, 3) := by decide +kernel
theorem dX4_readText_66 : decode cX4_readText 66 = .ok (.ifCond .ne 7, 3) := by decide +kernel
theorem dX4_readText_69 : decode cX4_readText 69 = .ok (.iconst (-1), 1) := by decide +kernel
theorem dX4_readText_70 : decode cX4_readText 70 = .ok (.goto 7, 3) := by decide +kernel
theorem dX4_readText_73 : decode cX4_readText 73 = .ok (.aload_n 0, 1) := by decide +kernel
theorem dX4_readText_74 : decode cX4_readText 74 = .ok (.getfield 138, 3) := by decide +kernel
theorem dX4_readText_77 : decode cX4_readText 77 = .ok (.ireturn, 1) := by decide +kernel
theorem dX4_errorPosition_0 : decode cX4_errorPosition 0 = .ok (.aload_n 0, 1) := by decide +kernel
theorem dX4_errorPosition_1 : decode cX4_errorPosition 1 = .ok (.iconst 0, 1) := by decide +kernel
theorem dX4_errorPosition_2 : decode cX4_errorPosition 2 = .ok (.putfield 59, 3) := by decide +kernel
theorem dX4_errorPosition_5 : decode cX4_errorPosition 5 = .ok (.aload_n 0, 1) := by decide +kernel
theorem dX4_errorPosition_6 : decode cX4_errorPosition 6 = .ok (.invokevirtual 193, 3) := by decide +kernel
theorem dX4_errorPosition_9 : decode cX4_errorPosition 9 = .ok (.ireturn, 1) := by decide +kernel
theorem dX4_axlesTold_0 : decode cX4_axlesTold 0 = .ok (.aload_n 0, 1) := by decide +kernel
theorem dX4_axlesTold_1 : decode cX4_axlesTold 1 = .ok (.iconst 0, 1) := by decide +kernel
theorem dX4_axlesTold_2 : decode cX4_axlesTold 2 = .ok (.putfield 59, 3) := by decide +kernel
theorem dX4_axlesTold_5 : decode cX4_axlesTold 5 = .ok (.aload_n 0, 1) := by decide +kernel
theorem dX4_axlesTold_6 : decode cX4_axlesTold 6 = .ok (.invokevirtual 193, 3) := by decide +kernel
theorem dX4_axlesTold_9 : decode cX4_axlesTold 9 = .ok (.iconst (-1), 1) := by decide +kernel
theorem dX4_axlesTold_10 : decode cX4_axlesTold 10 = .ok (.if_icmp .ne 10, 3) := by decide +kernel
theorem dX4_axlesTold_13 : decode cX4_axlesTold 13 = .ok (.aload_n 0, 1) := by decide +kernel
theorem dX4_axlesTold_14 : decode cX4_axlesTold 14 = .ok (.getfield 156, 3) := by decide +kernel
theorem dX4_axlesTold_17 : decode cX4_axlesTold 17 = .ok (.goto 4, 3) := by decide +kernel
theorem dX4_axlesTold_20 : decode cX4_axlesTold 20 = .ok (.iconst (-1), 1) := by decide +kernel
theorem dX4_axlesTold_21 : decode cX4_axlesTold 21 = .ok (.ireturn, 1) := by decide +kernel
theorem dX4_badBills_0 : decode cX4_badBills 0 = .ok (.iconst 0, 1) := by decide +kernel
theorem dX4_badBills_1 : decode cX4_badBills 1 = .ok (.istore_n 2, 1) := by decide +kernel
theorem dX4_badBills_2 : decode cX4_badBills 2 = .ok (.iconst 0, 1) := by decide +kernel
theorem dX4_badBills_3 : decode cX4_badBills 3 = .ok (.istore_n 3, 1) := by decide +kernel
theorem dX4_badBills_4 : decode cX4_badBills 4 = .ok (.iload_n 3, 1) := by decide +kernel
theorem dX4_badBills_5 : decode cX4_badBills 5 = .ok (.aload_n 0, 1) := by decide +kernel
theorem dX4_badBills_6 : decode cX4_badBills 6 = .ok (.getfield 102, 3) := by decide +kernel
theorem dX4_badBills_9 : decode cX4_badBills 9 = .ok (.if_icmp .ge 48, 3) := by decide +kernel
theorem dX4_badBills_12 : decode cX4_badBills 12 = .ok (.iload_n 2, 1) := by decide +kernel
theorem dX4_badBills_13 : decode cX4_badBills 13 = .ok (.aload_n 0, 1) := by decide +kernel
theorem dX4_badBills_14 : decode cX4_badBills 14 = .ok (.getfield 28, 3) := by decide +kernel
theorem dX4_badBills_17 : decode cX4_badBills 17 = .ok (.iconst 5, 1) := by decide +kernel
theorem dX4_badBills_18 : decode cX4_badBills 18 = .ok (.iload_n 3, 1) := by decide +kernel
theorem dX4_badBills_19 : decode cX4_badBills 19 = .ok (.iadd, 1) := by decide +kernel
theorem dX4_badBills_20 : decode cX4_badBills 20 = .ok (.iaload, 1) := by decide +kernel
theorem dX4_badBills_21 : decode cX4_badBills 21 = .ok (.ifCond .le 27, 3) := by decide +kernel
theorem dX4_badBills_24 : decode cX4_badBills 24 = .ok (.iload_n 1, 1) := by decide +kernel
theorem dX4_badBills_25 : decode cX4_badBills 25 = .ok (.ifCond .ne 19, 3) := by decide +kernel
theorem dX4_badBills_28 : decode cX4_badBills 28 = .ok (.aload_n 0, 1) := by decide +kernel
theorem dX4_badBills_29 : decode cX4_badBills 29 = .ok (.getfield 28, 3) := by decide +kernel
theorem dX4_badBills_32 : decode cX4_badBills 32 = .ok (.iconst 5, 1) := by decide +kernel
theorem dX4_badBills_33 : decode cX4_badBills 33 = .ok (.iload_n 3, 1) := by decide +kernel
theorem dX4_badBills_34 : decode cX4_badBills 34 = .ok (.iadd, 1) := by decide +kernel
theorem dX4_badBills_35 : decode cX4_badBills 35 = .ok (.iaload, 1) := by decide +kernel
theorem dX4_badBills_36 : decode cX4_badBills 36 = .ok (.aload_n 0, 1) := by decide +kernel
theorem dX4_badBills_37 : decode cX4_badBills 37 = .ok (.iload_n 3, 1) := by decide +kernel
theorem dX4_badBills_38 : decode cX4_badBills 38 = .ok (.invokevirtual 197, 3) := by decide +kernel
theorem dX4_badBills_41 : decode cX4_badBills 41 = .ok (.if_icmp .eq 7, 3) := by decide +kernel
theorem dX4_badBills_44 : decode cX4_badBills 44 = .ok (.iconst 1, 1) := by decide +kernel
theorem dX4_badBills_45 : decode cX4_badBills 45 = .ok (.goto 4, 3) := by decide +kernel
theorem dX4_badBills_48 : decode cX4_badBills 48 = .ok (.iconst 0, 1) := by decide +kernel
theorem dX4_badBills_49 : decode cX4_badBills 49 = .ok (.iadd, 1) := by decide +kernel
theorem dX4_badBills_50 : decode cX4_badBills 50 = .ok (.istore_n 2, 1) := by decide +kernel
theorem dX4_badBills_51 : decode cX4_badBills 51 = .ok (.iinc 3 1, 3) := by decide +kernel
theorem dX4_badBills_54 : decode cX4_badBills 54 = .ok (.goto (-50), 3) := by decide +kernel
theorem dX4_badBills_57 : decode cX4_badBills 57 = .ok (.iload_n 2, 1) := by decide +kernel
theorem dX4_badBills_58 : decode cX4_badBills 58 = .ok (.ireturn, 1) := by decide +kernel
theorem dX4_trainWeight_0 : decode cX4_trainWeight 0 = .ok (.iconst 0, 1) := by decide +kernel
theorem dX4_trainWeight_1 : decode cX4_trainWeight 1 = .ok (.istore_n 2, 1) := by decide +kernel
theorem dX4_trainWeight_2 : decode cX4_trainWeight 2 = .ok (.iconst 0, 1) := by decide +kernel
theorem dX4_trainWeight_3 : decode cX4_trainWeight 3 = .ok (.istore_n 3, 1) := by decide +kernel
theorem dX4_trainWeight_4 : decode cX4_trainWeight 4 = .ok (.iload_n 3, 1) := by decide +kernel
theorem dX4_trainWeight_5 : decode cX4_trainWeight 5 = .ok (.aload_n 0, 1) := by decide +kernel
theorem dX4_trainWeight_6 : decode cX4_trainWeight 6 = .ok (.getfield 99, 3) := by decide +kernel
theorem dX4_trainWeight_9 : decode cX4_trainWeight 9 = .ok (.if_icmp .ge 43, 3) := by decide +kernel
theorem dX4_trainWeight_12 : decode cX4_trainWeight 12 = .ok (.iload_n 2, 1) := by decide +kernel
theorem dX4_trainWeight_13 : decode cX4_trainWeight 13 = .ok (.aload_n 0, 1) := by decide +kernel
theorem dX4_trainWeight_14 : decode cX4_trainWeight 14 = .ok (.aload_n 0, 1) := by decide +kernel
theorem dX4_trainWeight_15 : decode cX4_trainWeight 15 = .ok (.getfield 56, 3) := by decide +kernel
theorem dX4_trainWeight_18 : decode cX4_trainWeight 18 = .ok (.iload_n 3, 1) := by decide +kernel
theorem dX4_trainWeight_19 : decode cX4_trainWeight 19 = .ok (.iaload, 1) := by decide +kernel
theorem dX4_trainWeight_20 : decode cX4_trainWeight 20 = .ok (.invokevirtual 200, 3) := by decide +kernel
theorem dX4_trainWeight_23 : decode cX4_trainWeight 23 = .ok (.iload_n 1, 1) := by decide +kernel
theorem dX4_trainWeight_24 : decode cX4_trainWeight 24 = .ok (.if_icmp .ne 19, 3) := by decide +kernel
theorem dX4_trainWeight_27 : decode cX4_trainWeight 27 = .ok (.aload_n 0, 1) := by decide +kernel
theorem dX4_trainWeight_28 : decode cX4_trainWeight 28 = .ok (.getfield 28, 3) := by decide +kernel
theorem dX4_trainWeight_31 : decode cX4_trainWeight 31 = .ok (.aload_n 0, 1) := by decide +kernel
theorem dX4_trainWeight_32 : decode cX4_trainWeight 32 = .ok (.getfield 56, 3) := by decide +kernel
theorem dX4_trainWeight_35 : decode cX4_trainWeight 35 = .ok (.iload_n 3, 1) := by decide +kernel
theorem dX4_trainWeight_36 : decode cX4_trainWeight 36 = .ok (.iaload, 1) := by decide +kernel
theorem dX4_trainWeight_37 : decode cX4_trainWeight 37 = .ok (.invokestatic 115, 3) := by decide +kernel
theorem dX4_trainWeight_40 : decode cX4_trainWeight 40 = .ok (.goto 4, 3) := by decide +kernel
theorem dX4_trainWeight_43 : decode cX4_trainWeight 43 = .ok (.iconst 0, 1) := by decide +kernel
theorem dX4_trainWeight_44 : decode cX4_trainWeight 44 = .ok (.iadd, 1) := by decide +kernel
theorem dX4_trainWeight_45 : decode cX4_trainWeight 45 = .ok (.istore_n 2, 1) := by decide +kernel
theorem dX4_trainWeight_46 : decode cX4_trainWeight 46 = .ok (.iinc 3 1, 3) := by decide +kernel
theorem dX4_trainWeight_49 : decode cX4_trainWeight 49 = .ok (.goto (-45), 3) := by decide +kernel
theorem dX4_trainWeight_52 : decode cX4_trainWeight 52 = .ok (.iload_n 2, 1) := by decide +kernel
theorem dX4_trainWeight_53 : decode cX4_trainWeight 53 = .ok (.ireturn, 1) := by decide +kernel
theorem dX4_about_0 : decode cX4_about 0 = .ok (.aload_n 0, 1) := by decide +kernel
theorem dX4_about_1 : decode cX4_about 1 = .ok (.iload_n 1, 1) := by decide +kernel
theorem dX4_about_2 : decode cX4_about 2 = .ok (.i2l, 1) := by decide +kernel
theorem dX4_about_3 : decode cX4_about 3 = .ok (.lconst 0, 1) := by decide +kernel
theorem dX4_about_4 : decode cX4_about 4 = .ok (.ldc2_w 173, 3) := by decide +kernel
theorem dX4_about_7 : decode cX4_about 7 = .ok (.invokestatic 118, 3) := by decide +kernel
theorem dX4_about_10 : decode cX4_about 10 = .ok (.ifCond .eq 7, 3) := by decide +kernel
theorem dX4_about_13 : decode cX4_about 13 = .ok (.iconst 0, 1) := by decide +kernel
theorem dX4_about_14 : decode cX4_about 14 = .ok (.goto 4, 3) := by decide +kernel
theorem dX4_about_17 : decode cX4_about 17 = .ok (.iconst 1, 1) := by decide +kernel
theorem dX4_about_18 : decode cX4_about 18 = .ok (.invokevirtual 134, 3) := by decide +kernel
theorem dX4_about_21 : decode cX4_about 21 = .ok (.ifCond .eq 5, 3) := by decide +kernel
theorem dX4_about_24 : decode cX4_about 24 = .ok (.iconst 0, 1) := by decide +kernel
theorem dX4_about_25 : decode cX4_about 25 = .ok (.ireturn, 1) := by decide +kernel
theorem dX4_about_26 : decode cX4_about 26 = .ok (.aload_n 0, 1) := by decide +kernel
theorem dX4_about_27 : decode cX4_about 27 = .ok (.aload_n 0, 1) := by decide +kernel
theorem dX4_about_28 : decode cX4_about 28 = .ok (.getfield 28, 3) := by decide +kernel
theorem dX4_about_31 : decode cX4_about 31 = .ok (.invokevirtual 125, 3) := by decide +kernel
theorem dX4_about_34 : decode cX4_about 34 = .ok (.iload_n 1, 1) := by decide +kernel
theorem dX4_about_35 : decode cX4_about 35 = .ok (.tableswitch 92 0 6 #[41, 48, 53, 58, 72, 81, 86], 41) := by decide +kernel
theorem dX4_about_76 : decode cX4_about 76 = .ok (.aload_n 0, 1) := by decide +kernel
theorem dX4_about_77 : decode cX4_about 77 = .ok (.getfield 28, 3) := by decide +kernel
theorem dX4_about_80 : decode cX4_about 80 = .ok (.iconst 0, 1) := by decide +kernel
theorem dX4_about_81 : decode cX4_about 81 = .ok (.iaload, 1) := by decide +kernel
theorem dX4_about_82 : decode cX4_about 82 = .ok (.ireturn, 1) := by decide +kernel
theorem dX4_about_83 : decode cX4_about 83 = .ok (.aload_n 0, 1) := by decide +kernel
theorem dX4_about_84 : decode cX4_about 84 = .ok (.getfield 102, 3) := by decide +kernel
theorem dX4_about_87 : decode cX4_about 87 = .ok (.ireturn, 1) := by decide +kernel
theorem dX4_about_88 : decode cX4_about 88 = .ok (.aload_n 0, 1) := by decide +kernel
theorem dX4_about_89 : decode cX4_about 89 = .ok (.getfield 99, 3) := by decide +kernel
theorem dX4_about_92 : decode cX4_about 92 = .ok (.ireturn, 1) := by decide +kernel
theorem dX4_about_93 : decode cX4_about 93 = .ok (.aload_n 0, 1) := by decide +kernel
theorem dX4_about_94 : decode cX4_about 94 = .ok (.getfield 28, 3) := by decide +kernel
theorem dX4_about_97 : decode cX4_about 97 = .ok (.iconst 0, 1) := by decide +kernel
theorem dX4_about_98 : decode cX4_about 98 = .ok (.iaload, 1) := by decide +kernel
theorem dX4_about_99 : decode cX4_about 99 = .ok (.iconst 2, 1) := by decide +kernel
theorem dX4_about_100 : decode cX4_about 100 = .ok (.aload_n 0, 1) := by decide +kernel
theorem dX4_about_101 : decode cX4_about 101 = .ok (.getfield 99, 3) := by decide +kernel
theorem dX4_about_104 : decode cX4_about 104 = .ok (.imul, 1) := by decide +kernel
theorem dX4_about_105 : decode cX4_about 105 = .ok (.isub, 1) := by decide +kernel
theorem dX4_about_106 : decode cX4_about 106 = .ok (.ireturn, 1) := by decide +kernel
theorem dX4_about_107 : decode cX4_about 107 = .ok (.aload_n 0, 1) := by decide +kernel
theorem dX4_about_108 : decode cX4_about 108 = .ok (.aload_n 0, 1) := by decide +kernel
theorem dX4_about_109 : decode cX4_about 109 = .ok (.getfield 28, 3) := by decide +kernel
theorem dX4_about_112 : decode cX4_about 112 = .ok (.invokevirtual 203, 3) := by decide +kernel
theorem dX4_about_115 : decode cX4_about 115 = .ok (.ireturn, 1) := by decide +kernel
theorem dX4_about_116 : decode cX4_about 116 = .ok (.aload_n 0, 1) := by decide +kernel
theorem dX4_about_117 : decode cX4_about 117 = .ok (.getfield 105, 3) := by decide +kernel
theorem dX4_about_120 : decode cX4_about 120 = .ok (.ireturn, 1) := by decide +kernel
theorem dX4_about_121 : decode cX4_about 121 = .ok (.aload_n 0, 1) := by decide +kernel
theorem dX4_about_122 : decode cX4_about 122 = .ok (.iconst 1, 1) := by decide +kernel
theorem dX4_about_123 : decode cX4_about 123 = .ok (.invokevirtual 207, 3) := by decide +kernel
theorem dX4_about_126 : decode cX4_about 126 = .ok (.ireturn, 1) := by decide +kernel
theorem dX4_about_127 : decode cX4_about 127 = .ok (.aload_n 0, 1) := by decide +kernel
theorem dX4_about_128 : decode cX4_about 128 = .ok (.iconst 0, 1) := by decide +kernel
theorem dX4_about_129 : decode cX4_about 129 = .ok (.invokevirtual 207, 3) := by decide +kernel
theorem dX4_about_132 : decode cX4_about 132 = .ok (.ireturn, 1) := by decide +kernel
theorem dX4_isAxle_0 : decode cX4_isAxle 0 = .ok (.iload_n 1, 1) := by decide +kernel
theorem dX4_isAxle_1 : decode cX4_isAxle 1 = .ok (.i2l, 1) := by decide +kernel
theorem dX4_isAxle_2 : decode cX4_isAxle 2 = .ok (.lconst 0, 1) := by decide +kernel
theorem dX4_isAxle_3 : decode cX4_isAxle 3 = .ok (.aload_n 0, 1) := by decide +kernel
theorem dX4_isAxle_4 : decode cX4_isAxle 4 = .ok (.getfield 28, 3) := by decide +kernel
theorem dX4_isAxle_7 : decode cX4_isAxle 7 = .ok (.iconst 0, 1) := by decide +kernel
theorem dX4_isAxle_8 : decode cX4_isAxle 8 = .ok (.iaload, 1) := by decide +kernel
theorem dX4_isAxle_9 : decode cX4_isAxle 9 = .ok (.iconst 1, 1) := by decide +kernel
theorem dX4_isAxle_10 : decode cX4_isAxle 10 = .ok (.isub, 1) := by decide +kernel
theorem dX4_isAxle_11 : decode cX4_isAxle 11 = .ok (.i2l, 1) := by decide +kernel
theorem dX4_isAxle_12 : decode cX4_isAxle 12 = .ok (.invokestatic 118, 3) := by decide +kernel
theorem dX4_isAxle_15 : decode cX4_isAxle 15 = .ok (.ireturn, 1) := by decide +kernel
theorem dX4_axle_0 : decode cX4_axle 0 = .ok (.aload_n 0, 1) := by decide +kernel
theorem dX4_axle_1 : decode cX4_axle 1 = .ok (.aload_n 0, 1) := by decide +kernel
theorem dX4_axle_2 : decode cX4_axle 2 = .ok (.iload_n 1, 1) := by decide +kernel
theorem dX4_axle_3 : decode cX4_axle 3 = .ok (.invokevirtual 211, 3) := by decide +kernel
theorem dX4_axle_6 : decode cX4_axle 6 = .ok (.ifCond .ne 7, 3) := by decide +kernel
theorem dX4_axle_9 : decode cX4_axle 9 = .ok (.iconst 1, 1) := by decide +kernel
theorem dX4_axle_10 : decode cX4_axle 10 = .ok (.goto 20, 3) := by decide +kernel
theorem dX4_axle_13 : decode cX4_axle 13 = .ok (.iload_n 2, 1) := by decide +kernel
theorem dX4_axle_14 : decode cX4_axle 14 = .ok (.i2l, 1) := by decide +kernel
theorem dX4_axle_15 : decode cX4_axle 15 = .ok (.lconst 0, 1) := by decide +kernel
theorem dX4_axle_16 : decode cX4_axle 16 = .ok (.ldc2_w 214, 3) := by decide +kernel
theorem dX4_axle_19 : decode cX4_axle 19 = .ok (.invokestatic 118, 3) := by decide +kernel
theorem dX4_axle_22 : decode cX4_axle 22 = .ok (.ifCond .eq 7, 3) := by decide +kernel
theorem dX4_axle_25 : decode cX4_axle 25 = .ok (.iconst 0, 1) := by decide +kernel
theorem dX4_axle_26 : decode cX4_axle 26 = .ok (.goto 4, 3) := by decide +kernel
theorem dX4_axle_29 : decode cX4_axle 29 = .ok (.iconst 2, 1) := by decide +kernel
theorem dX4_axle_30 : decode cX4_axle 30 = .ok (.invokevirtual 134, 3) := by decide +kernel
theorem dX4_axle_33 : decode cX4_axle 33 = .ok (.ifCond .eq 5, 3) := by decide +kernel
theorem dX4_axle_36 : decode cX4_axle 36 = .ok (.iconst 0, 1) := by decide +kernel
theorem dX4_axle_37 : decode cX4_axle 37 = .ok (.ireturn, 1) := by decide +kernel
theorem dX4_axle_38 : decode cX4_axle 38 = .ok (.aload_n 0, 1) := by decide +kernel
theorem dX4_axle_39 : decode cX4_axle 39 = .ok (.aload_n 0, 1) := by decide +kernel
theorem dX4_axle_40 : decode cX4_axle 40 = .ok (.getfield 28, 3) := by decide +kernel
theorem dX4_axle_43 : decode cX4_axle 43 = .ok (.invokevirtual 125, 3) := by decide +kernel
theorem dX4_axle_46 : decode cX4_axle 46 = .ok (.iload_n 2, 1) := by decide +kernel
theorem dX4_axle_47 : decode cX4_axle 47 = .ok (.ifCond .ne 15, 3) := by decide +kernel
theorem dX4_axle_50 : decode cX4_axle 50 = .ok (.aload_n 0, 1) := by decide +kernel
theorem dX4_axle_51 : decode cX4_axle 51 = .ok (.getfield 28, 3) := by decide +kernel
theorem dX4_axle_54 : decode cX4_axle 54 = .ok (.bipush 35, 2) := by decide +kernel
theorem dX4_axle_56 : decode cX4_axle 56 = .ok (.iload_n 1, 1) := by decide +kernel
theorem dX4_axle_57 : decode cX4_axle 57 = .ok (.iadd, 1) := by decide +kernel
theorem dX4_axle_58 : decode cX4_axle 58 = .ok (.iaload, 1) := by decide +kernel
theorem dX4_axle_59 : decode cX4_axle 59 = .ok (.goto 38, 3) := by decide +kernel
theorem dX4_axle_62 : decode cX4_axle 62 = .ok (.iload_n 2, 1) := by decide +kernel
theorem dX4_axle_63 : decode cX4_axle 63 = .ok (.iconst 1, 1) := by decide +kernel
theorem dX4_axle_64 : decode cX4_axle 64 = .ok (.if_icmp .ne 15, 3) := by decide +kernel
theorem dX4_axle_67 : decode cX4_axle 67 = .ok (.aload_n 0, 1) := by decide +kernel
theorem dX4_axle_68 : decode cX4_axle 68 = .ok (.getfield 28, 3) := by decide +kernel
theorem dX4_axle_71 : decode cX4_axle 71 = .ok (.bipush 65, 2) := by decide +kernel
theorem dX4_axle_73 : decode cX4_axle 73 = .ok (.iload_n 1, 1) := by decide +kernel
theorem dX4_axle_74 : decode cX4_axle 74 = .ok (.iadd, 1) := by decide +kernel
theorem dX4_axle_75 : decode cX4_axle 75 = .ok (.iaload, 1) := by decide +kernel
theorem dX4_axle_76 : decode cX4_axle 76 = .ok (.goto 21, 3) := by decide +kernel
theorem dX4_axle_79 : decode cX4_axle 79 = .ok (.iload_n 2, 1) := by decide +kernel
theorem dX4_axle_80 : decode cX4_axle 80 = .ok (.iconst 2, 1) := by decide +kernel
theorem dX4_axle_81 : decode cX4_axle 81 = .ok (.if_icmp .ne 11, 3) := by decide +kernel
theorem dX4_axle_84 : decode cX4_axle 84 = .ok (.aload_n 0, 1) := by decide +kernel
theorem dX4_axle_85 : decode cX4_axle 85 = .ok (.iload_n 1, 1) := by decide +kernel
theorem dX4_axle_86 : decode cX4_axle 86 = .ok (.invokevirtual 200, 3) := by decide +kernel
theorem dX4_axle_89 : decode cX4_axle 89 = .ok (.goto 8, 3) := by decide +kernel
theorem dX4_axle_92 : decode cX4_axle 92 = .ok (.aload_n 0, 1) := by decide +kernel
theorem dX4_axle_93 : decode cX4_axle 93 = .ok (.iload_n 1, 1) := by decide +kernel
theorem dX4_axle_94 : decode cX4_axle 94 = .ok (.invokevirtual 216, 3) := by decide +kernel
theorem dX4_axle_97 : decode cX4_axle 97 = .ok (.ireturn, 1) := by decide +kernel
theorem dX4_speed_0 : decode cX4_speed 0 = .ok (.sipush 600, 3) := by decide +kernel
theorem dX4_speed_3 : decode cX4_speed 3 = .ok (.aload_n 0, 1) := by decide +kernel
theorem dX4_speed_4 : decode cX4_speed 4 = .ok (.getfield 28, 3) := by decide +kernel
theorem dX4_speed_7 : decode cX4_speed 7 = .ok (.bipush 35, 2) := by decide +kernel
theorem dX4_speed_9 : decode cX4_speed 9 = .ok (.aload_n 0, 1) := by decide +kernel
theorem dX4_speed_10 : decode cX4_speed 10 = .ok (.getfield 56, 3) := by decide +kernel
theorem dX4_speed_13 : decode cX4_speed 13 = .ok (.iload_n 1, 1) := by decide +kernel
theorem dX4_speed_14 : decode cX4_speed 14 = .ok (.iaload, 1) := by decide +kernel
theorem dX4_speed_15 : decode cX4_speed 15 = .ok (.iadd, 1) := by decide +kernel
theorem dX4_speed_16 : decode cX4_speed 16 = .ok (.iconst 1, 1) := by decide +kernel
theorem dX4_speed_17 : decode cX4_speed 17 = .ok (.iadd, 1) := by decide +kernel
theorem dX4_speed_18 : decode cX4_speed 18 = .ok (.iaload, 1) := by decide +kernel
theorem dX4_speed_19 : decode cX4_speed 19 = .ok (.idiv, 1) := by decide +kernel
theorem dX4_speed_20 : decode cX4_speed 20 = .ok (.ireturn, 1) := by decide +kernel
theorem dX4_between_0 : decode cX4_between 0 = .ok (.iload_n 1, 1) := by decide +kernel
theorem dX4_between_1 : decode cX4_between 1 = .ok (.ifCond .eq 28, 3) := by decide +kernel
theorem dX4_between_4 : decode cX4_between 4 = .ok (.aload_n 0, 1) := by decide +kernel
theorem dX4_between_5 : decode cX4_between 5 = .ok (.aload_n 0, 1) := by decide +kernel
theorem dX4_between_6 : decode cX4_between 6 = .ok (.getfield 56, 3) := by decide +kernel
theorem dX4_between_9 : decode cX4_between 9 = .ok (.iload_n 1, 1) := by decide +kernel
theorem dX4_between_10 : decode cX4_between 10 = .ok (.iconst 1, 1) := by decide +kernel
theorem dX4_between_11 : decode cX4_between 11 = .ok (.isub, 1) := by decide +kernel
theorem dX4_between_12 : decode cX4_between 12 = .ok (.iaload, 1) := by decide +kernel
theorem dX4_between_13 : decode cX4_between 13 = .ok (.invokevirtual 200, 3) := by decide +kernel
theorem dX4_between_16 : decode cX4_between 16 = .ok (.aload_n 0, 1) := by decide +kernel
theorem dX4_between_17 : decode cX4_between 17 = .ok (.aload_n 0, 1) := by decide +kernel
theorem dX4_between_18 : decode cX4_between 18 = .ok (.getfield 56, 3) := by decide +kernel
theorem dX4_between_21 : decode cX4_between 21 = .ok (.iload_n 1, 1) := by decide +kernel
theorem dX4_between_22 : decode cX4_between 22 = .ok (.iaload, 1) := by decide +kernel
theorem dX4_between_23 : decode cX4_between 23 = .ok (.invokevirtual 200, 3) := by decide +kernel
theorem dX4_between_26 : decode cX4_between 26 = .ok (.if_icmp .eq 7, 3) := by decide +kernel
theorem dX4_between_29 : decode cX4_between 29 = .ok (.iconst 1, 1) := by decide +kernel
theorem dX4_between_30 : decode cX4_between 30 = .ok (.goto 4, 3) := by decide +kernel
theorem dX4_between_33 : decode cX4_between 33 = .ok (.iconst 0, 1) := by decide +kernel
theorem dX4_between_34 : decode cX4_between 34 = .ok (.istore_n 2, 1) := by decide +kernel
theorem dX4_between_35 : decode cX4_between 35 = .ok (.iload_n 2, 1) := by decide +kernel
theorem dX4_between_36 : decode cX4_between 36 = .ok (.ifCond .eq 7, 3) := by decide +kernel
theorem dX4_between_39 : decode cX4_between 39 = .ok (.iconst (-1), 1) := by decide +kernel
theorem dX4_between_40 : decode cX4_between 40 = .ok (.goto 30, 3) := by decide +kernel
theorem dX4_between_43 : decode cX4_between 43 = .ok (.aload_n 0, 1) := by decide +kernel
theorem dX4_between_44 : decode cX4_between 44 = .ok (.getfield 47, 3) := by decide +kernel
theorem dX4_between_47 : decode cX4_between 47 = .ok (.aload_n 0, 1) := by decide +kernel
theorem dX4_between_48 : decode cX4_between 48 = .ok (.getfield 56, 3) := by decide +kernel
theorem dX4_between_51 : decode cX4_between 51 = .ok (.iload_n 1, 1) := by decide +kernel
theorem dX4_between_52 : decode cX4_between 52 = .ok (.iaload, 1) := by decide +kernel
theorem dX4_between_53 : decode cX4_between 53 = .ok (.iaload, 1) := by decide +kernel
theorem dX4_between_54 : decode cX4_between 54 = .ok (.aload_n 0, 1) := by decide +kernel
theorem dX4_between_55 : decode cX4_between 55 = .ok (.getfield 47, 3) := by decide +kernel
theorem dX4_between_58 : decode cX4_between 58 = .ok (.aload_n 0, 1) := by decide +kernel
theorem dX4_between_59 : decode cX4_between 59 = .ok (.getfield 56, 3) := by decide +kernel
theorem dX4_between_62 : decode cX4_between 62 = .ok (.iload_n 1, 1) := by decide +kernel
theorem dX4_between_63 : decode cX4_between 63 = .ok (.iconst 1, 1) := by decide +kernel
theorem dX4_between_64 : decode cX4_between 64 = .ok (.isub, 1) := by decide +kernel
theorem dX4_between_65 : decode cX4_between 65 = .ok (.iaload, 1) := by decide +kernel
theorem dX4_between_66 : decode cX4_between 66 = .ok (.iconst 1, 1) := by decide +kernel
theorem dX4_between_67 : decode cX4_between 67 = .ok (.iadd, 1) := by decide +kernel
theorem dX4_between_68 : decode cX4_between 68 = .ok (.iaload, 1) := by decide +kernel
theorem dX4_between_69 : decode cX4_between 69 = .ok (.isub, 1) := by decide +kernel
theorem dX4_between_70 : decode cX4_between 70 = .ok (.ireturn, 1) := by decide +kernel
theorem dX4_car_0 : decode cX4_car 0 = .ok (.aload_n 0, 1) := by decide +kernel
theorem dX4_car_1 : decode cX4_car 1 = .ok (.aload_n 0, 1) := by decide +kernel
theorem dX4_car_2 : decode cX4_car 2 = .ok (.getfield 28, 3) := by decide +kernel
theorem dX4_car_5 : decode cX4_car 5 = .ok (.invokevirtual 125, 3) := by decide +kernel
theorem dX4_car_8 : decode cX4_car 8 = .ok (.aload_n 0, 1) := by decide +kernel
theorem dX4_car_9 : decode cX4_car 9 = .ok (.iload_n 1, 1) := by decide +kernel
theorem dX4_car_10 : decode cX4_car 10 = .ok (.i2l, 1) := by decide +kernel
theorem dX4_car_11 : decode cX4_car 11 = .ok (.lconst 0, 1) := by decide +kernel
theorem dX4_car_12 : decode cX4_car 12 = .ok (.aload_n 0, 1) := by decide +kernel
theorem dX4_car_13 : decode cX4_car 13 = .ok (.getfield 99, 3) := by decide +kernel
theorem dX4_car_16 : decode cX4_car 16 = .ok (.iconst 1, 1) := by decide +kernel
theorem dX4_car_17 : decode cX4_car 17 = .ok (.isub, 1) := by decide +kernel
theorem dX4_car_18 : decode cX4_car 18 = .ok (.i2l, 1) := by decide +kernel
theorem dX4_car_19 : decode cX4_car 19 = .ok (.invokestatic 118, 3) := by decide +kernel
theorem dX4_car_22 : decode cX4_car 22 = .ok (.ifCond .ne 7, 3) := by decide +kernel
theorem dX4_car_25 : decode cX4_car 25 = .ok (.iconst 1, 1) := by decide +kernel
theorem dX4_car_26 : decode cX4_car 26 = .ok (.goto 20, 3) := by decide +kernel
theorem dX4_car_29 : decode cX4_car 29 = .ok (.iload_n 2, 1) := by decide +kernel
theorem dX4_car_30 : decode cX4_car 30 = .ok (.i2l, 1) := by decide +kernel
theorem dX4_car_31 : decode cX4_car 31 = .ok (.lconst 0, 1) := by decide +kernel
theorem dX4_car_32 : decode cX4_car 32 = .ok (.ldc2_w 219, 3) := by decide +kernel
theorem dX4_car_35 : decode cX4_car 35 = .ok (.invokestatic 118, 3) := by decide +kernel
theorem dX4_car_38 : decode cX4_car 38 = .ok (.ifCond .eq 7, 3) := by decide +kernel
theorem dX4_car_41 : decode cX4_car 41 = .ok (.iconst 0, 1) := by decide +kernel
theorem dX4_car_42 : decode cX4_car 42 = .ok (.goto 4, 3) := by decide +kernel
theorem dX4_car_45 : decode cX4_car 45 = .ok (.iconst 2, 1) := by decide +kernel
theorem dX4_car_46 : decode cX4_car 46 = .ok (.invokevirtual 134, 3) := by decide +kernel
theorem dX4_car_49 : decode cX4_car 49 = .ok (.ifCond .eq 5, 3) := by decide +kernel
theorem dX4_car_52 : decode cX4_car 52 = .ok (.iconst 0, 1) := by decide +kernel
theorem dX4_car_53 : decode cX4_car 53 = .ok (.ireturn, 1) := by decide +kernel
theorem dX4_car_54 : decode cX4_car 54 = .ok (.iload_n 2, 1) := by decide +kernel
theorem dX4_car_55 : decode cX4_car 55 = .ok (.tableswitch 88 0 4 #[33, 40, 54, 71, 77], 33) := by decide +kernel
theorem dX4_car_88 : decode cX4_car 88 = .ok (.aload_n 0, 1) := by decide +kernel
theorem dX4_car_89 : decode cX4_car 89 = .ok (.getfield 56, 3) := by decide +kernel
theorem dX4_car_92 : decode cX4_car 92 = .ok (.iload_n 1, 1) := by decide +kernel
theorem dX4_car_93 : decode cX4_car 93 = .ok (.iaload, 1) := by decide +kernel
theorem dX4_car_94 : decode cX4_car 94 = .ok (.ireturn, 1) := by decide +kernel
theorem dX4_car_95 : decode cX4_car 95 = .ok (.aload_n 0, 1) := by decide +kernel
theorem dX4_car_96 : decode cX4_car 96 = .ok (.getfield 28, 3) := by decide +kernel
theorem dX4_car_99 : decode cX4_car 99 = .ok (.aload_n 0, 1) := by decide +kernel
theorem dX4_car_100 : decode cX4_car 100 = .ok (.getfield 56, 3) := by decide +kernel
theorem dX4_car_103 : decode cX4_car 103 = .ok (.iload_n 1, 1) := by decide +kernel
theorem dX4_car_104 : decode cX4_car 104 = .ok (.iaload, 1) := by decide +kernel
theorem dX4_car_105 : decode cX4_car 105 = .ok (.invokestatic 115, 3) := by decide +kernel
theorem dX4_car_108 : decode cX4_car 108 = .ok (.ireturn, 1) := by decide +kernel
theorem dX4_car_109 : decode cX4_car 109 = .ok (.aload_n 0, 1) := by decide +kernel
theorem dX4_car_110 : decode cX4_car 110 = .ok (.getfield 28, 3) := by decide +kernel
theorem dX4_car_113 : decode cX4_car 113 = .ok (.bipush 35, 2) := by decide +kernel
theorem dX4_car_115 : decode cX4_car 115 = .ok (.aload_n 0, 1) := by decide +kernel
theorem dX4_car_116 : decode cX4_car 116 = .ok (.getfield 56, 3) := by decide +kernel
theorem dX4_car_119 : decode cX4_car 119 = .ok (.iload_n 1, 1) := by decide +kernel
theorem dX4_car_120 : decode cX4_car 120 = .ok (.iaload, 1) := by decide +kernel
theorem dX4_car_121 : decode cX4_car 121 = .ok (.iadd, 1) := by decide +kernel
theorem dX4_car_122 : decode cX4_car 122 = .ok (.iconst 1, 1) := by decide +kernel
theorem dX4_car_123 : decode cX4_car 123 = .ok (.iadd, 1) := by decide +kernel
theorem dX4_car_124 : decode cX4_car 124 = .ok (.iaload, 1) := by decide +kernel
theorem dX4_car_125 : decode cX4_car 125 = .ok (.ireturn, 1) := by decide +kernel
theorem dX4_car_126 : decode cX4_car 126 = .ok (.aload_n 0, 1) := by decide +kernel
theorem dX4_car_127 : decode cX4_car 127 = .ok (.iload_n 1, 1) := by decide +kernel
theorem dX4_car_128 : decode cX4_car 128 = .ok (.invokevirtual 221, 3) := by decide +kernel
theorem dX4_car_131 : decode cX4_car 131 = .ok (.ireturn, 1) := by decide +kernel
theorem dX4_car_132 : decode cX4_car 132 = .ok (.aload_n 0, 1) := by decide +kernel
theorem dX4_car_133 : decode cX4_car 133 = .ok (.aload_n 0, 1) := by decide +kernel
theorem dX4_car_134 : decode cX4_car 134 = .ok (.getfield 56, 3) := by decide +kernel
theorem dX4_car_137 : decode cX4_car 137 = .ok (.iload_n 1, 1) := by decide +kernel
theorem dX4_car_138 : decode cX4_car 138 = .ok (.iaload, 1) := by decide +kernel
theorem dX4_car_139 : decode cX4_car 139 = .ok (.invokevirtual 200, 3) := by decide +kernel
theorem dX4_car_142 : decode cX4_car 142 = .ok (.ireturn, 1) := by decide +kernel
theorem dX4_car_143 : decode cX4_car 143 = .ok (.aload_n 0, 1) := by decide +kernel
theorem dX4_car_144 : decode cX4_car 144 = .ok (.iload_n 1, 1) := by decide +kernel
theorem dX4_car_145 : decode cX4_car 145 = .ok (.invokevirtual 224, 3) := by decide +kernel
theorem dX4_car_148 : decode cX4_car 148 = .ok (.ireturn, 1) := by decide +kernel
theorem dX4_carsOf_0 : decode cX4_carsOf 0 = .ok (.iconst 0, 1) := by decide +kernel
theorem dX4_carsOf_1 : decode cX4_carsOf 1 = .ok (.istore_n 2, 1) := by decide +kernel
theorem dX4_carsOf_2 : decode cX4_carsOf 2 = .ok (.iconst 0, 1) := by decide +kernel
theorem dX4_carsOf_3 : decode cX4_carsOf 3 = .ok (.istore_n 3, 1) := by decide +kernel
theorem dX4_carsOf_4 : decode cX4_carsOf 4 = .ok (.iload_n 3, 1) := by decide +kernel
theorem dX4_carsOf_5 : decode cX4_carsOf 5 = .ok (.aload_n 0, 1) := by decide +kernel
theorem dX4_carsOf_6 : decode cX4_carsOf 6 = .ok (.getfield 99, 3) := by decide +kernel
theorem dX4_carsOf_9 : decode cX4_carsOf 9 = .ok (.if_icmp .ge 31, 3) := by decide +kernel
theorem dX4_carsOf_12 : decode cX4_carsOf 12 = .ok (.iload_n 2, 1) := by decide +kernel
theorem dX4_carsOf_13 : decode cX4_carsOf 13 = .ok (.aload_n 0, 1) := by decide +kernel
theorem dX4_carsOf_14 : decode cX4_carsOf 14 = .ok (.aload_n 0, 1) := by decide +kernel
theorem dX4_carsOf_15 : decode cX4_carsOf 15 = .ok (.getfield 56, 3) := by decide +kernel
theorem dX4_carsOf_18 : decode cX4_carsOf 18 = .ok (.iload_n 3, 1) := by decide +kernel
theorem dX4_carsOf_19 : decode cX4_carsOf 19 = .ok (.iaload, 1) := by decide +kernel
theorem dX4_carsOf_20 : decode cX4_carsOf 20 = .ok (.invokevirtual 200, 3) := by decide +kernel
theorem dX4_carsOf_23 : decode cX4_carsOf 23 = .ok (.iload_n 1, 1) := by decide +kernel
theorem dX4_carsOf_24 : decode cX4_carsOf 24 = .ok (.if_icmp .ne 7, 3) := by decide +kernel
theorem dX4_carsOf_27 : decode cX4_carsOf 27 = .ok (.iconst 1, 1) := by decide +kernel
theorem dX4_carsOf_28 : decode cX4_carsOf 28 = .ok (.goto 4, 3) := by decide +kernel
theorem dX4_carsOf_31 : decode cX4_carsOf 31 = .ok (.iconst 0, 1) := by decide +kernel
theorem dX4_carsOf_32 : decode cX4_carsOf 32 = .ok (.iadd, 1) := by decide +kernel
theorem dX4_carsOf_33 : decode cX4_carsOf 33 = .ok (.istore_n 2, 1) := by decide +kernel
theorem dX4_carsOf_34 : decode cX4_carsOf 34 = .ok (.iinc 3 1, 3) := by decide +kernel
theorem dX4_carsOf_37 : decode cX4_carsOf 37 = .ok (.goto (-33), 3) := by decide +kernel
theorem dX4_carsOf_40 : decode cX4_carsOf 40 = .ok (.iload_n 2, 1) := by decide +kernel
theorem dX4_carsOf_41 : decode cX4_carsOf 41 = .ok (.ireturn, 1) := by decide +kernel
theorem dX4_heaviest_0 : decode cX4_heaviest 0 = .ok (.iconst (-1), 1) := by decide +kernel
theorem dX4_heaviest_1 : decode cX4_heaviest 1 = .ok (.istore_n 2, 1) := by decide +kernel
theorem dX4_heaviest_2 : decode cX4_heaviest 2 = .ok (.iconst 0, 1) := by decide +kernel
theorem dX4_heaviest_3 : decode cX4_heaviest 3 = .ok (.istore_n 3, 1) := by decide +kernel
theorem dX4_heaviest_4 : decode cX4_heaviest 4 = .ok (.iload_n 3, 1) := by decide +kernel
theorem dX4_heaviest_5 : decode cX4_heaviest 5 = .ok (.aload_n 0, 1) := by decide +kernel
theorem dX4_heaviest_6 : decode cX4_heaviest 6 = .ok (.getfield 99, 3) := by decide +kernel
theorem dX4_heaviest_9 : decode cX4_heaviest 9 = .ok (.if_icmp .ge 51, 3) := by decide +kernel
theorem dX4_heaviest_12 : decode cX4_heaviest 12 = .ok (.aload_n 0, 1) := by decide +kernel
theorem dX4_heaviest_13 : decode cX4_heaviest 13 = .ok (.getfield 28, 3) := by decide +kernel
theorem dX4_heaviest_16 : decode cX4_heaviest 16 = .ok (.aload_n 0, 1) := by decide +kernel
theorem dX4_heaviest_17 : decode cX4_heaviest 17 = .ok (.getfield 56, 3) := by decide +kernel
theorem dX4_heaviest_20 : decode cX4_heaviest 20 = .ok (.iload_n 3, 1) := by decide +kernel
theorem dX4_heaviest_21 : decode cX4_heaviest 21 = .ok (.iaload, 1) := by decide +kernel
theorem dX4_heaviest_22 : decode cX4_heaviest 22 = .ok (.invokestatic 115, 3) := by decide +kernel
theorem dX4_heaviest_25 : decode cX4_heaviest 25 = .ok (.istore 4, 2) := by decide +kernel
theorem dX4_heaviest_27 : decode cX4_heaviest 27 = .ok (.aload_n 0, 1) := by decide +kernel
theorem dX4_heaviest_28 : decode cX4_heaviest 28 = .ok (.aload_n 0, 1) := by decide +kernel
theorem dX4_heaviest_29 : decode cX4_heaviest 29 = .ok (.getfield 56, 3) := by decide +kernel
theorem dX4_heaviest_32 : decode cX4_heaviest 32 = .ok (.iload_n 3, 1) := by decide +kernel
theorem dX4_heaviest_33 : decode cX4_heaviest 33 = .ok (.iaload, 1) := by decide +kernel
theorem dX4_heaviest_34 : decode cX4_heaviest 34 = .ok (.invokevirtual 200, 3) := by decide +kernel
theorem dX4_heaviest_37 : decode cX4_heaviest 37 = .ok (.iload_n 1, 1) := by decide +kernel
theorem dX4_heaviest_38 : decode cX4_heaviest 38 = .ok (.if_icmp .ne 14, 3) := by decide +kernel
theorem dX4_heaviest_41 : decode cX4_heaviest 41 = .ok (.iload 4, 2) := by decide +kernel
theorem dX4_heaviest_43 : decode cX4_heaviest 43 = .ok (.iload_n 2, 1) := by decide +kernel
theorem dX4_heaviest_44 : decode cX4_heaviest 44 = .ok (.if_icmp .le 8, 3) := by decide +kernel
theorem dX4_heaviest_47 : decode cX4_heaviest 47 = .ok (.iload 4, 2) := by decide +kernel
theorem dX4_heaviest_49 : decode cX4_heaviest 49 = .ok (.goto 4, 3) := by decide +kernel
theorem dX4_heaviest_52 : decode cX4_heaviest 52 = .ok (.iload_n 2, 1) := by decide +kernel
theorem dX4_heaviest_53 : decode cX4_heaviest 53 = .ok (.istore_n 2, 1) := by decide +kernel
theorem dX4_heaviest_54 : decode cX4_heaviest 54 = .ok (.iinc 3 1, 3) := by decide +kernel
theorem dX4_heaviest_57 : decode cX4_heaviest 57 = .ok (.goto (-53), 3) := by decide +kernel
theorem dX4_heaviest_60 : decode cX4_heaviest 60 = .ok (.iload_n 2, 1) := by decide +kernel
theorem dX4_heaviest_61 : decode cX4_heaviest 61 = .ok (.ireturn, 1) := by decide +kernel
theorem dX4_speeds_0 : decode cX4_speeds 0 = .ok (.iconst (-1), 1) := by decide +kernel
theorem dX4_speeds_1 : decode cX4_speeds 1 = .ok (.istore_n 2, 1) := by decide +kernel
theorem dX4_speeds_2 : decode cX4_speeds 2 = .ok (.sipush 601, 3) := by decide +kernel
theorem dX4_speeds_5 : decode cX4_speeds 5 = .ok (.istore_n 3, 1) := by decide +kernel
theorem dX4_speeds_6 : decode cX4_speeds 6 = .ok (.iconst 0, 1) := by decide +kernel
theorem dX4_speeds_7 : decode cX4_speeds 7 = .ok (.istore 4, 2) := by decide +kernel
theorem dX4_speeds_9 : decode cX4_speeds 9 = .ok (.iload 4, 2) := by decide +kernel
theorem dX4_speeds_11 : decode cX4_speeds 11 = .ok (.aload_n 0, 1) := by decide +kernel
theorem dX4_speeds_12 : decode cX4_speeds 12 = .ok (.getfield 99, 3) := by decide +kernel
theorem dX4_speeds_15 : decode cX4_speeds 15 = .ok (.if_icmp .ge 66, 3) := by decide +kernel
theorem dX4_speeds_18 : decode cX4_speeds 18 = .ok (.aload_n 0, 1) := by decide +kernel
theorem dX4_speeds_19 : decode cX4_speeds 19 = .ok (.aload_n 0, 1) := by decide +kernel
theorem dX4_speeds_20 : decode cX4_speeds 20 = .ok (.getfield 56, 3) := by decide +kernel
theorem dX4_speeds_23 : decode cX4_speeds 23 = .ok (.iload 4, 2) := by decide +kernel
theorem dX4_speeds_25 : decode cX4_speeds 25 = .ok (.iaload, 1) := by decide +kernel
theorem dX4_speeds_26 : decode cX4_speeds 26 = .ok (.invokevirtual 200, 3) := by decide +kernel
theorem dX4_speeds_29 : decode cX4_speeds 29 = .ok (.iload_n 1, 1) := by decide +kernel
theorem dX4_speeds_30 : decode cX4_speeds 30 = .ok (.if_icmp .ne 45, 3) := by decide +kernel
theorem dX4_speeds_33 : decode cX4_speeds 33 = .ok (.aload_n 0, 1) := by decide +kernel
theorem dX4_speeds_34 : decode cX4_speeds 34 = .ok (.iload 4, 2) := by decide +kernel
theorem dX4_speeds_36 : decode cX4_speeds 36 = .ok (.invokevirtual 221, 3) := by decide +kernel
theorem dX4_speeds_39 : decode cX4_speeds 39 = .ok (.iload_n 2, 1) := by decide +kernel
theorem dX4_speeds_40 : decode cX4_speeds 40 = .ok (.if_icmp .le 12, 3) := by decide +kernel
theorem dX4_speeds_43 : decode cX4_speeds 43 = .ok (.aload_n 0, 1) := by decide +kernel
theorem dX4_speeds_44 : decode cX4_speeds 44 = .ok (.iload 4, 2) := by decide +kernel
theorem dX4_speeds_46 : decode cX4_speeds 46 = .ok (.invokevirtual 221, 3) := by decide +kernel
theorem dX4_speeds_49 : decode cX4_speeds 49 = .ok (.goto 4, 3) := by decide +kernel
theorem dX4_speeds_52 : decode cX4_speeds 52 = .ok (.iload_n 2, 1) := by decide +kernel
theorem dX4_speeds_53 : decode cX4_speeds 53 = .ok (.istore_n 2, 1) := by decide +kernel
theorem dX4_speeds_54 : decode cX4_speeds 54 = .ok (.aload_n 0, 1) := by decide +kernel
theorem dX4_speeds_55 : decode cX4_speeds 55 = .ok (.iload 4, 2) := by decide +kernel
theorem dX4_speeds_57 : decode cX4_speeds 57 = .ok (.invokevirtual 221, 3) := by decide +kernel
theorem dX4_speeds_60 : decode cX4_speeds 60 = .ok (.iload_n 3, 1) := by decide +kernel
theorem dX4_speeds_61 : decode cX4_speeds 61 = .ok (.if_icmp .ge 12, 3) := by decide +kernel
theorem dX4_speeds_64 : decode cX4_speeds 64 = .ok (.aload_n 0, 1) := by decide +kernel
theorem dX4_speeds_65 : decode cX4_speeds 65 = .ok (.iload 4, 2) := by decide +kernel
theorem dX4_speeds_67 : decode cX4_speeds 67 = .ok (.invokevirtual 221, 3) := by decide +kernel
theorem dX4_speeds_70 : decode cX4_speeds 70 = .ok (.goto 4, 3) := by decide +kernel
theorem dX4_speeds_73 : decode cX4_speeds 73 = .ok (.iload_n 3, 1) := by decide +kernel
theorem dX4_speeds_74 : decode cX4_speeds 74 = .ok (.istore_n 3, 1) := by decide +kernel
theorem dX4_speeds_75 : decode cX4_speeds 75 = .ok (.iinc 4 1, 3) := by decide +kernel
theorem dX4_speeds_78 : decode cX4_speeds 78 = .ok (.goto (-69), 3) := by decide +kernel
theorem dX4_speeds_81 : decode cX4_speeds 81 = .ok (.iload_n 2, 1) := by decide +kernel
theorem dX4_speeds_82 : decode cX4_speeds 82 = .ok (.iconst (-1), 1) := by decide +kernel
theorem dX4_speeds_83 : decode cX4_speeds 83 = .ok (.if_icmp .ne 7, 3) := by decide +kernel
theorem dX4_speeds_86 : decode cX4_speeds 86 = .ok (.iconst (-1), 1) := by decide +kernel
theorem dX4_speeds_87 : decode cX4_speeds 87 = .ok (.goto 6, 3) := by decide +kernel
theorem dX4_speeds_90 : decode cX4_speeds 90 = .ok (.iload_n 2, 1) := by decide +kernel
theorem dX4_speeds_91 : decode cX4_speeds 91 = .ok (.iload_n 3, 1) := by decide +kernel
theorem dX4_speeds_92 : decode cX4_speeds 92 = .ok (.isub, 1) := by decide +kernel
theorem dX4_speeds_93 : decode cX4_speeds 93 = .ok (.ireturn, 1) := by decide +kernel
theorem dX4_train_0 : decode cX4_train 0 = .ok (.aload_n 0, 1) := by decide +kernel
theorem dX4_train_1 : decode cX4_train 1 = .ok (.aload_n 0, 1) := by decide +kernel
theorem dX4_train_2 : decode cX4_train 2 = .ok (.getfield 28, 3) := by decide +kernel
theorem dX4_train_5 : decode cX4_train 5 = .ok (.invokevirtual 125, 3) := by decide +kernel
theorem dX4_train_8 : decode cX4_train 8 = .ok (.aload_n 0, 1) := by decide +kernel
theorem dX4_train_9 : decode cX4_train 9 = .ok (.iload_n 1, 1) := by decide +kernel
theorem dX4_train_10 : decode cX4_train 10 = .ok (.i2l, 1) := by decide +kernel
theorem dX4_train_11 : decode cX4_train 11 = .ok (.lconst 0, 1) := by decide +kernel
theorem dX4_train_12 : decode cX4_train 12 = .ok (.aload_n 0, 1) := by decide +kernel
theorem dX4_train_13 : decode cX4_train 13 = .ok (.getfield 102, 3) := by decide +kernel
theorem dX4_train_16 : decode cX4_train 16 = .ok (.iconst 1, 1) := by decide +kernel
theorem dX4_train_17 : decode cX4_train 17 = .ok (.isub, 1) := by decide +kernel
theorem dX4_train_18 : decode cX4_train 18 = .ok (.i2l, 1) := by decide +kernel
theorem dX4_train_19 : decode cX4_train 19 = .ok (.invokestatic 118, 3) := by decide +kernel
theorem dX4_train_22 : decode cX4_train 22 = .ok (.ifCond .ne 7, 3) := by decide +kernel
theorem dX4_train_25 : decode cX4_train 25 = .ok (.iconst 1, 1) := by decide +kernel
theorem dX4_train_26 : decode cX4_train 26 = .ok (.goto 20, 3) := by decide +kernel
theorem dX4_train_29 : decode cX4_train 29 = .ok (.iload_n 2, 1) := by decide +kernel
theorem dX4_train_30 : decode cX4_train 30 = .ok (.i2l, 1) := by decide +kernel
theorem dX4_train_31 : decode cX4_train 31 = .ok (.lconst 0, 1) := by decide +kernel
theorem dX4_train_32 : decode cX4_train 32 = .ok (.ldc2_w 173, 3) := by decide +kernel
theorem dX4_train_35 : decode cX4_train 35 = .ok (.invokestatic 118, 3) := by decide +kernel
theorem dX4_train_38 : decode cX4_train 38 = .ok (.ifCond .eq 7, 3) := by decide +kernel
theorem dX4_train_41 : decode cX4_train 41 = .ok (.iconst 0, 1) := by decide +kernel
theorem dX4_train_42 : decode cX4_train 42 = .ok (.goto 4, 3) := by decide +kernel
theorem dX4_train_45 : decode cX4_train 45 = .ok (.iconst 2, 1) := by decide +kernel
theorem dX4_train_46 : decode cX4_train 46 = .ok (.invokevirtual 134, 3) := by decide +kernel
theorem dX4_train_49 : decode cX4_train 49 = .ok (.ifCond .eq 5, 3) := by decide +kernel
theorem dX4_train_52 : decode cX4_train 52 = .ok (.iconst 0, 1) := by decide +kernel
theorem dX4_train_53 : decode cX4_train 53 = .ok (.ireturn, 1) := by decide +kernel
theorem dX4_train_54 : decode cX4_train 54 = .ok (.iload_n 2, 1) := by decide +kernel
theorem dX4_train_55 : decode cX4_train 55 = .ok (.tableswitch 95 0 6 #[41, 48, 64, 70, 76, 83, 89], 41) := by decide +kernel
theorem dX4_train_96 : decode cX4_train 96 = .ok (.aload_n 0, 1) := by decide +kernel
theorem dX4_train_97 : decode cX4_train 97 = .ok (.getfield 50, 3) := by decide +kernel
theorem dX4_train_100 : decode cX4_train 100 = .ok (.iload_n 1, 1) := by decide +kernel
theorem dX4_train_101 : decode cX4_train 101 = .ok (.iaload, 1) := by decide +kernel
theorem dX4_train_102 : decode cX4_train 102 = .ok (.ireturn, 1) := by decide +kernel
theorem dX4_train_103 : decode cX4_train 103 = .ok (.aload_n 0, 1) := by decide +kernel
theorem dX4_train_104 : decode cX4_train 104 = .ok (.getfield 50, 3) := by decide +kernel
theorem dX4_train_107 : decode cX4_train 107 = .ok (.iload_n 1, 1) := by decide +kernel
theorem dX4_train_108 : decode cX4_train 108 = .ok (.iconst 1, 1) := by decide +kernel
theorem dX4_train_109 : decode cX4_train 109 = .ok (.iadd, 1) := by decide +kernel
theorem dX4_train_110 : decode cX4_train 110 = .ok (.iaload, 1) := by decide +kernel
theorem dX4_train_111 : decode cX4_train 111 = .ok (.aload_n 0, 1) := by decide +kernel
theorem dX4_train_112 : decode cX4_train 112 = .ok (.getfield 50, 3) := by decide +kernel
theorem dX4_train_115 : decode cX4_train 115 = .ok (.iload_n 1, 1) := by decide +kernel
theorem dX4_train_116 : decode cX4_train 116 = .ok (.iaload, 1) := by decide +kernel
theorem dX4_train_117 : decode cX4_train 117 = .ok (.isub, 1) := by decide +kernel
theorem dX4_train_118 : decode cX4_train 118 = .ok (.ireturn, 1) := by decide +kernel
theorem dX4_train_119 : decode cX4_train 119 = .ok (.aload_n 0, 1) := by decide +kernel
theorem dX4_train_120 : decode cX4_train 120 = .ok (.iload_n 1, 1) := by decide +kernel
theorem dX4_train_121 : decode cX4_train 121 = .ok (.invokevirtual 227, 3) := by decide +kernel
theorem dX4_train_124 : decode cX4_train 124 = .ok (.ireturn, 1) := by decide +kernel
theorem dX4_train_125 : decode cX4_train 125 = .ok (.aload_n 0, 1) := by decide +kernel
theorem dX4_train_126 : decode cX4_train 126 = .ok (.iload_n 1, 1) := by decide +kernel
theorem dX4_train_127 : decode cX4_train 127 = .ok (.invokevirtual 197, 3) := by decide +kernel
theorem dX4_train_130 : decode cX4_train 130 = .ok (.ireturn, 1) := by decide +kernel
theorem dX4_train_131 : decode cX4_train 131 = .ok (.aload_n 0, 1) := by decide +kernel
theorem dX4_train_132 : decode cX4_train 132 = .ok (.getfield 53, 3) := by decide +kernel
theorem dX4_train_135 : decode cX4_train 135 = .ok (.iload_n 1, 1) := by decide +kernel
theorem dX4_train_136 : decode cX4_train 136 = .ok (.iaload, 1) := by decide +kernel
theorem dX4_train_137 : decode cX4_train 137 = .ok (.ireturn, 1) := by decide +kernel
theorem dX4_train_138 : decode cX4_train 138 = .ok (.aload_n 0, 1) := by decide +kernel
theorem dX4_train_139 : decode cX4_train 139 = .ok (.iload_n 1, 1) := by decide +kernel
theorem dX4_train_140 : decode cX4_train 140 = .ok (.invokevirtual 230, 3) := by decide +kernel
theorem dX4_train_143 : decode cX4_train 143 = .ok (.ireturn, 1) := by decide +kernel
theorem dX4_train_144 : decode cX4_train 144 = .ok (.aload_n 0, 1) := by decide +kernel
theorem dX4_train_145 : decode cX4_train 145 = .ok (.iload_n 1, 1) := by decide +kernel
theorem dX4_train_146 : decode cX4_train 146 = .ok (.invokevirtual 233, 3) := by decide +kernel
theorem dX4_train_149 : decode cX4_train 149 = .ok (.ireturn, 1) := by decide +kernel
theorem dX4_train_150 : decode cX4_train 150 = .ok (.aload_n 0, 1) := by decide +kernel
theorem dX4_train_151 : decode cX4_train 151 = .ok (.getfield 28, 3) := by decide +kernel
theorem dX4_train_154 : decode cX4_train 154 = .ok (.iconst 5, 1) := by decide +kernel
theorem dX4_train_155 : decode cX4_train 155 = .ok (.iload_n 1, 1) := by decide +kernel
theorem dX4_train_156 : decode cX4_train 156 = .ok (.iadd, 1) := by decide +kernel
theorem dX4_train_157 : decode cX4_train 157 = .ok (.iaload, 1) := by decide +kernel
theorem dX4_train_158 : decode cX4_train 158 = .ok (.ifCond .le 14, 3) := by decide +kernel
theorem dX4_train_161 : decode cX4_train 161 = .ok (.aload_n 0, 1) := by decide +kernel
theorem dX4_train_162 : decode cX4_train 162 = .ok (.getfield 28, 3) := by decide +kernel
theorem dX4_train_165 : decode cX4_train 165 = .ok (.iconst 5, 1) := by decide +kernel
theorem dX4_train_166 : decode cX4_train 166 = .ok (.iload_n 1, 1) := by decide +kernel
theorem dX4_train_167 : decode cX4_train 167 = .ok (.iadd, 1) := by decide +kernel
theorem dX4_train_168 : decode cX4_train 168 = .ok (.iaload, 1) := by decide +kernel
theorem dX4_train_169 : decode cX4_train 169 = .ok (.goto 4, 3) := by decide +kernel
theorem dX4_train_172 : decode cX4_train 172 = .ok (.iconst (-1), 1) := by decide +kernel
theorem dX4_train_173 : decode cX4_train 173 = .ok (.ireturn, 1) := by decide +kernel
theorem dX4_setting_0 : decode cX4_setting 0 = .ok (.aload_n 0, 1) := by decide +kernel
theorem dX4_setting_1 : decode cX4_setting 1 = .ok (.iload_n 1, 1) := by decide +kernel
theorem dX4_setting_2 : decode cX4_setting 2 = .ok (.i2l, 1) := by decide +kernel
theorem dX4_setting_3 : decode cX4_setting 3 = .ok (.lconst 0, 1) := by decide +kernel
theorem dX4_setting_4 : decode cX4_setting 4 = .ok (.ldc2_w 214, 3) := by decide +kernel
theorem dX4_setting_7 : decode cX4_setting 7 = .ok (.invokestatic 118, 3) := by decide +kernel
theorem dX4_setting_10 : decode cX4_setting 10 = .ok (.ifCond .eq 7, 3) := by decide +kernel
theorem dX4_setting_13 : decode cX4_setting 13 = .ok (.iconst 0, 1) := by decide +kernel
theorem dX4_setting_14 : decode cX4_setting 14 = .ok (.goto 4, 3) := by decide +kernel
theorem dX4_setting_17 : decode cX4_setting 17 = .ok (.iconst 1, 1) := by decide +kernel
theorem dX4_setting_18 : decode cX4_setting 18 = .ok (.invokevirtual 134, 3) := by decide +kernel
theorem dX4_setting_21 : decode cX4_setting 21 = .ok (.ifCond .eq 7, 3) := by decide +kernel
theorem dX4_setting_24 : decode cX4_setting 24 = .ok (.iconst 0, 1) := by decide +kernel
theorem dX4_setting_25 : decode cX4_setting 25 = .ok (.goto 11, 3) := by decide +kernel
theorem dX4_setting_28 : decode cX4_setting 28 = .ok (.aload_n 0, 1) := by decide +kernel
theorem dX4_setting_29 : decode cX4_setting 29 = .ok (.getfield 28, 3) := by decide +kernel
theorem dX4_setting_32 : decode cX4_setting 32 = .ok (.iconst 1, 1) := by decide +kernel
theorem dX4_setting_33 : decode cX4_setting 33 = .ok (.iload_n 1, 1) := by decide +kernel
theorem dX4_setting_34 : decode cX4_setting 34 = .ok (.iadd, 1) := by decide +kernel
theorem dX4_setting_35 : decode cX4_setting 35 = .ok (.iaload, 1) := by decide +kernel
theorem dX4_setting_36 : decode cX4_setting 36 = .ok (.ireturn, 1) := by decide +kernel
theorem dX4_isPause_0 : decode cX4_isPause 0 = .ok (.iload_n 0, 1) := by decide +kernel
theorem dX4_isPause_1 : decode cX4_isPause 1 = .ok (.i2l, 1) := by decide +kernel
theorem dX4_isPause_2 : decode cX4_isPause 2 = .ok (.lconst 1, 1) := by decide +kernel
theorem dX4_isPause_3 : decode cX4_isPause 3 = .ok (.ldc2_w 236, 3) := by decide +kernel
theorem dX4_isPause_6 : decode cX4_isPause 6 = .ok (.invokestatic 118, 3) := by decide +kernel
theorem dX4_isPause_9 : decode cX4_isPause 9 = .ok (.ireturn, 1) := by decide +kernel
theorem dX4_isWeight_0 : decode cX4_isWeight 0 = .ok (.iload_n 0, 1) := by decide +kernel
theorem dX4_isWeight_1 : decode cX4_isWeight 1 = .ok (.i2l, 1) := by decide +kernel
theorem dX4_isWeight_2 : decode cX4_isWeight 2 = .ok (.lconst 1, 1) := by decide +kernel
theorem dX4_isWeight_3 : decode cX4_isWeight 3 = .ok (.ldc2_w 238, 3) := by decide +kernel
theorem dX4_isWeight_6 : decode cX4_isWeight 6 = .ok (.invokestatic 118, 3) := by decide +kernel
theorem dX4_isWeight_9 : decode cX4_isWeight 9 = .ok (.ireturn, 1) := by decide +kernel
theorem dX4_roll_0 : decode cX4_roll 0 = .ok (.iload_n 1, 1) := by decide +kernel
theorem dX4_roll_1 : decode cX4_roll 1 = .ok (.invokestatic 240, 3) := by decide +kernel
theorem dX4_roll_4 : decode cX4_roll 4 = .ok (.ifCond .eq 14, 3) := by decide +kernel
theorem dX4_roll_7 : decode cX4_roll 7 = .ok (.iload_n 2, 1) := by decide +kernel
theorem dX4_roll_8 : decode cX4_roll 8 = .ok (.invokestatic 243, 3) := by decide +kernel
theorem dX4_roll_11 : decode cX4_roll 11 = .ok (.ifCond .eq 7, 3) := by decide +kernel
theorem dX4_roll_14 : decode cX4_roll 14 = .ok (.iconst 1, 1) := by decide +kernel
theorem dX4_roll_15 : decode cX4_roll 15 = .ok (.goto 4, 3) := by decide +kernel
theorem dX4_roll_18 : decode cX4_roll 18 = .ok (.iconst 0, 1) := by decide +kernel
theorem dX4_roll_19 : decode cX4_roll 19 = .ok (.istore_n 3, 1) := by decide +kernel
theorem dX4_roll_20 : decode cX4_roll 20 = .ok (.aload_n 0, 1) := by decide +kernel
theorem dX4_roll_21 : decode cX4_roll 21 = .ok (.iload_n 3, 1) := by decide +kernel
theorem dX4_roll_22 : decode cX4_roll 22 = .ok (.ifCond .ne 7, 3) := by decide +kernel
theorem dX4_roll_25 : decode cX4_roll 25 = .ok (.iconst 1, 1) := by decide +kernel
theorem dX4_roll_26 : decode cX4_roll 26 = .ok (.goto 19, 3) := by decide +kernel
theorem dX4_roll_29 : decode cX4_roll 29 = .ok (.aload_n 0, 1) := by decide +kernel
theorem dX4_roll_30 : decode cX4_roll 30 = .ok (.getfield 28, 3) := by decide +kernel
theorem dX4_roll_33 : decode cX4_roll 33 = .ok (.iconst 0, 1) := by decide +kernel
theorem dX4_roll_34 : decode cX4_roll 34 = .ok (.iaload, 1) := by decide +kernel
theorem dX4_roll_35 : decode cX4_roll 35 = .ok (.bipush 30, 2) := by decide +kernel
theorem dX4_roll_37 : decode cX4_roll 37 = .ok (.if_icmp .ne 7, 3) := by decide +kernel
theorem dX4_roll_40 : decode cX4_roll 40 = .ok (.iconst 2, 1) := by decide +kernel
theorem dX4_roll_41 : decode cX4_roll 41 = .ok (.goto 4, 3) := by decide +kernel
theorem dX4_roll_44 : decode cX4_roll 44 = .ok (.iconst 0, 1) := by decide +kernel
theorem dX4_roll_45 : decode cX4_roll 45 = .ok (.invokevirtual 134, 3) := by decide +kernel
theorem dX4_roll_48 : decode cX4_roll 48 = .ok (.ifCond .eq 5, 3) := by decide +kernel
theorem dX4_roll_51 : decode cX4_roll 51 = .ok (.iconst 0, 1) := by decide +kernel
theorem dX4_roll_52 : decode cX4_roll 52 = .ok (.ireturn, 1) := by decide +kernel
theorem dX4_roll_53 : decode cX4_roll 53 = .ok (.aload_n 0, 1) := by decide +kernel
theorem dX4_roll_54 : decode cX4_roll 54 = .ok (.invokevirtual 246, 3) := by decide +kernel
theorem dX4_roll_57 : decode cX4_roll 57 = .ok (.aload_n 0, 1) := by decide +kernel
theorem dX4_roll_58 : decode cX4_roll 58 = .ok (.getfield 28, 3) := by decide +kernel
theorem dX4_roll_61 : decode cX4_roll 61 = .ok (.iload_n 1, 1) := by decide +kernel
theorem dX4_roll_62 : decode cX4_roll 62 = .ok (.iload_n 2, 1) := by decide +kernel
theorem dX4_roll_63 : decode cX4_roll 63 = .ok (.invokestatic 249, 3) := by decide +kernel
theorem dX4_roll_66 : decode cX4_roll 66 = .ok (.ireturn, 1) := by decide +kernel
theorem dX4_record_0 : decode cX4_record 0 = .ok (.aload_n 0, 1) := by decide +kernel
theorem dX4_record_1 : decode cX4_record 1 = .ok (.invokevirtual 193, 3) := by decide +kernel
theorem dX4_record_4 : decode cX4_record 4 = .ok (.iconst (-1), 1) := by decide +kernel
theorem dX4_record_5 : decode cX4_record 5 = .ok (.if_icmp .ne 23, 3) := by decide +kernel
theorem dX4_record_8 : decode cX4_record 8 = .ok (.aload_n 0, 1) := by decide +kernel
theorem dX4_record_9 : decode cX4_record 9 = .ok (.getfield 28, 3) := by decide +kernel
theorem dX4_record_12 : decode cX4_record 12 = .ok (.iconst 0, 1) := by decide +kernel
theorem dX4_record_13 : decode cX4_record 13 = .ok (.iaload, 1) := by decide +kernel
theorem dX4_record_14 : decode cX4_record 14 = .ok (.aload_n 0, 1) := by decide +kernel
theorem dX4_record_15 : decode cX4_record 15 = .ok (.getfield 156, 3) := by decide +kernel
theorem dX4_record_18 : decode cX4_record 18 = .ok (.iadd, 1) := by decide +kernel
theorem dX4_record_19 : decode cX4_record 19 = .ok (.bipush 30, 2) := by decide +kernel
theorem dX4_record_21 : decode cX4_record 21 = .ok (.if_icmp .gt 7, 3) := by decide +kernel
theorem dX4_record_24 : decode cX4_record 24 = .ok (.iconst 1, 1) := by decide +kernel
theorem dX4_record_25 : decode cX4_record 25 = .ok (.goto 4, 3) := by decide +kernel
theorem dX4_record_28 : decode cX4_record 28 = .ok (.iconst 0, 1) := by decide +kernel
theorem dX4_record_29 : decode cX4_record 29 = .ok (.istore_n 1, 1) := by decide +kernel
theorem dX4_record_30 : decode cX4_record 30 = .ok (.aload_n 0, 1) := by decide +kernel
theorem dX4_record_31 : decode cX4_record 31 = .ok (.iload_n 1, 1) := by decide +kernel
theorem dX4_record_32 : decode cX4_record 32 = .ok (.ifCond .eq 7, 3) := by decide +kernel
theorem dX4_record_35 : decode cX4_record 35 = .ok (.iconst 0, 1) := by decide +kernel
theorem dX4_record_36 : decode cX4_record 36 = .ok (.goto 4, 3) := by decide +kernel
theorem dX4_record_39 : decode cX4_record 39 = .ok (.iconst 1, 1) := by decide +kernel
theorem dX4_record_40 : decode cX4_record 40 = .ok (.invokevirtual 134, 3) := by decide +kernel
theorem dX4_record_43 : decode cX4_record 43 = .ok (.ifCond .eq 5, 3) := by decide +kernel
theorem dX4_record_46 : decode cX4_record 46 = .ok (.iconst 0, 1) := by decide +kernel
theorem dX4_record_47 : decode cX4_record 47 = .ok (.ireturn, 1) := by decide +kernel
theorem dX4_record_48 : decode cX4_record 48 = .ok (.aload_n 0, 1) := by decide +kernel
theorem dX4_record_49 : decode cX4_record 49 = .ok (.invokevirtual 246, 3) := by decide +kernel
theorem dX4_record_52 : decode cX4_record 52 = .ok (.iconst 0, 1) := by decide +kernel
theorem dX4_record_53 : decode cX4_record 53 = .ok (.istore_n 2, 1) := by decide +kernel
theorem dX4_record_54 : decode cX4_record 54 = .ok (.iload_n 2, 1) := by decide +kernel
theorem dX4_record_55 : decode cX4_record 55 = .ok (.aload_n 0, 1) := by decide +kernel
theorem dX4_record_56 : decode cX4_record 56 = .ok (.getfield 156, 3) := by decide +kernel
theorem dX4_record_59 : decode cX4_record 59 = .ok (.if_icmp .ge 29, 3) := by decide +kernel
theorem dX4_record_62 : decode cX4_record 62 = .ok (.aload_n 0, 1) := by decide +kernel
theorem dX4_record_63 : decode cX4_record 63 = .ok (.getfield 28, 3) := by decide +kernel
theorem dX4_record_66 : decode cX4_record 66 = .ok (.aload_n 0, 1) := by decide +kernel
theorem dX4_record_67 : decode cX4_record 67 = .ok (.getfield 13, 3) := by decide +kernel
theorem dX4_record_70 : decode cX4_record 70 = .ok (.iload_n 2, 1) := by decide +kernel
theorem dX4_record_71 : decode cX4_record 71 = .ok (.iaload, 1) := by decide +kernel
theorem dX4_record_72 : decode cX4_record 72 = .ok (.aload_n 0, 1) := by decide +kernel
theorem dX4_record_73 : decode cX4_record 73 = .ok (.getfield 16, 3) := by decide +kernel
theorem dX4_record_76 : decode cX4_record 76 = .ok (.iload_n 2, 1) := by decide +kernel
theorem dX4_record_77 : decode cX4_record 77 = .ok (.iaload, 1) := by decide +kernel
theorem dX4_record_78 : decode cX4_record 78 = .ok (.invokestatic 249, 3) := by decide +kernel
theorem dX4_record_81 : decode cX4_record 81 = .ok (.pop, 1) := by decide +kernel
theorem dX4_record_82 : decode cX4_record 82 = .ok (.iinc 2 1, 3) := by decide +kernel
theorem dX4_record_85 : decode cX4_record 85 = .ok (.goto (-31), 3) := by decide +kernel
theorem dX4_record_88 : decode cX4_record 88 = .ok (.aload_n 0, 1) := by decide +kernel
theorem dX4_record_89 : decode cX4_record 89 = .ok (.getfield 28, 3) := by decide +kernel
theorem dX4_record_92 : decode cX4_record 92 = .ok (.iconst 0, 1) := by decide +kernel
theorem dX4_record_93 : decode cX4_record 93 = .ok (.iaload, 1) := by decide +kernel
theorem dX4_record_94 : decode cX4_record 94 = .ok (.ireturn, 1) := by decide +kernel
theorem dX4_strike_0 : decode cX4_strike 0 = .ok (.aload_n 0, 1) := by decide +kernel
theorem dX4_strike_1 : decode cX4_strike 1 = .ok (.aload_n 0, 1) := by decide +kernel
theorem dX4_strike_2 : decode cX4_strike 2 = .ok (.iload_n 1, 1) := by decide +kernel
theorem dX4_strike_3 : decode cX4_strike 3 = .ok (.invokevirtual 211, 3) := by decide +kernel
theorem dX4_strike_6 : decode cX4_strike 6 = .ok (.ifCond .eq 7, 3) := by decide +kernel
theorem dX4_strike_9 : decode cX4_strike 9 = .ok (.iconst 0, 1) := by decide +kernel
theorem dX4_strike_10 : decode cX4_strike 10 = .ok (.goto 4, 3) := by decide +kernel
theorem dX4_strike_13 : decode cX4_strike 13 = .ok (.iconst 1, 1) := by decide +kernel
theorem dX4_strike_14 : decode cX4_strike 14 = .ok (.invokevirtual 134, 3) := by decide +kernel
theorem dX4_strike_17 : decode cX4_strike 17 = .ok (.ifCond .eq 5, 3) := by decide +kernel
theorem dX4_strike_20 : decode cX4_strike 20 = .ok (.iconst 0, 1) := by decide +kernel
theorem dX4_strike_21 : decode cX4_strike 21 = .ok (.ireturn, 1) := by decide +kernel
theorem dX4_strike_22 : decode cX4_strike 22 = .ok (.aload_n 0, 1) := by decide +kernel
theorem dX4_strike_23 : decode cX4_strike 23 = .ok (.invokevirtual 246, 3) := by decide +kernel
theorem dX4_strike_26 : decode cX4_strike 26 = .ok (.aload_n 0, 1) := by decide +kernel
theorem dX4_strike_27 : decode cX4_strike 27 = .ok (.getfield 28, 3) := by decide +kernel
theorem dX4_strike_30 : decode cX4_strike 30 = .ok (.iload_n 1, 1) := by decide +kernel
theorem dX4_strike_31 : decode cX4_strike 31 = .ok (.invokestatic 252, 3) := by decide +kernel
theorem dX4_strike_34 : decode cX4_strike 34 = .ok (.ireturn, 1) := by decide +kernel
theorem dX4_weigh_0 : decode cX4_weigh 0 = .ok (.aload_n 0, 1) := by decide +kernel
theorem dX4_weigh_1 : decode cX4_weigh 1 = .ok (.aload_n 0, 1) := by decide +kernel
theorem dX4_weigh_2 : decode cX4_weigh 2 = .ok (.iload_n 1, 1) := by decide +kernel
theorem dX4_weigh_3 : decode cX4_weigh 3 = .ok (.invokevirtual 211, 3) := by decide +kernel
theorem dX4_weigh_6 : decode cX4_weigh 6 = .ok (.ifCond .ne 7, 3) := by decide +kernel
theorem dX4_weigh_9 : decode cX4_weigh 9 = .ok (.iconst 1, 1) := by decide +kernel
theorem dX4_weigh_10 : decode cX4_weigh 10 = .ok (.goto 15, 3) := by decide +kernel
theorem dX4_weigh_13 : decode cX4_weigh 13 = .ok (.iload_n 2, 1) := by decide +kernel
theorem dX4_weigh_14 : decode cX4_weigh 14 = .ok (.invokestatic 243, 3) := by decide +kernel
theorem dX4_weigh_17 : decode cX4_weigh 17 = .ok (.ifCond .eq 7, 3) := by decide +kernel
theorem dX4_weigh_20 : decode cX4_weigh 20 = .ok (.iconst 0, 1) := by decide +kernel
theorem dX4_weigh_21 : decode cX4_weigh 21 = .ok (.goto 4, 3) := by decide +kernel
theorem dX4_weigh_24 : decode cX4_weigh 24 = .ok (.iconst 2, 1) := by decide +kernel
theorem dX4_weigh_25 : decode cX4_weigh 25 = .ok (.invokevirtual 134, 3) := by decide +kernel
theorem dX4_weigh_28 : decode cX4_weigh 28 = .ok (.ifCond .eq 5, 3) := by decide +kernel
theorem dX4_weigh_31 : decode cX4_weigh 31 = .ok (.iconst 0, 1) := by decide +kernel
theorem dX4_weigh_32 : decode cX4_weigh 32 = .ok (.ireturn, 1) := by decide +kernel
theorem dX4_weigh_33 : decode cX4_weigh 33 = .ok (.aload_n 0, 1) := by decide +kernel
theorem dX4_weigh_34 : decode cX4_weigh 34 = .ok (.invokevirtual 246, 3) := by decide +kernel
theorem dX4_weigh_37 : decode cX4_weigh 37 = .ok (.aload_n 0, 1) := by decide +kernel
theorem dX4_weigh_38 : decode cX4_weigh 38 = .ok (.getfield 28, 3) := by decide +kernel
theorem dX4_weigh_41 : decode cX4_weigh 41 = .ok (.bipush 65, 2) := by decide +kernel
theorem dX4_weigh_43 : decode cX4_weigh 43 = .ok (.iload_n 1, 1) := by decide +kernel
theorem dX4_weigh_44 : decode cX4_weigh 44 = .ok (.iadd, 1) := by decide +kernel
theorem dX4_weigh_45 : decode cX4_weigh 45 = .ok (.iaload, 1) := by decide +kernel
theorem dX4_weigh_46 : decode cX4_weigh 46 = .ok (.istore_n 3, 1) := by decide +kernel
theorem dX4_weigh_47 : decode cX4_weigh 47 = .ok (.aload_n 0, 1) := by decide +kernel
theorem dX4_weigh_48 : decode cX4_weigh 48 = .ok (.getfield 28, 3) := by decide +kernel
theorem dX4_weigh_51 : decode cX4_weigh 51 = .ok (.bipush 65, 2) := by decide +kernel
theorem dX4_weigh_53 : decode cX4_weigh 53 = .ok (.iload_n 1, 1) := by decide +kernel
theorem dX4_weigh_54 : decode cX4_weigh 54 = .ok (.iadd, 1) := by decide +kernel
theorem dX4_weigh_55 : decode cX4_weigh 55 = .ok (.iload_n 2, 1) := by decide +kernel
theorem dX4_weigh_56 : decode cX4_weigh 56 = .ok (.iastore, 1) := by decide +kernel
theorem dX4_weigh_57 : decode cX4_weigh 57 = .ok (.iload_n 3, 1) := by decide +kernel
theorem dX4_weigh_58 : decode cX4_weigh 58 = .ok (.ireturn, 1) := by decide +kernel
theorem dX4_bill_0 : decode cX4_bill 0 = .ok (.aload_n 0, 1) := by decide +kernel
theorem dX4_bill_1 : decode cX4_bill 1 = .ok (.iload_n 1, 1) := by decide +kernel
theorem dX4_bill_2 : decode cX4_bill 2 = .ok (.i2l, 1) := by decide +kernel
theorem dX4_bill_3 : decode cX4_bill 3 = .ok (.lconst 0, 1) := by decide +kernel
theorem dX4_bill_4 : decode cX4_bill 4 = .ok (.ldc2_w 255, 3) := by decide +kernel
theorem dX4_bill_7 : decode cX4_bill 7 = .ok (.invokestatic 118, 3) := by decide +kernel
theorem dX4_bill_10 : decode cX4_bill 10 = .ok (.ifCond .eq 19, 3) := by decide +kernel
theorem dX4_bill_13 : decode cX4_bill 13 = .ok (.iload_n 2, 1) := by decide +kernel
theorem dX4_bill_14 : decode cX4_bill 14 = .ok (.i2l, 1) := by decide +kernel
theorem dX4_bill_15 : decode cX4_bill 15 = .ok (.lconst 0, 1) := by decide +kernel
theorem dX4_bill_16 : decode cX4_bill 16 = .ok (.ldc2_w 257, 3) := by decide +kernel
theorem dX4_bill_19 : decode cX4_bill 19 = .ok (.invokestatic 118, 3) := by decide +kernel
theorem dX4_bill_22 : decode cX4_bill 22 = .ok (.ifCond .eq 7, 3) := by decide +kernel
theorem dX4_bill_25 : decode cX4_bill 25 = .ok (.iconst 0, 1) := by decide +kernel
theorem dX4_bill_26 : decode cX4_bill 26 = .ok (.goto 4, 3) := by decide +kernel
theorem dX4_bill_29 : decode cX4_bill 29 = .ok (.iconst 1, 1) := by decide +kernel
theorem dX4_bill_30 : decode cX4_bill 30 = .ok (.invokevirtual 134, 3) := by decide +kernel
theorem dX4_bill_33 : decode cX4_bill 33 = .ok (.ifCond .eq 5, 3) := by decide +kernel
theorem dX4_bill_36 : decode cX4_bill 36 = .ok (.iconst 0, 1) := by decide +kernel
theorem dX4_bill_37 : decode cX4_bill 37 = .ok (.ireturn, 1) := by decide +kernel
theorem dX4_bill_38 : decode cX4_bill 38 = .ok (.aload_n 0, 1) := by decide +kernel
theorem dX4_bill_39 : decode cX4_bill 39 = .ok (.invokevirtual 246, 3) := by decide +kernel
theorem dX4_bill_42 : decode cX4_bill 42 = .ok (.aload_n 0, 1) := by decide +kernel
theorem dX4_bill_43 : decode cX4_bill 43 = .ok (.getfield 28, 3) := by decide +kernel
theorem dX4_bill_46 : decode cX4_bill 46 = .ok (.iconst 5, 1) := by decide +kernel
theorem dX4_bill_47 : decode cX4_bill 47 = .ok (.iload_n 1, 1) := by decide +kernel
theorem dX4_bill_48 : decode cX4_bill 48 = .ok (.iadd, 1) := by decide +kernel
theorem dX4_bill_49 : decode cX4_bill 49 = .ok (.iaload, 1) := by decide +kernel
theorem dX4_bill_50 : decode cX4_bill 50 = .ok (.istore_n 3, 1) := by decide +kernel
theorem dX4_bill_51 : decode cX4_bill 51 = .ok (.aload_n 0, 1) := by decide +kernel
theorem dX4_bill_52 : decode cX4_bill 52 = .ok (.getfield 28, 3) := by decide +kernel
theorem dX4_bill_55 : decode cX4_bill 55 = .ok (.iconst 5, 1) := by decide +kernel
theorem dX4_bill_56 : decode cX4_bill 56 = .ok (.iload_n 1, 1) := by decide +kernel
theorem dX4_bill_57 : decode cX4_bill 57 = .ok (.iadd, 1) := by decide +kernel
theorem dX4_bill_58 : decode cX4_bill 58 = .ok (.iload_n 2, 1) := by decide +kernel
theorem dX4_bill_59 : decode cX4_bill 59 = .ok (.iastore, 1) := by decide +kernel
theorem dX4_bill_60 : decode cX4_bill 60 = .ok (.iload_n 3, 1) := by decide +kernel
theorem dX4_bill_61 : decode cX4_bill 61 = .ok (.ifCond .le 7, 3) := by decide +kernel
theorem dX4_bill_64 : decode cX4_bill 64 = .ok (.iload_n 3, 1) := by decide +kernel
theorem dX4_bill_65 : decode cX4_bill 65 = .ok (.goto 4, 3) := by decide +kernel
theorem dX4_bill_68 : decode cX4_bill 68 = .ok (.iconst (-1), 1) := by decide +kernel
theorem dX4_bill_69 : decode cX4_bill 69 = .ok (.ireturn, 1) := by decide +kernel
theorem dX4_isSetting_0 : decode cX4_isSetting 0 = .ok (.iload_n 0, 1) := by decide +kernel
theorem dX4_isSetting_1 : decode cX4_isSetting 1 = .ok (.ifCond .ne 15, 3) := by decide +kernel
theorem dX4_isSetting_4 : decode cX4_isSetting 4 = .ok (.iload_n 1, 1) := by decide +kernel
theorem dX4_isSetting_5 : decode cX4_isSetting 5 = .ok (.i2l, 1) := by decide +kernel
theorem dX4_isSetting_6 : decode cX4_isSetting 6 = .ok (.lconst 1, 1) := by decide +kernel
theorem dX4_isSetting_7 : decode cX4_isSetting 7 = .ok (.ldc2_w 259, 3) := by decide +kernel
theorem dX4_isSetting_10 : decode cX4_isSetting 10 = .ok (.invokestatic 118, 3) := by decide +kernel
theorem dX4_isSetting_13 : decode cX4_isSetting 13 = .ok (.ifCond .ne 56, 3) := by decide +kernel
theorem dX4_isSetting_16 : decode cX4_isSetting 16 = .ok (.iload_n 0, 1) := by decide +kernel
theorem dX4_isSetting_17 : decode cX4_isSetting 17 = .ok (.iconst 1, 1) := by decide +kernel
theorem dX4_isSetting_18 : decode cX4_isSetting 18 = .ok (.if_icmp .ne 15, 3) := by decide +kernel
theorem dX4_isSetting_21 : decode cX4_isSetting 21 = .ok (.iload_n 1, 1) := by decide +kernel
theorem dX4_isSetting_22 : decode cX4_isSetting 22 = .ok (.i2l, 1) := by decide +kernel
theorem dX4_isSetting_23 : decode cX4_isSetting 23 = .ok (.lconst 1, 1) := by decide +kernel
theorem dX4_isSetting_24 : decode cX4_isSetting 24 = .ok (.ldc2_w 261, 3) := by decide +kernel
theorem dX4_isSetting_27 : decode cX4_isSetting 27 = .ok (.invokestatic 118, 3) := by decide +kernel
theorem dX4_isSetting_30 : decode cX4_isSetting 30 = .ok (.ifCond .ne 39, 3) := by decide +kernel
theorem dX4_isSetting_33 : decode cX4_isSetting 33 = .ok (.iload_n 0, 1) := by decide +kernel
theorem dX4_isSetting_34 : decode cX4_isSetting 34 = .ok (.iconst 2, 1) := by decide +kernel
theorem dX4_isSetting_35 : decode cX4_isSetting 35 = .ok (.if_icmp .ne 15, 3) := by decide +kernel
theorem dX4_isSetting_38 : decode cX4_isSetting 38 = .ok (.iload_n 1, 1) := by decide +kernel
theorem dX4_isSetting_39 : decode cX4_isSetting 39 = .ok (.i2l, 1) := by decide +kernel
theorem dX4_isSetting_40 : decode cX4_isSetting 40 = .ok (.lconst 0, 1) := by decide +kernel
theorem dX4_isSetting_41 : decode cX4_isSetting 41 = .ok (.ldc2_w 236, 3) := by decide +kernel
theorem dX4_isSetting_44 : decode cX4_isSetting 44 = .ok (.invokestatic 118, 3) := by decide +kernel
theorem dX4_isSetting_47 : decode cX4_isSetting 47 = .ok (.ifCond .ne 22, 3) := by decide +kernel
theorem dX4_isSetting_50 : decode cX4_isSetting 50 = .ok (.iload_n 0, 1) := by decide +kernel
theorem dX4_isSetting_51 : decode cX4_isSetting 51 = .ok (.iconst 3, 1) := by decide +kernel
theorem dX4_isSetting_52 : decode cX4_isSetting 52 = .ok (.if_icmp .ne 21, 3) := by decide +kernel
theorem dX4_isSetting_55 : decode cX4_isSetting 55 = .ok (.iload_n 1, 1) := by decide +kernel
theorem dX4_isSetting_56 : decode cX4_isSetting 56 = .ok (.i2l, 1) := by decide +kernel
theorem dX4_isSetting_57 : decode cX4_isSetting 57 = .ok (.ldc2_w 177, 3) := by decide +kernel
theorem dX4_isSetting_60 : decode cX4_isSetting 60 = .ok (.ldc2_w 236, 3) := by decide +kernel
theorem dX4_isSetting_63 : decode cX4_isSetting 63 = .ok (.invokestatic 118, 3) := by decide +kernel
theorem dX4_isSetting_66 : decode cX4_isSetting 66 = .ok (.ifCond .eq 7, 3) := by decide +kernel
theorem dX4_isSetting_69 : decode cX4_isSetting 69 = .ok (.iconst 1, 1) := by decide +kernel
theorem dX4_isSetting_70 : decode cX4_isSetting 70 = .ok (.goto 4, 3) := by decide +kernel
theorem dX4_isSetting_73 : decode cX4_isSetting 73 = .ok (.iconst 0, 1) := by decide +kernel
theorem dX4_isSetting_74 : decode cX4_isSetting 74 = .ok (.ireturn, 1) := by decide +kernel
theorem dX4_set_0 : decode cX4_set 0 = .ok (.aload_n 0, 1) := by decide +kernel
theorem dX4_set_1 : decode cX4_set 1 = .ok (.iload_n 1, 1) := by decide +kernel
theorem dX4_set_2 : decode cX4_set 2 = .ok (.iload_n 2, 1) := by decide +kernel
theorem dX4_set_3 : decode cX4_set 3 = .ok (.invokestatic 263, 3) := by decide +kernel
theorem dX4_set_6 : decode cX4_set 6 = .ok (.ifCond .eq 7, 3) := by decide +kernel
theorem dX4_set_9 : decode cX4_set 9 = .ok (.iconst 0, 1) := by decide +kernel
theorem dX4_set_10 : decode cX4_set 10 = .ok (.goto 4, 3) := by decide +kernel
theorem dX4_set_13 : decode cX4_set 13 = .ok (.iconst 1, 1) := by decide +kernel
theorem dX4_set_14 : decode cX4_set 14 = .ok (.invokevirtual 134, 3) := by decide +kernel
theorem dX4_set_17 : decode cX4_set 17 = .ok (.ifCond .eq 5, 3) := by decide +kernel
theorem dX4_set_20 : decode cX4_set 20 = .ok (.iconst 0, 1) := by decide +kernel
theorem dX4_set_21 : decode cX4_set 21 = .ok (.ireturn, 1) := by decide +kernel
theorem dX4_set_22 : decode cX4_set 22 = .ok (.aload_n 0, 1) := by decide +kernel
theorem dX4_set_23 : decode cX4_set 23 = .ok (.invokevirtual 246, 3) := by decide +kernel
theorem dX4_set_26 : decode cX4_set 26 = .ok (.aload_n 0, 1) := by decide +kernel
theorem dX4_set_27 : decode cX4_set 27 = .ok (.getfield 28, 3) := by decide +kernel
theorem dX4_set_30 : decode cX4_set 30 = .ok (.iconst 1, 1) := by decide +kernel
theorem dX4_set_31 : decode cX4_set 31 = .ok (.iload_n 1, 1) := by decide +kernel
theorem dX4_set_32 : decode cX4_set 32 = .ok (.iadd, 1) := by decide +kernel
theorem dX4_set_33 : decode cX4_set 33 = .ok (.iaload, 1) := by decide +kernel
theorem dX4_set_34 : decode cX4_set 34 = .ok (.istore_n 3, 1) := by decide +kernel
theorem dX4_set_35 : decode cX4_set 35 = .ok (.aload_n 0, 1) := by decide +kernel
theorem dX4_set_36 : decode cX4_set 36 = .ok (.getfield 28, 3) := by decide +kernel
theorem dX4_set_39 : decode cX4_set 39 = .ok (.iconst 1, 1) := by decide +kernel
theorem dX4_set_40 : decode cX4_set 40 = .ok (.iload_n 1, 1) := by decide +kernel
theorem dX4_set_41 : decode cX4_set 41 = .ok (.iadd, 1) := by decide +kernel
theorem dX4_set_42 : decode cX4_set 42 = .ok (.iload_n 2, 1) := by decide +kernel
theorem dX4_set_43 : decode cX4_set 43 = .ok (.iastore, 1) := by decide +kernel
theorem dX4_set_44 : decode cX4_set 44 = .ok (.iload_n 3, 1) := by decide +kernel
theorem dX4_set_45 : decode cX4_set 45 = .ok (.ireturn, 1) := by decide +kernel
theorem dX4_leave_0 : decode cX4_leave 0 = .ok (.aload_n 0, 1) := by decide +kernel
theorem dX4_leave_1 : decode cX4_leave 1 = .ok (.aload_n 0, 1) := by decide +kernel
theorem dX4_leave_2 : decode cX4_leave 2 = .ok (.getfield 28, 3) := by decide +kernel
theorem dX4_leave_5 : decode cX4_leave 5 = .ok (.iconst 0, 1) := by decide +kernel
theorem dX4_leave_6 : decode cX4_leave 6 = .ok (.iaload, 1) := by decide +kernel
theorem dX4_leave_7 : decode cX4_leave 7 = .ok (.ifCond .ne 7, 3) := by decide +kernel
theorem dX4_leave_10 : decode cX4_leave 10 = .ok (.iconst 1, 1) := by decide +kernel
theorem dX4_leave_11 : decode cX4_leave 11 = .ok (.goto 4, 3) := by decide +kernel
theorem dX4_leave_14 : decode cX4_leave 14 = .ok (.iconst 0, 1) := by decide +kernel
theorem dX4_leave_15 : decode cX4_leave 15 = .ok (.invokevirtual 134, 3) := by decide +kernel
theorem dX4_leave_18 : decode cX4_leave 18 = .ok (.ifCond .eq 5, 3) := by decide +kernel
theorem dX4_leave_21 : decode cX4_leave 21 = .ok (.iconst 0, 1) := by decide +kernel
theorem dX4_leave_22 : decode cX4_leave 22 = .ok (.ireturn, 1) := by decide +kernel
theorem dX4_leave_23 : decode cX4_leave 23 = .ok (.aload_n 0, 1) := by decide +kernel
theorem dX4_leave_24 : decode cX4_leave 24 = .ok (.invokevirtual 246, 3) := by decide +kernel
theorem dX4_leave_27 : decode cX4_leave 27 = .ok (.aload_n 0, 1) := by decide +kernel
theorem dX4_leave_28 : decode cX4_leave 28 = .ok (.aload_n 0, 1) := by decide +kernel
theorem dX4_leave_29 : decode cX4_leave 29 = .ok (.getfield 28, 3) := by decide +kernel
theorem dX4_leave_32 : decode cX4_leave 32 = .ok (.invokevirtual 267, 3) := by decide +kernel
theorem dX4_leave_35 : decode cX4_leave 35 = .ok (.ireturn, 1) := by decide +kernel
theorem dX4_undo_0 : decode cX4_undo 0 = .ok (.aload_n 0, 1) := by decide +kernel
theorem dX4_undo_1 : decode cX4_undo 1 = .ok (.aload_n 0, 1) := by decide +kernel
theorem dX4_undo_2 : decode cX4_undo 2 = .ok (.getfield 65, 3) := by decide +kernel
theorem dX4_undo_5 : decode cX4_undo 5 = .ok (.ifCond .ne 7, 3) := by decide +kernel
theorem dX4_undo_8 : decode cX4_undo 8 = .ok (.iconst 1, 1) := by decide +kernel
theorem dX4_undo_9 : decode cX4_undo 9 = .ok (.goto 4, 3) := by decide +kernel
theorem dX4_undo_12 : decode cX4_undo 12 = .ok (.iconst 0, 1) := by decide +kernel
theorem dX4_undo_13 : decode cX4_undo 13 = .ok (.invokevirtual 134, 3) := by decide +kernel
theorem dX4_undo_16 : decode cX4_undo 16 = .ok (.ifCond .eq 5, 3) := by decide +kernel
theorem dX4_undo_19 : decode cX4_undo 19 = .ok (.iconst 0, 1) := by decide +kernel
theorem dX4_undo_20 : decode cX4_undo 20 = .ok (.ireturn, 1) := by decide +kernel
theorem dX4_undo_21 : decode cX4_undo 21 = .ok (.aload_n 0, 1) := by decide +kernel
theorem dX4_undo_22 : decode cX4_undo 22 = .ok (.dup, 1) := by decide +kernel
theorem dX4_undo_23 : decode cX4_undo 23 = .ok (.getfield 65, 3) := by decide +kernel
theorem dX4_undo_26 : decode cX4_undo 26 = .ok (.iconst 1, 1) := by decide +kernel
theorem dX4_undo_27 : decode cX4_undo 27 = .ok (.isub, 1) := by decide +kernel
theorem dX4_undo_28 : decode cX4_undo 28 = .ok (.putfield 65, 3) := by decide +kernel
theorem dX4_undo_31 : decode cX4_undo 31 = .ok (.aload_n 0, 1) := by decide +kernel
theorem dX4_undo_32 : decode cX4_undo 32 = .ok (.getfield 34, 3) := by decide +kernel
theorem dX4_undo_35 : decode cX4_undo 35 = .ok (.bipush 95, 2) := by decide +kernel
theorem dX4_undo_37 : decode cX4_undo 37 = .ok (.aload_n 0, 1) := by decide +kernel
theorem dX4_undo_38 : decode cX4_undo 38 = .ok (.getfield 65, 3) := by decide +kernel
theorem dX4_undo_41 : decode cX4_undo 41 = .ok (.imul, 1) := by decide +kernel
theorem dX4_undo_42 : decode cX4_undo 42 = .ok (.aload_n 0, 1) := by decide +kernel
theorem dX4_undo_43 : decode cX4_undo 43 = .ok (.getfield 28, 3) := by decide +kernel
theorem dX4_undo_46 : decode cX4_undo 46 = .ok (.iconst 0, 1) := by decide +kernel
theorem dX4_undo_47 : decode cX4_undo 47 = .ok (.bipush 95, 2) := by decide +kernel
theorem dX4_undo_49 : decode cX4_undo 49 = .ok (.invokestatic 68, 3) := by decide +kernel
theorem dX4_undo_52 : decode cX4_undo 52 = .ok (.aload_n 0, 1) := by decide +kernel
theorem dX4_undo_53 : decode cX4_undo 53 = .ok (.getfield 65, 3) := by decide +kernel
theorem dX4_undo_56 : decode cX4_undo 56 = .ok (.ireturn, 1) := by decide +kernel
theorem dX4_without_0 : decode cX4_without 0 = .ok (.aload_n 0, 1) := by decide +kernel
theorem dX4_without_1 : decode cX4_without 1 = .ok (.aload_n 0, 1) := by decide +kernel
theorem dX4_without_2 : decode cX4_without 2 = .ok (.iload_n 1, 1) := by decide +kernel
theorem dX4_without_3 : decode cX4_without 3 = .ok (.invokevirtual 211, 3) := by decide +kernel
theorem dX4_without_6 : decode cX4_without 6 = .ok (.ifCond .eq 7, 3) := by decide +kernel
theorem dX4_without_9 : decode cX4_without 9 = .ok (.iconst 0, 1) := by decide +kernel
theorem dX4_without_10 : decode cX4_without 10 = .ok (.goto 4, 3) := by decide +kernel
theorem dX4_without_13 : decode cX4_without 13 = .ok (.iconst 1, 1) := by decide +kernel
theorem dX4_without_14 : decode cX4_without 14 = .ok (.invokevirtual 134, 3) := by decide +kernel
theorem dX4_without_17 : decode cX4_without 17 = .ok (.ifCond .eq 5, 3) := by decide +kernel
theorem dX4_without_20 : decode cX4_without 20 = .ok (.iconst 0, 1) := by decide +kernel
theorem dX4_without_21 : decode cX4_without 21 = .ok (.ireturn, 1) := by decide +kernel
theorem dX4_without_22 : decode cX4_without 22 = .ok (.aload_n 0, 1) := by decide +kernel
theorem dX4_without_23 : decode cX4_without 23 = .ok (.invokevirtual 270, 3) := by decide +kernel
theorem dX4_without_26 : decode cX4_without 26 = .ok (.aload_n 0, 1) := by decide +kernel
theorem dX4_without_27 : decode cX4_without 27 = .ok (.getfield 31, 3) := by decide +kernel
theorem dX4_without_30 : decode cX4_without 30 = .ok (.iload_n 1, 1) := by decide +kernel
theorem dX4_without_31 : decode cX4_without 31 = .ok (.invokestatic 252, 3) := by decide +kernel
theorem dX4_without_34 : decode cX4_without 34 = .ok (.pop, 1) := by decide +kernel
theorem dX4_without_35 : decode cX4_without 35 = .ok (.aload_n 0, 1) := by decide +kernel
theorem dX4_without_36 : decode cX4_without 36 = .ok (.aload_n 0, 1) := by decide +kernel
theorem dX4_without_37 : decode cX4_without 37 = .ok (.getfield 31, 3) := by decide +kernel
theorem dX4_without_40 : decode cX4_without 40 = .ok (.invokevirtual 125, 3) := by decide +kernel
theorem dX4_without_43 : decode cX4_without 43 = .ok (.aload_n 0, 1) := by decide +kernel
theorem dX4_without_44 : decode cX4_without 44 = .ok (.aload_n 0, 1) := by decide +kernel
theorem dX4_without_45 : decode cX4_without 45 = .ok (.getfield 31, 3) := by decide +kernel
theorem dX4_without_48 : decode cX4_without 48 = .ok (.invokevirtual 203, 3) := by decide +kernel
theorem dX4_without_51 : decode cX4_without 51 = .ok (.ireturn, 1) := by decide +kernel
theorem dX4_suspect_0 : decode cX4_suspect 0 = .ok (.aload_n 0, 1) := by decide +kernel
theorem dX4_suspect_1 : decode cX4_suspect 1 = .ok (.iconst 0, 1) := by decide +kernel
theorem dX4_suspect_2 : decode cX4_suspect 2 = .ok (.putfield 59, 3) := by decide +kernel
theorem dX4_suspect_5 : decode cX4_suspect 5 = .ok (.aload_n 0, 1) := by decide +kernel
theorem dX4_suspect_6 : decode cX4_suspect 6 = .ok (.aload_n 0, 1) := by decide +kernel
theorem dX4_suspect_7 : decode cX4_suspect 7 = .ok (.getfield 28, 3) := by decide +kernel
theorem dX4_suspect_10 : decode cX4_suspect 10 = .ok (.invokevirtual 125, 3) := by decide +kernel
theorem dX4_suspect_13 : decode cX4_suspect 13 = .ok (.aload_n 0, 1) := by decide +kernel
theorem dX4_suspect_14 : decode cX4_suspect 14 = .ok (.getfield 105, 3) := by decide +kernel
theorem dX4_suspect_17 : decode cX4_suspect 17 = .ok (.istore_n 1, 1) := by decide +kernel
theorem dX4_suspect_18 : decode cX4_suspect 18 = .ok (.iconst (-1), 1) := by decide +kernel
theorem dX4_suspect_19 : decode cX4_suspect 19 = .ok (.istore_n 2, 1) := by decide +kernel
theorem dX4_suspect_20 : decode cX4_suspect 20 = .ok (.iconst 0, 1) := by decide +kernel
theorem dX4_suspect_21 : decode cX4_suspect 21 = .ok (.istore_n 3, 1) := by decide +kernel
theorem dX4_suspect_22 : decode cX4_suspect 22 = .ok (.iload_n 3, 1) := by decide +kernel
theorem dX4_suspect_23 : decode cX4_suspect 23 = .ok (.aload_n 0, 1) := by decide +kernel
theorem dX4_suspect_24 : decode cX4_suspect 24 = .ok (.getfield 28, 3) := by decide +kernel
theorem dX4_suspect_27 : decode cX4_suspect 27 = .ok (.iconst 0, 1) := by decide +kernel
theorem dX4_suspect_28 : decode cX4_suspect 28 = .ok (.iaload, 1) := by decide +kernel
theorem dX4_suspect_29 : decode cX4_suspect 29 = .ok (.if_icmp .ge 61, 3) := by decide +kernel
theorem dX4_suspect_32 : decode cX4_suspect 32 = .ok (.aload_n 0, 1) := by decide +kernel
theorem dX4_suspect_33 : decode cX4_suspect 33 = .ok (.invokevirtual 270, 3) := by decide +kernel
theorem dX4_suspect_36 : decode cX4_suspect 36 = .ok (.aload_n 0, 1) := by decide +kernel
theorem dX4_suspect_37 : decode cX4_suspect 37 = .ok (.getfield 31, 3) := by decide +kernel
theorem dX4_suspect_40 : decode cX4_suspect 40 = .ok (.iload_n 3, 1) := by decide +kernel
theorem dX4_suspect_41 : decode cX4_suspect 41 = .ok (.invokestatic 252, 3) := by decide +kernel
theorem dX4_suspect_44 : decode cX4_suspect 44 = .ok (.pop, 1) := by decide +kernel
theorem dX4_suspect_45 : decode cX4_suspect 45 = .ok (.aload_n 0, 1) := by decide +kernel
theorem dX4_suspect_46 : decode cX4_suspect 46 = .ok (.aload_n 0, 1) := by decide +kernel
theorem dX4_suspect_47 : decode cX4_suspect 47 = .ok (.getfield 31, 3) := by decide +kernel
theorem dX4_suspect_50 : decode cX4_suspect 50 = .ok (.invokevirtual 125, 3) := by decide +kernel
theorem dX4_suspect_53 : decode cX4_suspect 53 = .ok (.aload_n 0, 1) := by decide +kernel
theorem dX4_suspect_54 : decode cX4_suspect 54 = .ok (.getfield 105, 3) := by decide +kernel
theorem dX4_suspect_57 : decode cX4_suspect 57 = .ok (.iload_n 1, 1) := by decide +kernel
theorem dX4_suspect_58 : decode cX4_suspect 58 = .ok (.if_icmp .ge 7, 3) := by decide +kernel
theorem dX4_suspect_61 : decode cX4_suspect 61 = .ok (.iload_n 3, 1) := by decide +kernel
theorem dX4_suspect_62 : decode cX4_suspect 62 = .ok (.goto 4, 3) := by decide +kernel
theorem dX4_suspect_65 : decode cX4_suspect 65 = .ok (.iload_n 2, 1) := by decide +kernel
theorem dX4_suspect_66 : decode cX4_suspect 66 = .ok (.istore_n 2, 1) := by decide +kernel
theorem dX4_suspect_67 : decode cX4_suspect 67 = .ok (.aload_n 0, 1) := by decide +kernel
theorem dX4_suspect_68 : decode cX4_suspect 68 = .ok (.getfield 105, 3) := by decide +kernel
theorem dX4_suspect_71 : decode cX4_suspect 71 = .ok (.iload_n 1, 1) := by decide +kernel
theorem dX4_suspect_72 : decode cX4_suspect 72 = .ok (.if_icmp .ge 10, 3) := by decide +kernel
theorem dX4_suspect_75 : decode cX4_suspect 75 = .ok (.aload_n 0, 1) := by decide +kernel
theorem dX4_suspect_76 : decode cX4_suspect 76 = .ok (.getfield 105, 3) := by decide +kernel
theorem dX4_suspect_79 : decode cX4_suspect 79 = .ok (.goto 4, 3) := by decide +kernel
theorem dX4_suspect_82 : decode cX4_suspect 82 = .ok (.iload_n 1, 1) := by decide +kernel
theorem dX4_suspect_83 : decode cX4_suspect 83 = .ok (.istore_n 1, 1) := by decide +kernel
theorem dX4_suspect_84 : decode cX4_suspect 84 = .ok (.iinc 3 1, 3) := by decide +kernel
theorem dX4_suspect_87 : decode cX4_suspect 87 = .ok (.goto (-65), 3) := by decide +kernel
theorem dX4_suspect_90 : decode cX4_suspect 90 = .ok (.iload_n 2, 1) := by decide +kernel
theorem dX4_suspect_91 : decode cX4_suspect 91 = .ok (.ireturn, 1) := by decide +kernel
theorem dX4_bestBase_0 : decode cX4_bestBase 0 = .ok (.aload_n 0, 1) := by decide +kernel
theorem dX4_bestBase_1 : decode cX4_bestBase 1 = .ok (.iconst 0, 1) := by decide +kernel
theorem dX4_bestBase_2 : decode cX4_bestBase 2 = .ok (.putfield 59, 3) := by decide +kernel
theorem dX4_bestBase_5 : decode cX4_bestBase 5 = .ok (.iconst (-1), 1) := by decide +kernel
theorem dX4_bestBase_6 : decode cX4_bestBase 6 = .ok (.istore_n 1, 1) := by decide +kernel
theorem dX4_bestBase_7 : decode cX4_bestBase 7 = .ok (.iconst 0, 1) := by decide +kernel
theorem dX4_bestBase_8 : decode cX4_bestBase 8 = .ok (.istore_n 2, 1) := by decide +kernel
theorem dX4_bestBase_9 : decode cX4_bestBase 9 = .ok (.iconst 1, 1) := by decide +kernel
theorem dX4_bestBase_10 : decode cX4_bestBase 10 = .ok (.istore_n 3, 1) := by decide +kernel
theorem dX4_bestBase_11 : decode cX4_bestBase 11 = .ok (.iload_n 3, 1) := by decide +kernel
theorem dX4_bestBase_12 : decode cX4_bestBase 12 = .ok (.bipush 20, 2) := by decide +kernel
theorem dX4_bestBase_14 : decode cX4_bestBase 14 = .ok (.if_icmp .gt 73, 3) := by decide +kernel
theorem dX4_bestBase_17 : decode cX4_bestBase 17 = .ok (.aload_n 0, 1) := by decide +kernel
theorem dX4_bestBase_18 : decode cX4_bestBase 18 = .ok (.invokevirtual 270, 3) := by decide +kernel
theorem dX4_bestBase_21 : decode cX4_bestBase 21 = .ok (.aload_n 0, 1) := by decide +kernel
theorem dX4_bestBase_22 : decode cX4_bestBase 22 = .ok (.getfield 31, 3) := by decide +kernel
theorem dX4_bestBase_25 : decode cX4_bestBase 25 = .ok (.iconst 1, 1) := by decide +kernel
theorem dX4_bestBase_26 : decode cX4_bestBase 26 = .ok (.iload_n 3, 1) := by decide +kernel
theorem dX4_bestBase_27 : decode cX4_bestBase 27 = .ok (.iastore, 1) := by decide +kernel
theorem dX4_bestBase_28 : decode cX4_bestBase 28 = .ok (.aload_n 0, 1) := by decide +kernel
theorem dX4_bestBase_29 : decode cX4_bestBase 29 = .ok (.aload_n 0, 1) := by decide +kernel
theorem dX4_bestBase_30 : decode cX4_bestBase 30 = .ok (.getfield 31, 3) := by decide +kernel
theorem dX4_bestBase_33 : decode cX4_bestBase 33 = .ok (.invokevirtual 125, 3) := by decide +kernel
theorem dX4_bestBase_36 : decode cX4_bestBase 36 = .ok (.iload_n 1, 1) := by decide +kernel
theorem dX4_bestBase_37 : decode cX4_bestBase 37 = .ok (.iconst (-1), 1) := by decide +kernel
theorem dX4_bestBase_38 : decode cX4_bestBase 38 = .ok (.if_icmp .eq 11, 3) := by decide +kernel
theorem dX4_bestBase_41 : decode cX4_bestBase 41 = .ok (.aload_n 0, 1) := by decide +kernel
theorem dX4_bestBase_42 : decode cX4_bestBase 42 = .ok (.getfield 105, 3) := by decide +kernel
theorem dX4_bestBase_45 : decode cX4_bestBase 45 = .ok (.iload_n 2, 1) := by decide +kernel
theorem dX4_bestBase_46 : decode cX4_bestBase 46 = .ok (.if_icmp .ge 7, 3) := by decide +kernel
theorem dX4_bestBase_49 : decode cX4_bestBase 49 = .ok (.iconst 1, 1) := by decide +kernel
theorem dX4_bestBase_50 : decode cX4_bestBase 50 = .ok (.goto 4, 3) := by decide +kernel
theorem dX4_bestBase_53 : decode cX4_bestBase 53 = .ok (.iconst 0, 1) := by decide +kernel
theorem dX4_bestBase_54 : decode cX4_bestBase 54 = .ok (.istore 4, 2) := by decide +kernel
theorem dX4_bestBase_56 : decode cX4_bestBase 56 = .ok (.iload 4, 2) := by decide +kernel
theorem dX4_bestBase_58 : decode cX4_bestBase 58 = .ok (.ifCond .eq 7, 3) := by decide +kernel
theorem dX4_bestBase_61 : decode cX4_bestBase 61 = .ok (.iload_n 3, 1) := by decide +kernel
theorem dX4_bestBase_62 : decode cX4_bestBase 62 = .ok (.goto 4, 3) := by decide +kernel
theorem dX4_bestBase_65 : decode cX4_bestBase 65 = .ok (.iload_n 1, 1) := by decide +kernel
theorem dX4_bestBase_66 : decode cX4_bestBase 66 = .ok (.istore_n 1, 1) := by decide +kernel
theorem dX4_bestBase_67 : decode cX4_bestBase 67 = .ok (.iload 4, 2) := by decide +kernel
theorem dX4_bestBase_69 : decode cX4_bestBase 69 = .ok (.ifCond .eq 10, 3) := by decide +kernel
theorem dX4_bestBase_72 : decode cX4_bestBase 72 = .ok (.aload_n 0, 1) := by decide +kernel
theorem dX4_bestBase_73 : decode cX4_bestBase 73 = .ok (.getfield 105, 3) := by decide +kernel
theorem dX4_bestBase_76 : decode cX4_bestBase 76 = .ok (.goto 4, 3) := by decide +kernel
theorem dX4_bestBase_79 : decode cX4_bestBase 79 = .ok (.iload_n 2, 1) := by decide +kernel
theorem dX4_bestBase_80 : decode cX4_bestBase 80 = .ok (.istore_n 2, 1) := by decide +kernel
theorem dX4_bestBase_81 : decode cX4_bestBase 81 = .ok (.iinc 3 1, 3) := by decide +kernel
theorem dX4_bestBase_84 : decode cX4_bestBase 84 = .ok (.goto (-73), 3) := by decide +kernel
theorem dX4_bestBase_87 : decode cX4_bestBase 87 = .ok (.iload_n 1, 1) := by decide +kernel
theorem dX4_bestBase_88 : decode cX4_bestBase 88 = .ok (.ireturn, 1) := by decide +kernel
theorem dX4_sureness_0 : decode cX4_sureness 0 = .ok (.aload_n 0, 1) := by decide +kernel
theorem dX4_sureness_1 : decode cX4_sureness 1 = .ok (.aload_n 0, 1) := by decide +kernel
theorem dX4_sureness_2 : decode cX4_sureness 2 = .ok (.iload_n 1, 1) := by decide +kernel
theorem dX4_sureness_3 : decode cX4_sureness 3 = .ok (.invokevirtual 211, 3) := by decide +kernel
theorem dX4_sureness_6 : decode cX4_sureness 6 = .ok (.ifCond .eq 7, 3) := by decide +kernel
theorem dX4_sureness_9 : decode cX4_sureness 9 = .ok (.iconst 0, 1) := by decide +kernel
theorem dX4_sureness_10 : decode cX4_sureness 10 = .ok (.goto 4, 3) := by decide +kernel
theorem dX4_sureness_13 : decode cX4_sureness 13 = .ok (.iconst 1, 1) := by decide +kernel
theorem dX4_sureness_14 : decode cX4_sureness 14 = .ok (.invokevirtual 134, 3) := by decide +kernel
theorem dX4_sureness_17 : decode cX4_sureness 17 = .ok (.ifCond .eq 5, 3) := by decide +kernel
theorem dX4_sureness_20 : decode cX4_sureness 20 = .ok (.iconst 0, 1) := by decide +kernel
theorem dX4_sureness_21 : decode cX4_sureness 21 = .ok (.ireturn, 1) := by decide +kernel
theorem dX4_sureness_22 : decode cX4_sureness 22 = .ok (.aload_n 0, 1) := by decide +kernel
theorem dX4_sureness_23 : decode cX4_sureness 23 = .ok (.aload_n 0, 1) := by decide +kernel
theorem dX4_sureness_24 : decode cX4_sureness 24 = .ok (.getfield 28, 3) := by decide +kernel
theorem dX4_sureness_27 : decode cX4_sureness 27 = .ok (.invokevirtual 125, 3) := by decide +kernel
theorem dX4_sureness_30 : decode cX4_sureness 30 = .ok (.aload_n 0, 1) := by decide +kernel
theorem dX4_sureness_31 : decode cX4_sureness 31 = .ok (.iload_n 1, 1) := by decide +kernel
theorem dX4_sureness_32 : decode cX4_sureness 32 = .ok (.invokevirtual 200, 3) := by decide +kernel
theorem dX4_sureness_35 : decode cX4_sureness 35 = .ok (.istore_n 2, 1) := by decide +kernel
theorem dX4_sureness_36 : decode cX4_sureness 36 = .ok (.aload_n 0, 1) := by decide +kernel
theorem dX4_sureness_37 : decode cX4_sureness 37 = .ok (.aload_n 0, 1) := by decide +kernel
theorem dX4_sureness_38 : decode cX4_sureness 38 = .ok (.getfield 28, 3) := by decide +kernel
theorem dX4_sureness_41 : decode cX4_sureness 41 = .ok (.aload_n 0, 1) := by decide +kernel
theorem dX4_sureness_42 : decode cX4_sureness 42 = .ok (.getfield 50, 3) := by decide +kernel
theorem dX4_sureness_45 : decode cX4_sureness 45 = .ok (.iload_n 2, 1) := by decide +kernel
theorem dX4_sureness_46 : decode cX4_sureness 46 = .ok (.iaload, 1) := by decide +kernel
theorem dX4_sureness_47 : decode cX4_sureness 47 = .ok (.aload_n 0, 1) := by decide +kernel
theorem dX4_sureness_48 : decode cX4_sureness 48 = .ok (.getfield 50, 3) := by decide +kernel
theorem dX4_sureness_51 : decode cX4_sureness 51 = .ok (.iload_n 2, 1) := by decide +kernel
theorem dX4_sureness_52 : decode cX4_sureness 52 = .ok (.iconst 1, 1) := by decide +kernel
theorem dX4_sureness_53 : decode cX4_sureness 53 = .ok (.iadd, 1) := by decide +kernel
theorem dX4_sureness_54 : decode cX4_sureness 54 = .ok (.iaload, 1) := by decide +kernel
theorem dX4_sureness_55 : decode cX4_sureness 55 = .ok (.iload_n 1, 1) := by decide +kernel
theorem dX4_sureness_56 : decode cX4_sureness 56 = .ok (.invokevirtual 108, 3) := by decide +kernel
theorem dX4_sureness_59 : decode cX4_sureness 59 = .ok (.aload_n 0, 1) := by decide +kernel
theorem dX4_sureness_60 : decode cX4_sureness 60 = .ok (.getfield 53, 3) := by decide +kernel
theorem dX4_sureness_63 : decode cX4_sureness 63 = .ok (.iload_n 2, 1) := by decide +kernel
theorem dX4_sureness_64 : decode cX4_sureness 64 = .ok (.iaload, 1) := by decide +kernel
theorem dX4_sureness_65 : decode cX4_sureness 65 = .ok (.isub, 1) := by decide +kernel
theorem dX4_sureness_66 : decode cX4_sureness 66 = .ok (.ireturn, 1) := by decide +kernel
theorem dX4_plans_0 : decode cX4_plans 0 = .ok (.aload_n 0, 1) := by decide +kernel
theorem dX4_plans_1 : decode cX4_plans 1 = .ok (.aload_n 0, 1) := by decide +kernel
theorem dX4_plans_2 : decode cX4_plans 2 = .ok (.getfield 28, 3) := by decide +kernel
theorem dX4_plans_5 : decode cX4_plans 5 = .ok (.invokevirtual 125, 3) := by decide +kernel
theorem dX4_plans_8 : decode cX4_plans 8 = .ok (.aload_n 0, 1) := by decide +kernel
theorem dX4_plans_9 : decode cX4_plans 9 = .ok (.iload_n 1, 1) := by decide +kernel
theorem dX4_plans_10 : decode cX4_plans 10 = .ok (.i2l, 1) := by decide +kernel
theorem dX4_plans_11 : decode cX4_plans 11 = .ok (.lconst 0, 1) := by decide +kernel
theorem dX4_plans_12 : decode cX4_plans 12 = .ok (.aload_n 0, 1) := by decide +kernel
theorem dX4_plans_13 : decode cX4_plans 13 = .ok (.getfield 102, 3) := by decide +kernel
theorem dX4_plans_16 : decode cX4_plans 16 = .ok (.iconst 1, 1) := by decide +kernel
theorem dX4_plans_17 : decode cX4_plans 17 = .ok (.isub, 1) := by decide +kernel
theorem dX4_plans_18 : decode cX4_plans 18 = .ok (.i2l, 1) := by decide +kernel
theorem dX4_plans_19 : decode cX4_plans 19 = .ok (.invokestatic 118, 3) := by decide +kernel
theorem dX4_plans_22 : decode cX4_plans 22 = .ok (.ifCond .eq 7, 3) := by decide +kernel
theorem dX4_plans_25 : decode cX4_plans 25 = .ok (.iconst 0, 1) := by decide +kernel
theorem dX4_plans_26 : decode cX4_plans 26 = .ok (.goto 4, 3) := by decide +kernel
theorem dX4_plans_29 : decode cX4_plans 29 = .ok (.iconst 1, 1) := by decide +kernel
theorem dX4_plans_30 : decode cX4_plans 30 = .ok (.invokevirtual 134, 3) := by decide +kernel
theorem dX4_plans_33 : decode cX4_plans 33 = .ok (.ifCond .eq 5, 3) := by decide +kernel
theorem dX4_plans_36 : decode cX4_plans 36 = .ok (.iconst 0, 1) := by decide +kernel
theorem dX4_plans_37 : decode cX4_plans 37 = .ok (.ireturn, 1) := by decide +kernel
theorem dX4_plans_38 : decode cX4_plans 38 = .ok (.iconst 1, 1) := by decide +kernel
theorem dX4_plans_39 : decode cX4_plans 39 = .ok (.istore_n 2, 1) := by decide +kernel
theorem dX4_plans_40 : decode cX4_plans 40 = .ok (.iconst 1, 1) := by decide +kernel
theorem dX4_plans_41 : decode cX4_plans 41 = .ok (.istore_n 3, 1) := by decide +kernel
theorem dX4_plans_42 : decode cX4_plans 42 = .ok (.aload_n 0, 1) := by decide +kernel
theorem dX4_plans_43 : decode cX4_plans 43 = .ok (.getfield 50, 3) := by decide +kernel
theorem dX4_plans_46 : decode cX4_plans 46 = .ok (.iload_n 1, 1) := by decide +kernel
theorem dX4_plans_47 : decode cX4_plans 47 = .ok (.iaload, 1) := by decide +kernel
theorem dX4_plans_48 : decode cX4_plans 48 = .ok (.iconst 1, 1) := by decide +kernel
theorem dX4_plans_49 : decode cX4_plans 49 = .ok (.iadd, 1) := by decide +kernel
theorem dX4_plans_50 : decode cX4_plans 50 = .ok (.istore 4, 2) := by decide +kernel
theorem dX4_plans_52 : decode cX4_plans 52 = .ok (.iload 4, 2) := by decide +kernel
theorem dX4_plans_54 : decode cX4_plans 54 = .ok (.aload_n 0, 1) := by decide +kernel
theorem dX4_plans_55 : decode cX4_plans 55 = .ok (.getfield 50, 3) := by decide +kernel
theorem dX4_plans_58 : decode cX4_plans 58 = .ok (.iload_n 1, 1) := by decide +kernel
theorem dX4_plans_59 : decode cX4_plans 59 = .ok (.iconst 1, 1) := by decide +kernel
theorem dX4_plans_60 : decode cX4_plans 60 = .ok (.iadd, 1) := by decide +kernel
theorem dX4_plans_61 : decode cX4_plans 61 = .ok (.iaload, 1) := by decide +kernel
theorem dX4_plans_62 : decode cX4_plans 62 = .ok (.if_icmp .ge 19, 3) := by decide +kernel
theorem dX4_plans_65 : decode cX4_plans 65 = .ok (.iload_n 2, 1) := by decide +kernel
theorem dX4_plans_66 : decode cX4_plans 66 = .ok (.iload_n 3, 1) := by decide +kernel
theorem dX4_plans_67 : decode cX4_plans 67 = .ok (.iadd, 1) := by decide +kernel
theorem dX4_plans_68 : decode cX4_plans 68 = .ok (.istore 5, 2) := by decide +kernel
theorem dX4_plans_70 : decode cX4_plans 70 = .ok (.iload_n 2, 1) := by decide +kernel
theorem dX4_plans_71 : decode cX4_plans 71 = .ok (.istore_n 3, 1) := by decide +kernel
theorem dX4_plans_72 : decode cX4_plans 72 = .ok (.iload 5, 2) := by decide +kernel
theorem dX4_plans_74 : decode cX4_plans 74 = .ok (.istore_n 2, 1) := by decide +kernel
theorem dX4_plans_75 : decode cX4_plans 75 = .ok (.iinc 4 1, 3) := by decide +kernel
theorem dX4_plans_78 : decode cX4_plans 78 = .ok (.goto (-26), 3) := by decide +kernel
theorem dX4_plans_81 : decode cX4_plans 81 = .ok (.iload_n 2, 1) := by decide +kernel
theorem dX4_plans_82 : decode cX4_plans 82 = .ok (.ldc_w 273, 3) := by decide +kernel
theorem dX4_plans_85 : decode cX4_plans 85 = .ok (.if_icmp .le 9, 3) := by decide +kernel
theorem dX4_plans_88 : decode cX4_plans 88 = .ok (.ldc_w 273, 3) := by decide +kernel
theorem dX4_plans_91 : decode cX4_plans 91 = .ok (.goto 4, 3) := by decide +kernel
theorem dX4_plans_94 : decode cX4_plans 94 = .ok (.iload_n 2, 1) := by decide +kernel
theorem dX4_plans_95 : decode cX4_plans 95 = .ok (.ireturn, 1) := by decide +kernel
theorem dX4_heavy_0 : decode cX4_heavy 0 = .ok (.aload_n 0, 1) := by decide +kernel
theorem dX4_heavy_1 : decode cX4_heavy 1 = .ok (.iload_n 1, 1) := by decide +kernel
theorem dX4_heavy_2 : decode cX4_heavy 2 = .ok (.ifCond .ge 7, 3) := by decide +kernel
theorem dX4_heavy_5 : decode cX4_heavy 5 = .ok (.iconst 1, 1) := by decide +kernel
theorem dX4_heavy_6 : decode cX4_heavy 6 = .ok (.goto 4, 3) := by decide +kernel
theorem dX4_heavy_9 : decode cX4_heavy 9 = .ok (.iconst 0, 1) := by decide +kernel
theorem dX4_heavy_10 : decode cX4_heavy 10 = .ok (.invokevirtual 134, 3) := by decide +kernel
theorem dX4_heavy_13 : decode cX4_heavy 13 = .ok (.ifCond .eq 5, 3) := by decide +kernel
theorem dX4_heavy_16 : decode cX4_heavy 16 = .ok (.iconst 0, 1) := by decide +kernel
theorem dX4_heavy_17 : decode cX4_heavy 17 = .ok (.ireturn, 1) := by decide +kernel
theorem dX4_heavy_18 : decode cX4_heavy 18 = .ok (.aload_n 0, 1) := by decide +kernel
theorem dX4_heavy_19 : decode cX4_heavy 19 = .ok (.aload_n 0, 1) := by decide +kernel
theorem dX4_heavy_20 : decode cX4_heavy 20 = .ok (.getfield 28, 3) := by decide +kernel
theorem dX4_heavy_23 : decode cX4_heavy 23 = .ok (.invokevirtual 125, 3) := by decide +kernel
theorem dX4_heavy_26 : decode cX4_heavy 26 = .ok (.iconst 0, 1) := by decide +kernel
theorem dX4_heavy_27 : decode cX4_heavy 27 = .ok (.istore_n 2, 1) := by decide +kernel
theorem dX4_heavy_28 : decode cX4_heavy 28 = .ok (.iconst 0, 1) := by decide +kernel
theorem dX4_heavy_29 : decode cX4_heavy 29 = .ok (.istore_n 3, 1) := by decide +kernel
theorem dX4_heavy_30 : decode cX4_heavy 30 = .ok (.iload_n 3, 1) := by decide +kernel
theorem dX4_heavy_31 : decode cX4_heavy 31 = .ok (.aload_n 0, 1) := by decide +kernel
theorem dX4_heavy_32 : decode cX4_heavy 32 = .ok (.getfield 99, 3) := by decide +kernel
theorem dX4_heavy_35 : decode cX4_heavy 35 = .ok (.if_icmp .ge 41, 3) := by decide +kernel
theorem dX4_heavy_38 : decode cX4_heavy 38 = .ok (.iload_n 2, 1) := by decide +kernel
theorem dX4_heavy_39 : decode cX4_heavy 39 = .ok (.aload_n 0, 1) := by decide +kernel
theorem dX4_heavy_40 : decode cX4_heavy 40 = .ok (.getfield 28, 3) := by decide +kernel
theorem dX4_heavy_43 : decode cX4_heavy 43 = .ok (.aload_n 0, 1) := by decide +kernel
theorem dX4_heavy_44 : decode cX4_heavy 44 = .ok (.getfield 56, 3) := by decide +kernel
theorem dX4_heavy_47 : decode cX4_heavy 47 = .ok (.iload_n 3, 1) := by decide +kernel
theorem dX4_heavy_48 : decode cX4_heavy 48 = .ok (.iaload, 1) := by decide +kernel
theorem dX4_heavy_49 : decode cX4_heavy 49 = .ok (.invokestatic 115, 3) := by decide +kernel
theorem dX4_heavy_52 : decode cX4_heavy 52 = .ok (.iload_n 1, 1) := by decide +kernel
theorem dX4_heavy_53 : decode cX4_heavy 53 = .ok (.if_icmp .lt 14, 3) := by decide +kernel
theorem dX4_heavy_56 : decode cX4_heavy 56 = .ok (.iconst 3, 1) := by decide +kernel
theorem dX4_heavy_57 : decode cX4_heavy 57 = .ok (.aload_n 0, 1) := by decide +kernel
theorem dX4_heavy_58 : decode cX4_heavy 58 = .ok (.getfield 56, 3) := by decide +kernel
theorem dX4_heavy_61 : decode cX4_heavy 61 = .ok (.iload_n 3, 1) := by decide +kernel
theorem dX4_heavy_62 : decode cX4_heavy 62 = .ok (.iaload, 1) := by decide +kernel
theorem dX4_heavy_63 : decode cX4_heavy 63 = .ok (.ishl, 1) := by decide +kernel
theorem dX4_heavy_64 : decode cX4_heavy 64 = .ok (.goto 4, 3) := by decide +kernel
theorem dX4_heavy_67 : decode cX4_heavy 67 = .ok (.iconst 0, 1) := by decide +kernel
theorem dX4_heavy_68 : decode cX4_heavy 68 = .ok (.ior, 1) := by decide +kernel
theorem dX4_heavy_69 : decode cX4_heavy 69 = .ok (.istore_n 2, 1) := by decide +kernel
theorem dX4_heavy_70 : decode cX4_heavy 70 = .ok (.iinc 3 1, 3) := by decide +kernel
theorem dX4_heavy_73 : decode cX4_heavy 73 = .ok (.goto (-43), 3) := by decide +kernel
theorem dX4_heavy_76 : decode cX4_heavy 76 = .ok (.iload_n 2, 1) := by decide +kernel
theorem dX4_heavy_77 : decode cX4_heavy 77 = .ok (.ireturn, 1) := by decide +kernel
theorem dX4_rolls_0 : decode cX4_rolls 0 = .ok (.iload_n 1, 1) := by decide +kernel
theorem dX4_rolls_1 : decode cX4_rolls 1 = .ok (.invokestatic 240, 3) := by decide +kernel
theorem dX4_rolls_4 : decode cX4_rolls 4 = .ok (.ifCond .eq 21, 3) := by decide +kernel
theorem dX4_rolls_7 : decode cX4_rolls 7 = .ok (.iload_n 2, 1) := by decide +kernel
theorem dX4_rolls_8 : decode cX4_rolls 8 = .ok (.invokestatic 243, 3) := by decide +kernel
theorem dX4_rolls_11 : decode cX4_rolls 11 = .ok (.ifCond .eq 14, 3) := by decide +kernel
theorem dX4_rolls_14 : decode cX4_rolls 14 = .ok (.aload_n 0, 1) := by decide +kernel
theorem dX4_rolls_15 : decode cX4_rolls 15 = .ok (.getfield 31, 3) := by decide +kernel
theorem dX4_rolls_18 : decode cX4_rolls 18 = .ok (.iconst 0, 1) := by decide +kernel
theorem dX4_rolls_19 : decode cX4_rolls 19 = .ok (.iaload, 1) := by decide +kernel
theorem dX4_rolls_20 : decode cX4_rolls 20 = .ok (.bipush 30, 2) := by decide +kernel
theorem dX4_rolls_22 : decode cX4_rolls 22 = .ok (.if_icmp .ne 5, 3) := by decide +kernel
theorem dX4_rolls_25 : decode cX4_rolls 25 = .ok (.iconst 0, 1) := by decide +kernel
theorem dX4_rolls_26 : decode cX4_rolls 26 = .ok (.ireturn, 1) := by decide +kernel
theorem dX4_rolls_27 : decode cX4_rolls 27 = .ok (.aload_n 0, 1) := by decide +kernel
theorem dX4_rolls_28 : decode cX4_rolls 28 = .ok (.getfield 31, 3) := by decide +kernel
theorem dX4_rolls_31 : decode cX4_rolls 31 = .ok (.iload_n 1, 1) := by decide +kernel
theorem dX4_rolls_32 : decode cX4_rolls 32 = .ok (.iload_n 2, 1) := by decide +kernel
theorem dX4_rolls_33 : decode cX4_rolls 33 = .ok (.invokestatic 249, 3) := by decide +kernel
theorem dX4_rolls_36 : decode cX4_rolls 36 = .ok (.pop, 1) := by decide +kernel
theorem dX4_rolls_37 : decode cX4_rolls 37 = .ok (.iconst 1, 1) := by decide +kernel
theorem dX4_rolls_38 : decode cX4_rolls 38 = .ok (.ireturn, 1) := by decide +kernel
theorem dX4_strikes_0 : decode cX4_strikes 0 = .ok (.iload_n 1, 1) := by decide +kernel
theorem dX4_strikes_1 : decode cX4_strikes 1 = .ok (.aload_n 0, 1) := by decide +kernel
theorem dX4_strikes_2 : decode cX4_strikes 2 = .ok (.getfield 31, 3) := by decide +kernel
theorem dX4_strikes_5 : decode cX4_strikes 5 = .ok (.iconst 0, 1) := by decide +kernel
theorem dX4_strikes_6 : decode cX4_strikes 6 = .ok (.iaload, 1) := by decide +kernel
theorem dX4_strikes_7 : decode cX4_strikes 7 = .ok (.if_icmp .lt 5, 3) := by decide +kernel
theorem dX4_strikes_10 : decode cX4_strikes 10 = .ok (.iconst 0, 1) := by decide +kernel
theorem dX4_strikes_11 : decode cX4_strikes 11 = .ok (.ireturn, 1) := by decide +kernel
theorem dX4_strikes_12 : decode cX4_strikes 12 = .ok (.aload_n 0, 1) := by decide +kernel
theorem dX4_strikes_13 : decode cX4_strikes 13 = .ok (.getfield 31, 3) := by decide +kernel
theorem dX4_strikes_16 : decode cX4_strikes 16 = .ok (.iload_n 1, 1) := by decide +kernel
theorem dX4_strikes_17 : decode cX4_strikes 17 = .ok (.invokestatic 252, 3) := by decide +kernel
theorem dX4_strikes_20 : decode cX4_strikes 20 = .ok (.pop, 1) := by decide +kernel
theorem dX4_strikes_21 : decode cX4_strikes 21 = .ok (.iconst 1, 1) := by decide +kernel
theorem dX4_strikes_22 : decode cX4_strikes 22 = .ok (.ireturn, 1) := by decide +kernel
theorem dX4_weighs_0 : decode cX4_weighs 0 = .ok (.iload_n 1, 1) := by decide +kernel
theorem dX4_weighs_1 : decode cX4_weighs 1 = .ok (.aload_n 0, 1) := by decide +kernel
theorem dX4_weighs_2 : decode cX4_weighs 2 = .ok (.getfield 31, 3) := by decide +kernel
theorem dX4_weighs_5 : decode cX4_weighs 5 = .ok (.iconst 0, 1) := by decide +kernel
theorem dX4_weighs_6 : decode cX4_weighs 6 = .ok (.iaload, 1) := by decide +kernel
theorem dX4_weighs_7 : decode cX4_weighs 7 = .ok (.if_icmp .ge 10, 3) := by decide +kernel
theorem dX4_weighs_10 : decode cX4_weighs 10 = .ok (.iload_n 2, 1) := by decide +kernel
theorem dX4_weighs_11 : decode cX4_weighs 11 = .ok (.invokestatic 243, 3) := by decide +kernel
theorem dX4_weighs_14 : decode cX4_weighs 14 = .ok (.ifCond .ne 5, 3) := by decide +kernel
theorem dX4_weighs_17 : decode cX4_weighs 17 = .ok (.iconst 0, 1) := by decide +kernel
theorem dX4_weighs_18 : decode cX4_weighs 18 = .ok (.ireturn, 1) := by decide +kernel
theorem dX4_weighs_19 : decode cX4_weighs 19 = .ok (.aload_n 0, 1) := by decide +kernel
theorem dX4_weighs_20 : decode cX4_weighs 20 = .ok (.getfield 31, 3) := by decide +kernel
theorem dX4_weighs_23 : decode cX4_weighs 23 = .ok (.bipush 65, 2) := by decide +kernel
theorem dX4_weighs_25 : decode cX4_weighs 25 = .ok (.iload_n 1, 1) := by decide +kernel
theorem dX4_weighs_26 : decode cX4_weighs 26 = .ok (.iadd, 1) := by decide +kernel
theorem dX4_weighs_27 : decode cX4_weighs 27 = .ok (.iload_n 2, 1) := by decide +kernel
theorem dX4_weighs_28 : decode cX4_weighs 28 = .ok (.iastore, 1) := by decide +kernel
theorem dX4_weighs_29 : decode cX4_weighs 29 = .ok (.iconst 1, 1) := by decide +kernel
theorem dX4_weighs_30 : decode cX4_weighs 30 = .ok (.ireturn, 1) := by decide +kernel
theorem dX4_sets_0 : decode cX4_sets 0 = .ok (.iload_n 1, 1) := by decide +kernel
theorem dX4_sets_1 : decode cX4_sets 1 = .ok (.iload_n 2, 1) := by decide +kernel
theorem dX4_sets_2 : decode cX4_sets 2 = .ok (.invokestatic 263, 3) := by decide +kernel
theorem dX4_sets_5 : decode cX4_sets 5 = .ok (.ifCond .ne 5, 3) := by decide +kernel
theorem dX4_sets_8 : decode cX4_sets 8 = .ok (.iconst 0, 1) := by decide +kernel
theorem dX4_sets_9 : decode cX4_sets 9 = .ok (.ireturn, 1) := by decide +kernel
theorem dX4_sets_10 : decode cX4_sets 10 = .ok (.aload_n 0, 1) := by decide +kernel
theorem dX4_sets_11 : decode cX4_sets 11 = .ok (.getfield 31, 3) := by decide +kernel
theorem dX4_sets_14 : decode cX4_sets 14 = .ok (.iconst 1, 1) := by decide +kernel
theorem dX4_sets_15 : decode cX4_sets 15 = .ok (.iload_n 1, 1) := by decide +kernel
theorem dX4_sets_16 : decode cX4_sets 16 = .ok (.iadd, 1) := by decide +kernel
theorem dX4_sets_17 : decode cX4_sets 17 = .ok (.iload_n 2, 1) := by decide +kernel
theorem dX4_sets_18 : decode cX4_sets 18 = .ok (.iastore, 1) := by decide +kernel
theorem dX4_sets_19 : decode cX4_sets 19 = .ok (.iconst 1, 1) := by decide +kernel
theorem dX4_sets_20 : decode cX4_sets 20 = .ok (.ireturn, 1) := by decide +kernel
theorem dX4_leaves_0 : decode cX4_leaves 0 = .ok (.aload_n 0, 1) := by decide +kernel
theorem dX4_leaves_1 : decode cX4_leaves 1 = .ok (.getfield 31, 3) := by decide +kernel
theorem dX4_leaves_4 : decode cX4_leaves 4 = .ok (.iconst 0, 1) := by decide +kernel
theorem dX4_leaves_5 : decode cX4_leaves 5 = .ok (.iaload, 1) := by decide +kernel
theorem dX4_leaves_6 : decode cX4_leaves 6 = .ok (.ifCond .ne 5, 3) := by decide +kernel
theorem dX4_leaves_9 : decode cX4_leaves 9 = .ok (.iconst 0, 1) := by decide +kernel
theorem dX4_leaves_10 : decode cX4_leaves 10 = .ok (.ireturn, 1) := by decide +kernel
theorem dX4_leaves_11 : decode cX4_leaves 11 = .ok (.aload_n 0, 1) := by decide +kernel
theorem dX4_leaves_12 : decode cX4_leaves 12 = .ok (.aload_n 0, 1) := by decide +kernel
theorem dX4_leaves_13 : decode cX4_leaves 13 = .ok (.getfield 31, 3) := by decide +kernel
theorem dX4_leaves_16 : decode cX4_leaves 16 = .ok (.invokevirtual 267, 3) := by decide +kernel
theorem dX4_leaves_19 : decode cX4_leaves 19 = .ok (.pop, 1) := by decide +kernel
theorem dX4_leaves_20 : decode cX4_leaves 20 = .ok (.iconst 1, 1) := by decide +kernel
theorem dX4_leaves_21 : decode cX4_leaves 21 = .ok (.ireturn, 1) := by decide +kernel
theorem dX4_does_0 : decode cX4_does 0 = .ok (.iload_n 1, 1) := by decide +kernel
theorem dX4_does_1 : decode cX4_does 1 = .ok (.sipush 10000, 3) := by decide +kernel
theorem dX4_does_4 : decode cX4_does 4 = .ok (.idiv, 1) := by decide +kernel
theorem dX4_does_5 : decode cX4_does 5 = .ok (.istore_n 2, 1) := by decide +kernel
theorem dX4_does_6 : decode cX4_does 6 = .ok (.iload_n 1, 1) := by decide +kernel
theorem dX4_does_7 : decode cX4_does 7 = .ok (.bipush 100, 2) := by decide +kernel
theorem dX4_does_9 : decode cX4_does 9 = .ok (.idiv, 1) := by decide +kernel
theorem dX4_does_10 : decode cX4_does 10 = .ok (.bipush 100, 2) := by decide +kernel
theorem dX4_does_12 : decode cX4_does 12 = .ok (.irem, 1) := by decide +kernel
theorem dX4_does_13 : decode cX4_does 13 = .ok (.istore_n 3, 1) := by decide +kernel
theorem dX4_does_14 : decode cX4_does 14 = .ok (.iload_n 1, 1) := by decide +kernel
theorem dX4_does_15 : decode cX4_does 15 = .ok (.bipush 100, 2) := by decide +kernel
theorem dX4_does_17 : decode cX4_does 17 = .ok (.irem, 1) := by decide +kernel
theorem dX4_does_18 : decode cX4_does 18 = .ok (.istore 4, 2) := by decide +kernel
theorem dX4_does_20 : decode cX4_does 20 = .ok (.aload_n 0, 1) := by decide +kernel
theorem dX4_does_21 : decode cX4_does 21 = .ok (.aload_n 0, 1) := by decide +kernel
theorem dX4_does_22 : decode cX4_does 22 = .ok (.getfield 31, 3) := by decide +kernel
theorem dX4_does_25 : decode cX4_does 25 = .ok (.invokevirtual 125, 3) := by decide +kernel
theorem dX4_does_28 : decode cX4_does 28 = .ok (.iload_n 2, 1) := by decide +kernel
theorem dX4_does_29 : decode cX4_does 29 = .ok (.tableswitch 257 1 9 #[51, 59, 78, 86, 117, 138, 157, 185, 207], 51) := by decide +kernel
theorem dX4_does_80 : decode cX4_does 80 = .ok (.aload_n 0, 1) := by decide +kernel
theorem dX4_does_81 : decode cX4_does 81 = .ok (.iload_n 3, 1) := by decide +kernel
theorem dX4_does_82 : decode cX4_does 82 = .ok (.iload 4, 2) := by decide +kernel
theorem dX4_does_84 : decode cX4_does 84 = .ok (.invokevirtual 274, 3) := by decide +kernel
theorem dX4_does_87 : decode cX4_does 87 = .ok (.ireturn, 1) := by decide +kernel
theorem dX4_does_88 : decode cX4_does 88 = .ok (.iload 4, 2) := by decide +kernel
theorem dX4_does_90 : decode cX4_does 90 = .ok (.ifCond .ne 15, 3) := by decide +kernel
theorem dX4_does_93 : decode cX4_does 93 = .ok (.aload_n 0, 1) := by decide +kernel
theorem dX4_does_94 : decode cX4_does 94 = .ok (.iload_n 3, 1) := by decide +kernel
theorem dX4_does_95 : decode cX4_does 95 = .ok (.invokevirtual 277, 3) := by decide +kernel
theorem dX4_does_98 : decode cX4_does 98 = .ok (.ifCond .eq 7, 3) := by decide +kernel
theorem dX4_does_101 : decode cX4_does 101 = .ok (.iconst 1, 1) := by decide +kernel
theorem dX4_does_102 : decode cX4_does 102 = .ok (.goto 4, 3) := by decide +kernel
theorem dX4_does_105 : decode cX4_does 105 = .ok (.iconst 0, 1) := by decide +kernel
theorem dX4_does_106 : decode cX4_does 106 = .ok (.ireturn, 1) := by decide +kernel
theorem dX4_does_107 : decode cX4_does 107 = .ok (.aload_n 0, 1) := by decide +kernel
theorem dX4_does_108 : decode cX4_does 108 = .ok (.iload_n 3, 1) := by decide +kernel
theorem dX4_does_109 : decode cX4_does 109 = .ok (.iload 4, 2) := by decide +kernel
theorem dX4_does_111 : decode cX4_does 111 = .ok (.invokevirtual 280, 3) := by decide +kernel
theorem dX4_does_114 : decode cX4_does 114 = .ok (.ireturn, 1) := by decide +kernel
theorem dX4_does_115 : decode cX4_does 115 = .ok (.iload_n 1, 1) := by decide +kernel
theorem dX4_does_116 : decode cX4_does 116 = .ok (.bipush 10, 2) := by decide +kernel
theorem dX4_does_118 : decode cX4_does 118 = .ok (.irem, 1) := by decide +kernel
theorem dX4_does_119 : decode cX4_does 119 = .ok (.ifCond .ne 25, 3) := by decide +kernel
theorem dX4_does_122 : decode cX4_does 122 = .ok (.aload_n 0, 1) := by decide +kernel
theorem dX4_does_123 : decode cX4_does 123 = .ok (.iload_n 3, 1) := by decide +kernel
theorem dX4_does_124 : decode cX4_does 124 = .ok (.bipush 10, 2) := by decide +kernel
theorem dX4_does_126 : decode cX4_does 126 = .ok (.idiv, 1) := by decide +kernel
theorem dX4_does_127 : decode cX4_does 127 = .ok (.iload_n 1, 1) := by decide +kernel
theorem dX4_does_128 : decode cX4_does 128 = .ok (.bipush 10, 2) := by decide +kernel
theorem dX4_does_130 : decode cX4_does 130 = .ok (.idiv, 1) := by decide +kernel
theorem dX4_does_131 : decode cX4_does 131 = .ok (.bipush 100, 2) := by decide +kernel
theorem dX4_does_133 : decode cX4_does 133 = .ok (.irem, 1) := by decide +kernel
theorem dX4_does_134 : decode cX4_does 134 = .ok (.invokevirtual 283, 3) := by decide +kernel
theorem dX4_does_137 : decode cX4_does 137 = .ok (.ifCond .eq 7, 3) := by decide +kernel
theorem dX4_does_140 : decode cX4_does 140 = .ok (.iconst 1, 1) := by decide +kernel
theorem dX4_does_141 : decode cX4_does 141 = .ok (.goto 4, 3) := by decide +kernel
theorem dX4_does_144 : decode cX4_does 144 = .ok (.iconst 0, 1) := by decide +kernel
theorem dX4_does_145 : decode cX4_does 145 = .ok (.ireturn, 1) := by decide +kernel
theorem dX4_does_146 : decode cX4_does 146 = .ok (.iload_n 1, 1) := by decide +kernel
theorem dX4_does_147 : decode cX4_does 147 = .ok (.sipush 10000, 3) := by decide +kernel
theorem dX4_does_150 : decode cX4_does 150 = .ok (.irem, 1) := by decide +kernel
theorem dX4_does_151 : decode cX4_does 151 = .ok (.ifCond .ne 14, 3) := by decide +kernel
theorem dX4_does_154 : decode cX4_does 154 = .ok (.aload_n 0, 1) := by decide +kernel
theorem dX4_does_155 : decode cX4_does 155 = .ok (.invokevirtual 286, 3) := by decide +kernel
theorem dX4_does_158 : decode cX4_does 158 = .ok (.ifCond .eq 7, 3) := by decide +kernel
theorem dX4_does_161 : decode cX4_does 161 = .ok (.iconst 1, 1) := by decide +kernel
theorem dX4_does_162 : decode cX4_does 162 = .ok (.goto 4, 3) := by decide +kernel
theorem dX4_does_165 : decode cX4_does 165 = .ok (.iconst 0, 1) := by decide +kernel
theorem dX4_does_166 : decode cX4_does 166 = .ok (.ireturn, 1) := by decide +kernel
theorem dX4_does_167 : decode cX4_does 167 = .ok (.iload_n 3, 1) := by decide +kernel
theorem dX4_does_168 : decode cX4_does 168 = .ok (.ifCond .ne 16, 3) := by decide +kernel
theorem dX4_does_171 : decode cX4_does 171 = .ok (.aload_n 0, 1) := by decide +kernel
theorem dX4_does_172 : decode cX4_does 172 = .ok (.getfield 99, 3) := by decide +kernel
theorem dX4_does_175 : decode cX4_does 175 = .ok (.iload 4, 2) := by decide +kernel
theorem dX4_does_177 : decode cX4_does 177 = .ok (.if_icmp .lt 7, 3) := by decide +kernel
theorem dX4_does_180 : decode cX4_does 180 = .ok (.iconst 1, 1) := by decide +kernel
theorem dX4_does_181 : decode cX4_does 181 = .ok (.goto 4, 3) := by decide +kernel
theorem dX4_does_184 : decode cX4_does 184 = .ok (.iconst 0, 1) := by decide +kernel
theorem dX4_does_185 : decode cX4_does 185 = .ok (.ireturn, 1) := by decide +kernel
theorem dX4_does_186 : decode cX4_does 186 = .ok (.iload_n 3, 1) := by decide +kernel
theorem dX4_does_187 : decode cX4_does 187 = .ok (.ifCond .ne 25, 3) := by decide +kernel
theorem dX4_does_190 : decode cX4_does 190 = .ok (.aload_n 0, 1) := by decide +kernel
theorem dX4_does_191 : decode cX4_does 191 = .ok (.getfield 31, 3) := by decide +kernel
theorem dX4_does_194 : decode cX4_does 194 = .ok (.iconst 0, 1) := by decide +kernel
theorem dX4_does_195 : decode cX4_does 195 = .ok (.iaload, 1) := by decide +kernel
theorem dX4_does_196 : decode cX4_does 196 = .ok (.iconst 2, 1) := by decide +kernel
theorem dX4_does_197 : decode cX4_does 197 = .ok (.aload_n 0, 1) := by decide +kernel
theorem dX4_does_198 : decode cX4_does 198 = .ok (.getfield 99, 3) := by decide +kernel
theorem dX4_does_201 : decode cX4_does 201 = .ok (.imul, 1) := by decide +kernel
theorem dX4_does_202 : decode cX4_does 202 = .ok (.isub, 1) := by decide +kernel
theorem dX4_does_203 : decode cX4_does 203 = .ok (.iload 4, 2) := by decide +kernel
theorem dX4_does_205 : decode cX4_does 205 = .ok (.if_icmp .gt 7, 3) := by decide +kernel
theorem dX4_does_208 : decode cX4_does 208 = .ok (.iconst 1, 1) := by decide +kernel
theorem dX4_does_209 : decode cX4_does 209 = .ok (.goto 4, 3) := by decide +kernel
theorem dX4_does_212 : decode cX4_does 212 = .ok (.iconst 0, 1) := by decide +kernel
theorem dX4_does_213 : decode cX4_does 213 = .ok (.ireturn, 1) := by decide +kernel
theorem dX4_does_214 : decode cX4_does 214 = .ok (.aload_n 0, 1) := by decide +kernel
theorem dX4_does_215 : decode cX4_does 215 = .ok (.aload_n 0, 1) := by decide +kernel
theorem dX4_does_216 : decode cX4_does 216 = .ok (.getfield 31, 3) := by decide +kernel
theorem dX4_does_219 : decode cX4_does 219 = .ok (.invokevirtual 203, 3) := by decide +kernel
theorem dX4_does_222 : decode cX4_does 222 = .ok (.iload_n 1, 1) := by decide +kernel
theorem dX4_does_223 : decode cX4_does 223 = .ok (.sipush 10000, 3) := by decide +kernel
theorem dX4_does_226 : decode cX4_does 226 = .ok (.irem, 1) := by decide +kernel
theorem dX4_does_227 : decode cX4_does 227 = .ok (.if_icmp .lt 7, 3) := by decide +kernel
theorem dX4_does_230 : decode cX4_does 230 = .ok (.iconst 1, 1) := by decide +kernel
theorem dX4_does_231 : decode cX4_does 231 = .ok (.goto 4, 3) := by decide +kernel
theorem dX4_does_234 : decode cX4_does 234 = .ok (.iconst 0, 1) := by decide +kernel
theorem dX4_does_235 : decode cX4_does 235 = .ok (.ireturn, 1) := by decide +kernel
theorem dX4_does_236 : decode cX4_does 236 = .ok (.iload_n 3, 1) := by decide +kernel
theorem dX4_does_237 : decode cX4_does 237 = .ok (.aload_n 0, 1) := by decide +kernel
theorem dX4_does_238 : decode cX4_does 238 = .ok (.getfield 31, 3) := by decide +kernel
theorem dX4_does_241 : decode cX4_does 241 = .ok (.iconst 0, 1) := by decide +kernel
theorem dX4_does_242 : decode cX4_does 242 = .ok (.iaload, 1) := by decide +kernel
theorem dX4_does_243 : decode cX4_does 243 = .ok (.if_icmp .ge 41, 3) := by decide +kernel
theorem dX4_does_246 : decode cX4_does 246 = .ok (.iload 4, 2) := by decide +kernel
theorem dX4_does_248 : decode cX4_does 248 = .ok (.iconst 2, 1) := by decide +kernel
theorem dX4_does_249 : decode cX4_does 249 = .ok (.if_icmp .ge 35, 3) := by decide +kernel
theorem dX4_does_252 : decode cX4_does 252 = .ok (.aload_n 0, 1) := by decide +kernel
theorem dX4_does_253 : decode cX4_does 253 = .ok (.iload_n 3, 1) := by decide +kernel
theorem dX4_does_254 : decode cX4_does 254 = .ok (.invokevirtual 216, 3) := by decide +kernel
theorem dX4_does_257 : decode cX4_does 257 = .ok (.iconst (-1), 1) := by decide +kernel
theorem dX4_does_258 : decode cX4_does 258 = .ok (.if_icmp .eq 7, 3) := by decide +kernel
theorem dX4_does_261 : decode cX4_does 261 = .ok (.iconst 1, 1) := by decide +kernel
theorem dX4_does_262 : decode cX4_does 262 = .ok (.goto 4, 3) := by decide +kernel
theorem dX4_does_265 : decode cX4_does 265 = .ok (.iconst 0, 1) := by decide +kernel
theorem dX4_does_266 : decode cX4_does 266 = .ok (.iload 4, 2) := by decide +kernel
theorem dX4_does_268 : decode cX4_does 268 = .ok (.iconst 1, 1) := by decide +kernel
theorem dX4_does_269 : decode cX4_does 269 = .ok (.if_icmp .ne 7, 3) := by decide +kernel
theorem dX4_does_272 : decode cX4_does 272 = .ok (.iconst 1, 1) := by decide +kernel
theorem dX4_does_273 : decode cX4_does 273 = .ok (.goto 4, 3) := by decide +kernel
theorem dX4_does_276 : decode cX4_does 276 = .ok (.iconst 0, 1) := by decide +kernel
theorem dX4_does_277 : decode cX4_does 277 = .ok (.if_icmp .ne 7, 3) := by decide +kernel
theorem dX4_does_280 : decode cX4_does 280 = .ok (.iconst 1, 1) := by decide +kernel
theorem dX4_does_281 : decode cX4_does 281 = .ok (.goto 4, 3) := by decide +kernel
theorem dX4_does_284 : decode cX4_does 284 = .ok (.iconst 0, 1) := by decide +kernel
theorem dX4_does_285 : decode cX4_does 285 = .ok (.ireturn, 1) := by decide +kernel
theorem dX4_does_286 : decode cX4_does 286 = .ok (.iconst 0, 1) := by decide +kernel
theorem dX4_does_287 : decode cX4_does 287 = .ok (.ireturn, 1) := by decide +kernel
theorem dX4_runScript_0 : decode cX4_runScript 0 = .ok (.iload_n 1, 1) := by decide +kernel
theorem dX4_runScript_1 : decode cX4_runScript 1 = .ok (.i2l, 1) := by decide +kernel
theorem dX4_runScript_2 : decode cX4_runScript 2 = .ok (.lconst 1, 1) := by decide +kernel
theorem dX4_runScript_3 : decode cX4_runScript 3 = .ok (.ldc2_w 214, 3) := by decide +kernel
theorem dX4_runScript_6 : decode cX4_runScript 6 = .ok (.invokestatic 118, 3) := by decide +kernel
theorem dX4_runScript_9 : decode cX4_runScript 9 = .ok (.istore 4, 2) := by decide +kernel
theorem dX4_runScript_11 : decode cX4_runScript 11 = .ok (.aload_n 0, 1) := by decide +kernel
theorem dX4_runScript_12 : decode cX4_runScript 12 = .ok (.iload 4, 2) := by decide +kernel
theorem dX4_runScript_14 : decode cX4_runScript 14 = .ok (.ifCond .eq 32, 3) := by decide +kernel
theorem dX4_runScript_17 : decode cX4_runScript 17 = .ok (.lload_n 2, 1) := by decide +kernel
theorem dX4_runScript_18 : decode cX4_runScript 18 = .ok (.lconst 0, 1) := by decide +kernel
theorem dX4_runScript_19 : decode cX4_runScript 19 = .ok (.iload 4, 2) := by decide +kernel
theorem dX4_runScript_21 : decode cX4_runScript 21 = .ok (.ifCond .eq 9, 3) := by decide +kernel
theorem dX4_runScript_24 : decode cX4_runScript 24 = .ok (.iconst 5, 1) := by decide +kernel
theorem dX4_runScript_25 : decode cX4_runScript 25 = .ok (.iload_n 1, 1) := by decide +kernel
theorem dX4_runScript_26 : decode cX4_runScript 26 = .ok (.imul, 1) := by decide +kernel
theorem dX4_runScript_27 : decode cX4_runScript 27 = .ok (.goto 4, 3) := by decide +kernel
theorem dX4_runScript_30 : decode cX4_runScript 30 = .ok (.iconst 0, 1) := by decide +kernel
theorem dX4_runScript_31 : decode cX4_runScript 31 = .ok (.invokestatic 290, 3) := by decide +kernel
theorem dX4_runScript_34 : decode cX4_runScript 34 = .ok (.lconst 1, 1) := by decide +kernel
theorem dX4_runScript_35 : decode cX4_runScript 35 = .ok (.lsub, 1) := by decide +kernel
theorem dX4_runScript_36 : decode cX4_runScript 36 = .ok (.invokestatic 118, 3) := by decide +kernel
theorem dX4_runScript_39 : decode cX4_runScript 39 = .ok (.ifCond .eq 7, 3) := by decide +kernel
theorem dX4_runScript_42 : decode cX4_runScript 42 = .ok (.iconst 0, 1) := by decide +kernel
theorem dX4_runScript_43 : decode cX4_runScript 43 = .ok (.goto 4, 3) := by decide +kernel
theorem dX4_runScript_46 : decode cX4_runScript 46 = .ok (.iconst 1, 1) := by decide +kernel
theorem dX4_runScript_47 : decode cX4_runScript 47 = .ok (.invokevirtual 134, 3) := by decide +kernel
theorem dX4_runScript_50 : decode cX4_runScript 50 = .ok (.ifCond .eq 5, 3) := by decide +kernel
theorem dX4_runScript_53 : decode cX4_runScript 53 = .ok (.iconst 0, 1) := by decide +kernel
theorem dX4_runScript_54 : decode cX4_runScript 54 = .ok (.ireturn, 1) := by decide +kernel
theorem dX4_runScript_55 : decode cX4_runScript 55 = .ok (.aload_n 0, 1) := by decide +kernel
theorem dX4_runScript_56 : decode cX4_runScript 56 = .ok (.invokevirtual 270, 3) := by decide +kernel
theorem dX4_runScript_59 : decode cX4_runScript 59 = .ok (.iconst 0, 1) := by decide +kernel
theorem dX4_runScript_60 : decode cX4_runScript 60 = .ok (.istore 5, 2) := by decide +kernel
theorem dX4_runScript_62 : decode cX4_runScript 62 = .ok (.iload 5, 2) := by decide +kernel
theorem dX4_runScript_64 : decode cX4_runScript 64 = .ok (.iload_n 1, 1) := by decide +kernel
theorem dX4_runScript_65 : decode cX4_runScript 65 = .ok (.if_icmp .ge 37, 3) := by decide +kernel
theorem dX4_runScript_68 : decode cX4_runScript 68 = .ok (.aload_n 0, 1) := by decide +kernel
theorem dX4_runScript_69 : decode cX4_runScript 69 = .ok (.lload_n 2, 1) := by decide +kernel
theorem dX4_runScript_70 : decode cX4_runScript 70 = .ok (.iconst 5, 1) := by decide +kernel
theorem dX4_runScript_71 : decode cX4_runScript 71 = .ok (.iload_n 1, 1) := by decide +kernel
theorem dX4_runScript_72 : decode cX4_runScript 72 = .ok (.iconst 1, 1) := by decide +kernel
theorem dX4_runScript_73 : decode cX4_runScript 73 = .ok (.isub, 1) := by decide +kernel
theorem dX4_runScript_74 : decode cX4_runScript 74 = .ok (.iload 5, 2) := by decide +kernel
theorem dX4_runScript_76 : decode cX4_runScript 76 = .ok (.isub, 1) := by decide +kernel
theorem dX4_runScript_77 : decode cX4_runScript 77 = .ok (.imul, 1) := by decide +kernel
theorem dX4_runScript_78 : decode cX4_runScript 78 = .ok (.invokestatic 290, 3) := by decide +kernel
theorem dX4_runScript_81 : decode cX4_runScript 81 = .ok (.ldiv, 1) := by decide +kernel
theorem dX4_runScript_82 : decode cX4_runScript 82 = .ok (.ldc2_w 294, 3) := by decide +kernel
theorem dX4_runScript_85 : decode cX4_runScript 85 = .ok (.lrem, 1) := by decide +kernel
theorem dX4_runScript_86 : decode cX4_runScript 86 = .ok (.l2i, 1) := by decide +kernel
theorem dX4_runScript_87 : decode cX4_runScript 87 = .ok (.invokevirtual 296, 3) := by decide +kernel
theorem dX4_runScript_90 : decode cX4_runScript 90 = .ok (.ifCond .ne 6, 3) := by decide +kernel
theorem dX4_runScript_93 : decode cX4_runScript 93 = .ok (.iload 5, 2) := by decide +kernel
theorem dX4_runScript_95 : decode cX4_runScript 95 = .ok (.ireturn, 1) := by decide +kernel
theorem dX4_runScript_96 : decode cX4_runScript 96 = .ok (.iinc 5 1, 3) := by decide +kernel
theorem dX4_runScript_99 : decode cX4_runScript 99 = .ok (.goto (-37), 3) := by decide +kernel
theorem dX4_runScript_102 : decode cX4_runScript 102 = .ok (.iconst (-1), 1) := by decide +kernel
theorem dX4_runScript_103 : decode cX4_runScript 103 = .ok (.ireturn, 1) := by decide +kernel
theorem dX4_pauseOf_0 : decode cX4_pauseOf 0 = .ok (.iload_n 1, 1) := by decide +kernel
theorem dX4_pauseOf_1 : decode cX4_pauseOf 1 = .ok (.bipush 8, 2) := by decide +kernel
theorem dX4_pauseOf_3 : decode cX4_pauseOf 3 = .ok (.irem, 1) := by decide +kernel
theorem dX4_pauseOf_4 : decode cX4_pauseOf 4 = .ok (.ifCond .ne 14, 3) := by decide +kernel
theorem dX4_pauseOf_7 : decode cX4_pauseOf 7 = .ok (.iconst 1, 1) := by decide +kernel
theorem dX4_pauseOf_8 : decode cX4_pauseOf 8 = .ok (.iload_n 1, 1) := by decide +kernel
theorem dX4_pauseOf_9 : decode cX4_pauseOf 9 = .ok (.sipush 2048, 3) := by decide +kernel
theorem dX4_pauseOf_12 : decode cX4_pauseOf 12 = .ok (.idiv, 1) := by decide +kernel
theorem dX4_pauseOf_13 : decode cX4_pauseOf 13 = .ok (.bipush 60, 2) := by decide +kernel
theorem dX4_pauseOf_15 : decode cX4_pauseOf 15 = .ok (.irem, 1) := by decide +kernel
theorem dX4_pauseOf_16 : decode cX4_pauseOf 16 = .ok (.iadd, 1) := by decide +kernel
theorem dX4_pauseOf_17 : decode cX4_pauseOf 17 = .ok (.ireturn, 1) := by decide +kernel
theorem dX4_pauseOf_18 : decode cX4_pauseOf 18 = .ok (.iload_n 1, 1) := by decide +kernel
theorem dX4_pauseOf_19 : decode cX4_pauseOf 19 = .ok (.iconst 2, 1) := by decide +kernel
theorem dX4_pauseOf_20 : decode cX4_pauseOf 20 = .ok (.irem, 1) := by decide +kernel
theorem dX4_pauseOf_21 : decode cX4_pauseOf 21 = .ok (.iconst 1, 1) := by decide +kernel
theorem dX4_pauseOf_22 : decode cX4_pauseOf 22 = .ok (.if_icmp .ne 12, 3) := by decide +kernel
theorem dX4_pauseOf_25 : decode cX4_pauseOf 25 = .ok (.aload_n 0, 1) := by decide +kernel
theorem dX4_pauseOf_26 : decode cX4_pauseOf 26 = .ok (.getfield 31, 3) := by decide +kernel
theorem dX4_pauseOf_29 : decode cX4_pauseOf 29 = .ok (.iconst 1, 1) := by decide +kernel
theorem dX4_pauseOf_30 : decode cX4_pauseOf 30 = .ok (.iaload, 1) := by decide +kernel
theorem dX4_pauseOf_31 : decode cX4_pauseOf 31 = .ok (.goto 17, 3) := by decide +kernel
theorem dX4_pauseOf_34 : decode cX4_pauseOf 34 = .ok (.aload_n 0, 1) := by decide +kernel
theorem dX4_pauseOf_35 : decode cX4_pauseOf 35 = .ok (.getfield 31, 3) := by decide +kernel
theorem dX4_pauseOf_38 : decode cX4_pauseOf 38 = .ok (.iconst 2, 1) := by decide +kernel
theorem dX4_pauseOf_39 : decode cX4_pauseOf 39 = .ok (.iaload, 1) := by decide +kernel
theorem dX4_pauseOf_40 : decode cX4_pauseOf 40 = .ok (.iload_n 1, 1) := by decide +kernel
theorem dX4_pauseOf_41 : decode cX4_pauseOf 41 = .ok (.sipush 2048, 3) := by decide +kernel
theorem dX4_pauseOf_44 : decode cX4_pauseOf 44 = .ok (.idiv, 1) := by decide +kernel
theorem dX4_pauseOf_45 : decode cX4_pauseOf 45 = .ok (.iconst 4, 1) := by decide +kernel
theorem dX4_pauseOf_46 : decode cX4_pauseOf 46 = .ok (.irem, 1) := by decide +kernel
theorem dX4_pauseOf_47 : decode cX4_pauseOf 47 = .ok (.iadd, 1) := by decide +kernel
theorem dX4_pauseOf_48 : decode cX4_pauseOf 48 = .ok (.istore_n 2, 1) := by decide +kernel
theorem dX4_pauseOf_49 : decode cX4_pauseOf 49 = .ok (.iload_n 2, 1) := by decide +kernel
theorem dX4_pauseOf_50 : decode cX4_pauseOf 50 = .ok (.bipush 60, 2) := by decide +kernel
theorem dX4_pauseOf_52 : decode cX4_pauseOf 52 = .ok (.if_icmp .le 8, 3) := by decide +kernel
theorem dX4_pauseOf_55 : decode cX4_pauseOf 55 = .ok (.bipush 60, 2) := by decide +kernel
theorem dX4_pauseOf_57 : decode cX4_pauseOf 57 = .ok (.goto 4, 3) := by decide +kernel
theorem dX4_pauseOf_60 : decode cX4_pauseOf 60 = .ok (.iload_n 2, 1) := by decide +kernel
theorem dX4_pauseOf_61 : decode cX4_pauseOf 61 = .ok (.ireturn, 1) := by decide +kernel
theorem dX4_simulate_0 : decode cX4_simulate 0 = .ok (.aload_n 0, 1) := by decide +kernel
theorem dX4_simulate_1 : decode cX4_simulate 1 = .ok (.iload_n 3, 1) := by decide +kernel
theorem dX4_simulate_2 : decode cX4_simulate 2 = .ok (.i2l, 1) := by decide +kernel
theorem dX4_simulate_3 : decode cX4_simulate 3 = .ok (.lconst 1, 1) := by decide +kernel
theorem dX4_simulate_4 : decode cX4_simulate 4 = .ok (.ldc2_w 236, 3) := by decide +kernel
theorem dX4_simulate_7 : decode cX4_simulate 7 = .ok (.invokestatic 118, 3) := by decide +kernel
theorem dX4_simulate_10 : decode cX4_simulate 10 = .ok (.ifCond .eq 7, 3) := by decide +kernel
theorem dX4_simulate_13 : decode cX4_simulate 13 = .ok (.iconst 0, 1) := by decide +kernel
theorem dX4_simulate_14 : decode cX4_simulate 14 = .ok (.goto 4, 3) := by decide +kernel
theorem dX4_simulate_17 : decode cX4_simulate 17 = .ok (.iconst 1, 1) := by decide +kernel
theorem dX4_simulate_18 : decode cX4_simulate 18 = .ok (.invokevirtual 134, 3) := by decide +kernel
theorem dX4_simulate_21 : decode cX4_simulate 21 = .ok (.ifCond .eq 5, 3) := by decide +kernel
theorem dX4_simulate_24 : decode cX4_simulate 24 = .ok (.iconst 0, 1) := by decide +kernel
theorem dX4_simulate_25 : decode cX4_simulate 25 = .ok (.ireturn, 1) := by decide +kernel
theorem dX4_simulate_26 : decode cX4_simulate 26 = .ok (.aload_n 0, 1) := by decide +kernel
theorem dX4_simulate_27 : decode cX4_simulate 27 = .ok (.invokevirtual 270, 3) := by decide +kernel
theorem dX4_simulate_30 : decode cX4_simulate 30 = .ok (.lload_n 1, 1) := by decide +kernel
theorem dX4_simulate_31 : decode cX4_simulate 31 = .ok (.lstore 4, 2) := by decide +kernel
theorem dX4_simulate_33 : decode cX4_simulate 33 = .ok (.bipush 40, 2) := by decide +kernel
theorem dX4_simulate_35 : decode cX4_simulate 35 = .ok (.istore 6, 2) := by decide +kernel
theorem dX4_simulate_37 : decode cX4_simulate 37 = .ok (.iconst 0, 1) := by decide +kernel
theorem dX4_simulate_38 : decode cX4_simulate 38 = .ok (.istore 7, 2) := by decide +kernel
theorem dX4_simulate_40 : decode cX4_simulate 40 = .ok (.iload 7, 2) := by decide +kernel
theorem dX4_simulate_42 : decode cX4_simulate 42 = .ok (.iload_n 3, 1) := by decide +kernel
theorem dX4_simulate_43 : decode cX4_simulate 43 = .ok (.if_icmp .ge 92, 3) := by decide +kernel
theorem dX4_simulate_46 : decode cX4_simulate 46 = .ok (.lload 4, 2) := by decide +kernel
theorem dX4_simulate_48 : decode cX4_simulate 48 = .ok (.ldc2_w 299, 3) := by decide +kernel
theorem dX4_simulate_51 : decode cX4_simulate 51 = .ok (.lmul, 1) := by decide +kernel
theorem dX4_simulate_52 : decode cX4_simulate 52 = .ok (.ldc2_w 301, 3) := by decide +kernel
theorem dX4_simulate_55 : decode cX4_simulate 55 = .ok (.ladd, 1) := by decide +kernel
theorem dX4_simulate_56 : decode cX4_simulate 56 = .ok (.lstore 4, 2) := by decide +kernel
theorem dX4_simulate_58 : decode cX4_simulate 58 = .ok (.lload 4, 2) := by decide +kernel
theorem dX4_simulate_60 : decode cX4_simulate 60 = .ok (.bipush 33, 2) := by decide +kernel
theorem dX4_simulate_62 : decode cX4_simulate 62 = .ok (.lushr, 1) := by decide +kernel
theorem dX4_simulate_63 : decode cX4_simulate 63 = .ok (.l2i, 1) := by decide +kernel
theorem dX4_simulate_64 : decode cX4_simulate 64 = .ok (.istore 8, 2) := by decide +kernel
theorem dX4_simulate_66 : decode cX4_simulate 66 = .ok (.iload 8, 2) := by decide +kernel
theorem dX4_simulate_68 : decode cX4_simulate 68 = .ok (.bipush 8, 2) := by decide +kernel
theorem dX4_simulate_70 : decode cX4_simulate 70 = .ok (.idiv, 1) := by decide +kernel
theorem dX4_simulate_71 : decode cX4_simulate 71 = .ok (.iconst 2, 1) := by decide +kernel
theorem dX4_simulate_72 : decode cX4_simulate 72 = .ok (.irem, 1) := by decide +kernel
theorem dX4_simulate_73 : decode cX4_simulate 73 = .ok (.ifCond .ne 16, 3) := by decide +kernel
theorem dX4_simulate_76 : decode cX4_simulate 76 = .ok (.iconst 1, 1) := by decide +kernel
theorem dX4_simulate_77 : decode cX4_simulate 77 = .ok (.iload 8, 2) := by decide +kernel
theorem dX4_simulate_79 : decode cX4_simulate 79 = .ok (.bipush 16, 2) := by decide +kernel
theorem dX4_simulate_81 : decode cX4_simulate 81 = .ok (.idiv, 1) := by decide +kernel
theorem dX4_simulate_82 : decode cX4_simulate 82 = .ok (.bipush 99, 2) := by decide +kernel
theorem dX4_simulate_84 : decode cX4_simulate 84 = .ok (.irem, 1) := by decide +kernel
theorem dX4_simulate_85 : decode cX4_simulate 85 = .ok (.iadd, 1) := by decide +kernel
theorem dX4_simulate_86 : decode cX4_simulate 86 = .ok (.goto 5, 3) := by decide +kernel
theorem dX4_simulate_89 : decode cX4_simulate 89 = .ok (.iload 6, 2) := by decide +kernel
theorem dX4_simulate_91 : decode cX4_simulate 91 = .ok (.istore 6, 2) := by decide +kernel
theorem dX4_simulate_93 : decode cX4_simulate 93 = .ok (.aload_n 0, 1) := by decide +kernel
theorem dX4_simulate_94 : decode cX4_simulate 94 = .ok (.getfield 31, 3) := by decide +kernel
theorem dX4_simulate_97 : decode cX4_simulate 97 = .ok (.iconst 0, 1) := by decide +kernel
theorem dX4_simulate_98 : decode cX4_simulate 98 = .ok (.iaload, 1) := by decide +kernel
theorem dX4_simulate_99 : decode cX4_simulate 99 = .ok (.bipush 30, 2) := by decide +kernel
theorem dX4_simulate_101 : decode cX4_simulate 101 = .ok (.if_icmp .ne 12, 3) := by decide +kernel
theorem dX4_simulate_104 : decode cX4_simulate 104 = .ok (.aload_n 0, 1) := by decide +kernel
theorem dX4_simulate_105 : decode cX4_simulate 105 = .ok (.aload_n 0, 1) := by decide +kernel
theorem dX4_simulate_106 : decode cX4_simulate 106 = .ok (.getfield 31, 3) := by decide +kernel
theorem dX4_simulate_109 : decode cX4_simulate 109 = .ok (.invokevirtual 267, 3) := by decide +kernel
theorem dX4_simulate_112 : decode cX4_simulate 112 = .ok (.pop, 1) := by decide +kernel
theorem dX4_simulate_113 : decode cX4_simulate 113 = .ok (.aload_n 0, 1) := by decide +kernel
theorem dX4_simulate_114 : decode cX4_simulate 114 = .ok (.getfield 31, 3) := by decide +kernel
theorem dX4_simulate_117 : decode cX4_simulate 117 = .ok (.aload_n 0, 1) := by decide +kernel
theorem dX4_simulate_118 : decode cX4_simulate 118 = .ok (.iload 8, 2) := by decide +kernel
theorem dX4_simulate_120 : decode cX4_simulate 120 = .ok (.invokevirtual 303, 3) := by decide +kernel
theorem dX4_simulate_123 : decode cX4_simulate 123 = .ok (.iload 6, 2) := by decide +kernel
theorem dX4_simulate_125 : decode cX4_simulate 125 = .ok (.invokestatic 249, 3) := by decide +kernel
theorem dX4_simulate_128 : decode cX4_simulate 128 = .ok (.pop, 1) := by decide +kernel
theorem dX4_simulate_129 : decode cX4_simulate 129 = .ok (.iinc 7 1, 3) := by decide +kernel
theorem dX4_simulate_132 : decode cX4_simulate 132 = .ok (.goto (-92), 3) := by decide +kernel
theorem dX4_simulate_135 : decode cX4_simulate 135 = .ok (.aload_n 0, 1) := by decide +kernel
theorem dX4_simulate_136 : decode cX4_simulate 136 = .ok (.aload_n 0, 1) := by decide +kernel
theorem dX4_simulate_137 : decode cX4_simulate 137 = .ok (.getfield 31, 3) := by decide +kernel
theorem dX4_simulate_140 : decode cX4_simulate 140 = .ok (.invokevirtual 125, 3) := by decide +kernel
theorem dX4_simulate_143 : decode cX4_simulate 143 = .ok (.aload_n 0, 1) := by decide +kernel
theorem dX4_simulate_144 : decode cX4_simulate 144 = .ok (.aload_n 0, 1) := by decide +kernel
theorem dX4_simulate_145 : decode cX4_simulate 145 = .ok (.getfield 31, 3) := by decide +kernel
theorem dX4_simulate_148 : decode cX4_simulate 148 = .ok (.invokevirtual 203, 3) := by decide +kernel
theorem dX4_simulate_151 : decode cX4_simulate 151 = .ok (.istore 7, 2) := by decide +kernel
theorem dX4_simulate_153 : decode cX4_simulate 153 = .ok (.sipush 1000, 3) := by decide +kernel
theorem dX4_simulate_156 : decode cX4_simulate 156 = .ok (.aload_n 0, 1) := by decide +kernel
theorem dX4_simulate_157 : decode cX4_simulate 157 = .ok (.getfield 99, 3) := by decide +kernel
theorem dX4_simulate_160 : decode cX4_simulate 160 = .ok (.imul, 1) := by decide +kernel
theorem dX4_simulate_161 : decode cX4_simulate 161 = .ok (.iload 7, 2) := by decide +kernel
theorem dX4_simulate_163 : decode cX4_simulate 163 = .ok (.sipush 999, 3) := by decide +kernel
theorem dX4_simulate_166 : decode cX4_simulate 166 = .ok (.if_icmp .le 9, 3) := by decide +kernel
theorem dX4_simulate_169 : decode cX4_simulate 169 = .ok (.sipush 999, 3) := by decide +kernel
theorem dX4_simulate_172 : decode cX4_simulate 172 = .ok (.goto 5, 3) := by decide +kernel
theorem dX4_simulate_175 : decode cX4_simulate 175 = .ok (.iload 7, 2) := by decide +kernel
theorem dX4_simulate_177 : decode cX4_simulate 177 = .ok (.iadd, 1) := by decide +kernel
theorem dX4_simulate_178 : decode cX4_simulate 178 = .ok (.ireturn, 1) := by decide +kernel
theorem dX4_save_0 : decode cX4_save 0 = .ok (.aload_n 0, 1) := by decide +kernel
theorem dX4_save_1 : decode cX4_save 1 = .ok (.iload_n 1, 1) := by decide +kernel
theorem dX4_save_2 : decode cX4_save 2 = .ok (.i2l, 1) := by decide +kernel
theorem dX4_save_3 : decode cX4_save 3 = .ok (.lconst 0, 1) := by decide +kernel
theorem dX4_save_4 : decode cX4_save 4 = .ok (.lconst 1, 1) := by decide +kernel
theorem dX4_save_5 : decode cX4_save 5 = .ok (.invokestatic 118, 3) := by decide +kernel
theorem dX4_save_8 : decode cX4_save 8 = .ok (.ifCond .eq 7, 3) := by decide +kernel
theorem dX4_save_11 : decode cX4_save 11 = .ok (.iconst 0, 1) := by decide +kernel
theorem dX4_save_12 : decode cX4_save 12 = .ok (.goto 4, 3) := by decide +kernel
theorem dX4_save_15 : decode cX4_save 15 = .ok (.iconst 1, 1) := by decide +kernel
theorem dX4_save_16 : decode cX4_save 16 = .ok (.invokevirtual 134, 3) := by decide +kernel
theorem dX4_save_19 : decode cX4_save 19 = .ok (.ifCond .eq 5, 3) := by decide +kernel
theorem dX4_save_22 : decode cX4_save 22 = .ok (.iconst 0, 1) := by decide +kernel
theorem dX4_save_23 : decode cX4_save 23 = .ok (.ireturn, 1) := by decide +kernel
theorem dX4_save_24 : decode cX4_save 24 = .ok (.aload_n 0, 1) := by decide +kernel
theorem dX4_save_25 : decode cX4_save 25 = .ok (.getfield 28, 3) := by decide +kernel
theorem dX4_save_28 : decode cX4_save 28 = .ok (.iconst 0, 1) := by decide +kernel
theorem dX4_save_29 : decode cX4_save 29 = .ok (.aload_n 0, 1) := by decide +kernel
theorem dX4_save_30 : decode cX4_save 30 = .ok (.getfield 37, 3) := by decide +kernel
theorem dX4_save_33 : decode cX4_save 33 = .ok (.bipush 95, 2) := by decide +kernel
theorem dX4_save_35 : decode cX4_save 35 = .ok (.iload_n 1, 1) := by decide +kernel
theorem dX4_save_36 : decode cX4_save 36 = .ok (.imul, 1) := by decide +kernel
theorem dX4_save_37 : decode cX4_save 37 = .ok (.bipush 95, 2) := by decide +kernel
theorem dX4_save_39 : decode cX4_save 39 = .ok (.invokestatic 68, 3) := by decide +kernel
theorem dX4_save_42 : decode cX4_save 42 = .ok (.aload_n 0, 1) := by decide +kernel
theorem dX4_save_43 : decode cX4_save 43 = .ok (.getfield 40, 3) := by decide +kernel
theorem dX4_save_46 : decode cX4_save 46 = .ok (.iload_n 1, 1) := by decide +kernel
theorem dX4_save_47 : decode cX4_save 47 = .ok (.iconst 1, 1) := by decide +kernel
theorem dX4_save_48 : decode cX4_save 48 = .ok (.bastore, 1) := by decide +kernel
theorem dX4_save_49 : decode cX4_save 49 = .ok (.aload_n 0, 1) := by decide +kernel
theorem dX4_save_50 : decode cX4_save 50 = .ok (.getfield 28, 3) := by decide +kernel
theorem dX4_save_53 : decode cX4_save 53 = .ok (.iconst 0, 1) := by decide +kernel
theorem dX4_save_54 : decode cX4_save 54 = .ok (.iaload, 1) := by decide +kernel
theorem dX4_save_55 : decode cX4_save 55 = .ok (.ireturn, 1) := by decide +kernel
theorem dX4_restore_0 : decode cX4_restore 0 = .ok (.aload_n 0, 1) := by decide +kernel
theorem dX4_restore_1 : decode cX4_restore 1 = .ok (.iload_n 1, 1) := by decide +kernel
theorem dX4_restore_2 : decode cX4_restore 2 = .ok (.i2l, 1) := by decide +kernel
theorem dX4_restore_3 : decode cX4_restore 3 = .ok (.lconst 0, 1) := by decide +kernel
theorem dX4_restore_4 : decode cX4_restore 4 = .ok (.lconst 1, 1) := by decide +kernel
theorem dX4_restore_5 : decode cX4_restore 5 = .ok (.invokestatic 118, 3) := by decide +kernel
theorem dX4_restore_8 : decode cX4_restore 8 = .ok (.ifCond .ne 7, 3) := by decide +kernel
theorem dX4_restore_11 : decode cX4_restore 11 = .ok (.iconst 1, 1) := by decide +kernel
theorem dX4_restore_12 : decode cX4_restore 12 = .ok (.goto 17, 3) := by decide +kernel
theorem dX4_restore_15 : decode cX4_restore 15 = .ok (.aload_n 0, 1) := by decide +kernel
theorem dX4_restore_16 : decode cX4_restore 16 = .ok (.getfield 40, 3) := by decide +kernel
theorem dX4_restore_19 : decode cX4_restore 19 = .ok (.iload_n 1, 1) := by decide +kernel
theorem dX4_restore_20 : decode cX4_restore 20 = .ok (.baload, 1) := by decide +kernel
theorem dX4_restore_21 : decode cX4_restore 21 = .ok (.ifCond .eq 7, 3) := by decide +kernel
theorem dX4_restore_24 : decode cX4_restore 24 = .ok (.iconst 0, 1) := by decide +kernel
theorem dX4_restore_25 : decode cX4_restore 25 = .ok (.goto 4, 3) := by decide +kernel
theorem dX4_restore_28 : decode cX4_restore 28 = .ok (.iconst 2, 1) := by decide +kernel
theorem dX4_restore_29 : decode cX4_restore 29 = .ok (.invokevirtual 134, 3) := by decide +kernel
theorem dX4_restore_32 : decode cX4_restore 32 = .ok (.ifCond .eq 5, 3) := by decide +kernel
theorem dX4_restore_35 : decode cX4_restore 35 = .ok (.iconst 0, 1) := by decide +kernel
theorem dX4_restore_36 : decode cX4_restore 36 = .ok (.ireturn, 1) := by decide +kernel
theorem dX4_restore_37 : decode cX4_restore 37 = .ok (.aload_n 0, 1) := by decide +kernel
theorem dX4_restore_38 : decode cX4_restore 38 = .ok (.getfield 37, 3) := by decide +kernel
theorem dX4_restore_41 : decode cX4_restore 41 = .ok (.bipush 95, 2) := by decide +kernel
theorem dX4_restore_43 : decode cX4_restore 43 = .ok (.iload_n 1, 1) := by decide +kernel
theorem dX4_restore_44 : decode cX4_restore 44 = .ok (.imul, 1) := by decide +kernel
theorem dX4_restore_45 : decode cX4_restore 45 = .ok (.aload_n 0, 1) := by decide +kernel
theorem dX4_restore_46 : decode cX4_restore 46 = .ok (.getfield 28, 3) := by decide +kernel
theorem dX4_restore_49 : decode cX4_restore 49 = .ok (.iconst 0, 1) := by decide +kernel
theorem dX4_restore_50 : decode cX4_restore 50 = .ok (.bipush 95, 2) := by decide +kernel
theorem dX4_restore_52 : decode cX4_restore 52 = .ok (.invokestatic 68, 3) := by decide +kernel
theorem dX4_restore_55 : decode cX4_restore 55 = .ok (.aload_n 0, 1) := by decide +kernel
theorem dX4_restore_56 : decode cX4_restore 56 = .ok (.iconst 0, 1) := by decide +kernel
theorem dX4_restore_57 : decode cX4_restore 57 = .ok (.putfield 65, 3) := by decide +kernel
theorem dX4_restore_60 : decode cX4_restore 60 = .ok (.aload_n 0, 1) := by decide +kernel
theorem dX4_restore_61 : decode cX4_restore 61 = .ok (.getfield 28, 3) := by decide +kernel
theorem dX4_restore_64 : decode cX4_restore 64 = .ok (.iconst 0, 1) := by decide +kernel
theorem dX4_restore_65 : decode cX4_restore 65 = .ok (.iaload, 1) := by decide +kernel
theorem dX4_restore_66 : decode cX4_restore 66 = .ok (.ireturn, 1) := by decide +kernel
theorem dJ9_floorDiv_7cf53_0 : decode cJ9_floorDiv_7cf53 0 = .ok (.iload_n 0, 1) := by decide +kernel
theorem dJ9_floorDiv_7cf53_1 : decode cJ9_floorDiv_7cf53 1 = .ok (.iload_n 1, 1) := by decide +kernel
theorem dJ9_floorDiv_7cf53_2 : decode cJ9_floorDiv_7cf53 2 = .ok (.idiv, 1) := by decide +kernel
theorem dJ9_floorDiv_7cf53_3 : decode cJ9_floorDiv_7cf53 3 = .ok (.istore_n 2, 1) := by decide +kernel
theorem dJ9_floorDiv_7cf53_4 : decode cJ9_floorDiv_7cf53 4 = .ok (.iload_n 0, 1) := by decide +kernel
theorem dJ9_floorDiv_7cf53_5 : decode cJ9_floorDiv_7cf53 5 = .ok (.iload_n 1, 1) := by decide +kernel
theorem dJ9_floorDiv_7cf53_6 : decode cJ9_floorDiv_7cf53 6 = .ok (.ixor, 1) := by decide +kernel
theorem dJ9_floorDiv_7cf53_7 : decode cJ9_floorDiv_7cf53 7 = .ok (.ifCond .ge 14, 3) := by decide +kernel
theorem dJ9_floorDiv_7cf53_10 : decode cJ9_floorDiv_7cf53 10 = .ok (.iload_n 2, 1) := by decide +kernel
theorem dJ9_floorDiv_7cf53_11 : decode cJ9_floorDiv_7cf53 11 = .ok (.iload_n 1, 1) := by decide +kernel
theorem dJ9_floorDiv_7cf53_12 : decode cJ9_floorDiv_7cf53 12 = .ok (.imul, 1) := by decide +kernel
theorem dJ9_floorDiv_7cf53_13 : decode cJ9_floorDiv_7cf53 13 = .ok (.iload_n 0, 1) := by decide +kernel
theorem dJ9_floorDiv_7cf53_14 : decode cJ9_floorDiv_7cf53 14 = .ok (.if_icmp .eq 7, 3) := by decide +kernel
theorem dJ9_floorDiv_7cf53_17 : decode cJ9_floorDiv_7cf53 17 = .ok (.iload_n 2, 1) := by decide +kernel
theorem dJ9_floorDiv_7cf53_18 : decode cJ9_floorDiv_7cf53 18 = .ok (.iconst 1, 1) := by decide +kernel
theorem dJ9_floorDiv_7cf53_19 : decode cJ9_floorDiv_7cf53 19 = .ok (.isub, 1) := by decide +kernel
theorem dJ9_floorDiv_7cf53_20 : decode cJ9_floorDiv_7cf53 20 = .ok (.ireturn, 1) := by decide +kernel
theorem dJ9_floorDiv_7cf53_21 : decode cJ9_floorDiv_7cf53 21 = .ok (.iload_n 2, 1) := by decide +kernel
theorem dJ9_floorDiv_7cf53_22 : decode cJ9_floorDiv_7cf53 22 = .ok (.ireturn, 1) := by decide +kernel
theorem dJ9_abs_0f7a4_0 : decode cJ9_abs_0f7a4 0 = .ok (.iload_n 0, 1) := by decide +kernel
theorem dJ9_abs_0f7a4_1 : decode cJ9_abs_0f7a4 1 = .ok (.ifCond .ge 8, 3) := by decide +kernel
theorem dJ9_abs_0f7a4_4 : decode cJ9_abs_0f7a4 4 = .ok (.iload_n 0, 1) := by decide +kernel
theorem dJ9_abs_0f7a4_5 : decode cJ9_abs_0f7a4 5 = .ok (.ineg, 1) := by decide +kernel
theorem dJ9_abs_0f7a4_6 : decode cJ9_abs_0f7a4 6 = .ok (.goto 4, 3) := by decide +kernel
theorem dJ9_abs_0f7a4_9 : decode cJ9_abs_0f7a4 9 = .ok (.iload_n 0, 1) := by decide +kernel
theorem dJ9_abs_0f7a4_10 : decode cJ9_abs_0f7a4 10 = .ok (.ireturn, 1) := by decide +kernel
theorem dJ9_max_7cf53_0 : decode cJ9_max_7cf53 0 = .ok (.iload_n 0, 1) := by decide +kernel
theorem dJ9_max_7cf53_1 : decode cJ9_max_7cf53 1 = .ok (.iload_n 1, 1) := by decide +kernel
theorem dJ9_max_7cf53_2 : decode cJ9_max_7cf53 2 = .ok (.if_icmp .lt 7, 3) := by decide +kernel
theorem dJ9_max_7cf53_5 : decode cJ9_max_7cf53 5 = .ok (.iload_n 0, 1) := by decide +kernel
theorem dJ9_max_7cf53_6 : decode cJ9_max_7cf53 6 = .ok (.goto 4, 3) := by decide +kernel
theorem dJ9_max_7cf53_9 : decode cJ9_max_7cf53 9 = .ok (.iload_n 1, 1) := by decide +kernel
theorem dJ9_max_7cf53_10 : decode cJ9_max_7cf53 10 = .ok (.ireturn, 1) := by decide +kernel
theorem dJ9_min_7cf53_0 : decode cJ9_min_7cf53 0 = .ok (.iload_n 0, 1) := by decide +kernel
theorem dJ9_min_7cf53_1 : decode cJ9_min_7cf53 1 = .ok (.iload_n 1, 1) := by decide +kernel
theorem dJ9_min_7cf53_2 : decode cJ9_min_7cf53 2 = .ok (.if_icmp .gt 7, 3) := by decide +kernel
theorem dJ9_min_7cf53_5 : decode cJ9_min_7cf53 5 = .ok (.iload_n 0, 1) := by decide +kernel
theorem dJ9_min_7cf53_6 : decode cJ9_min_7cf53 6 = .ok (.goto 4, 3) := by decide +kernel
theorem dJ9_min_7cf53_9 : decode cJ9_min_7cf53 9 = .ok (.iload_n 1, 1) := by decide +kernel
theorem dJ9_min_7cf53_10 : decode cJ9_min_7cf53 10 = .ok (.ireturn, 1) := by decide +kernel
theorem dL_append_0 : decode cL_append 0 = .ok (.aload_n 2, 1) := by decide +kernel
theorem dL_append_1 : decode cL_append 1 = .ok (.iconst 0, 1) := by decide +kernel
theorem dL_append_2 : decode cL_append 2 = .ok (.aload_n 0, 1) := by decide +kernel
theorem dL_append_3 : decode cL_append 3 = .ok (.iload_n 1, 1) := by decide +kernel
theorem dL_append_4 : decode cL_append 4 = .ok (.invokevirtual 7, 3) := by decide +kernel
theorem dL_append_7 : decode cL_append 7 = .ok (.i2l, 1) := by decide +kernel
theorem dL_append_8 : decode cL_append 8 = .ok (.lastore, 1) := by decide +kernel
theorem dL_append_9 : decode cL_append 9 = .ok (.goto 9, 3) := by decide +kernel
theorem dL_append_12 : decode cL_append 12 = .ok (.astore_n 3, 1) := by decide +kernel
theorem dL_append_13 : decode cL_append 13 = .ok (.iconst 1, 1) := by decide +kernel
theorem dL_append_14 : decode cL_append 14 = .ok (.ireturn, 1) := by decide +kernel
theorem dL_append_15 : decode cL_append 15 = .ok (.astore_n 3, 1) := by decide +kernel
theorem dL_append_16 : decode cL_append 16 = .ok (.iconst 2, 1) := by decide +kernel
theorem dL_append_17 : decode cL_append 17 = .ok (.ireturn, 1) := by decide +kernel
theorem dL_append_18 : decode cL_append 18 = .ok (.iconst 0, 1) := by decide +kernel
theorem dL_append_19 : decode cL_append 19 = .ok (.ireturn, 1) := by decide +kernel
theorem dL_about_0 : decode cL_about 0 = .ok (.aload_n 2, 1) := by decide +kernel
theorem dL_about_1 : decode cL_about 1 = .ok (.iconst 0, 1) := by decide +kernel
theorem dL_about_2 : decode cL_about 2 = .ok (.aload_n 0, 1) := by decide +kernel
theorem dL_about_3 : decode cL_about 3 = .ok (.iload_n 1, 1) := by decide +kernel
theorem dL_about_4 : decode cL_about 4 = .ok (.invokevirtual 17, 3) := by decide +kernel
theorem dL_about_7 : decode cL_about 7 = .ok (.i2l, 1) := by decide +kernel
theorem dL_about_8 : decode cL_about 8 = .ok (.lastore, 1) := by decide +kernel
theorem dL_about_9 : decode cL_about 9 = .ok (.goto 6, 3) := by decide +kernel
theorem dL_about_12 : decode cL_about 12 = .ok (.astore_n 3, 1) := by decide +kernel
theorem dL_about_13 : decode cL_about 13 = .ok (.iconst 1, 1) := by decide +kernel
theorem dL_about_14 : decode cL_about 14 = .ok (.ireturn, 1) := by decide +kernel
theorem dL_about_15 : decode cL_about 15 = .ok (.iconst 0, 1) := by decide +kernel
theorem dL_about_16 : decode cL_about 16 = .ok (.ireturn, 1) := by decide +kernel
theorem dL_axle_0 : decode cL_axle 0 = .ok (.aload_n 3, 1) := by decide +kernel
theorem dL_axle_1 : decode cL_axle 1 = .ok (.iconst 0, 1) := by decide +kernel
theorem dL_axle_2 : decode cL_axle 2 = .ok (.aload_n 0, 1) := by decide +kernel
theorem dL_axle_3 : decode cL_axle 3 = .ok (.iload_n 1, 1) := by decide +kernel
theorem dL_axle_4 : decode cL_axle 4 = .ok (.iload_n 2, 1) := by decide +kernel
theorem dL_axle_5 : decode cL_axle 5 = .ok (.invokevirtual 20, 3) := by decide +kernel
theorem dL_axle_8 : decode cL_axle 8 = .ok (.i2l, 1) := by decide +kernel
theorem dL_axle_9 : decode cL_axle 9 = .ok (.lastore, 1) := by decide +kernel
theorem dL_axle_10 : decode cL_axle 10 = .ok (.goto 11, 3) := by decide +kernel
theorem dL_axle_13 : decode cL_axle 13 = .ok (.astore 4, 2) := by decide +kernel
theorem dL_axle_15 : decode cL_axle 15 = .ok (.iconst 1, 1) := by decide +kernel
theorem dL_axle_16 : decode cL_axle 16 = .ok (.ireturn, 1) := by decide +kernel
theorem dL_axle_17 : decode cL_axle 17 = .ok (.astore 4, 2) := by decide +kernel
theorem dL_axle_19 : decode cL_axle 19 = .ok (.iconst 2, 1) := by decide +kernel
theorem dL_axle_20 : decode cL_axle 20 = .ok (.ireturn, 1) := by decide +kernel
theorem dL_axle_21 : decode cL_axle 21 = .ok (.iconst 0, 1) := by decide +kernel
theorem dL_axle_22 : decode cL_axle 22 = .ok (.ireturn, 1) := by decide +kernel
theorem dL_car_0 : decode cL_car 0 = .ok (.aload_n 3, 1) := by decide +kernel
theorem dL_car_1 : decode cL_car 1 = .ok (.iconst 0, 1) := by decide +kernel
theorem dL_car_2 : decode cL_car 2 = .ok (.aload_n 0, 1) := by decide +kernel
theorem dL_car_3 : decode cL_car 3 = .ok (.iload_n 1, 1) := by decide +kernel
theorem dL_car_4 : decode cL_car 4 = .ok (.iload_n 2, 1) := by decide +kernel
theorem dL_car_5 : decode cL_car 5 = .ok (.invokevirtual 26, 3) := by decide +kernel
theorem dL_car_8 : decode cL_car 8 = .ok (.i2l, 1) := by decide +kernel
theorem dL_car_9 : decode cL_car 9 = .ok (.lastore, 1) := by decide +kernel
theorem dL_car_10 : decode cL_car 10 = .ok (.goto 11, 3) := by decide +kernel
theorem dL_car_13 : decode cL_car 13 = .ok (.astore 4, 2) := by decide +kernel
theorem dL_car_15 : decode cL_car 15 = .ok (.iconst 1, 1) := by decide +kernel
theorem dL_car_16 : decode cL_car 16 = .ok (.ireturn, 1) := by decide +kernel
theorem dL_car_17 : decode cL_car 17 = .ok (.astore 4, 2) := by decide +kernel
theorem dL_car_19 : decode cL_car 19 = .ok (.iconst 2, 1) := by decide +kernel
theorem dL_car_20 : decode cL_car 20 = .ok (.ireturn, 1) := by decide +kernel
theorem dL_car_21 : decode cL_car 21 = .ok (.iconst 0, 1) := by decide +kernel
theorem dL_car_22 : decode cL_car 22 = .ok (.ireturn, 1) := by decide +kernel
theorem dL_train_0 : decode cL_train 0 = .ok (.aload_n 3, 1) := by decide +kernel
theorem dL_train_1 : decode cL_train 1 = .ok (.iconst 0, 1) := by decide +kernel
theorem dL_train_2 : decode cL_train 2 = .ok (.aload_n 0, 1) := by decide +kernel
theorem dL_train_3 : decode cL_train 3 = .ok (.iload_n 1, 1) := by decide +kernel
theorem dL_train_4 : decode cL_train 4 = .ok (.iload_n 2, 1) := by decide +kernel
theorem dL_train_5 : decode cL_train 5 = .ok (.invokevirtual 29, 3) := by decide +kernel
theorem dL_train_8 : decode cL_train 8 = .ok (.i2l, 1) := by decide +kernel
theorem dL_train_9 : decode cL_train 9 = .ok (.lastore, 1) := by decide +kernel
theorem dL_train_10 : decode cL_train 10 = .ok (.goto 11, 3) := by decide +kernel
theorem dL_train_13 : decode cL_train 13 = .ok (.astore 4, 2) := by decide +kernel
theorem dL_train_15 : decode cL_train 15 = .ok (.iconst 1, 1) := by decide +kernel
theorem dL_train_16 : decode cL_train 16 = .ok (.ireturn, 1) := by decide +kernel
theorem dL_train_17 : decode cL_train 17 = .ok (.astore 4, 2) := by decide +kernel
theorem dL_train_19 : decode cL_train 19 = .ok (.iconst 2, 1) := by decide +kernel
theorem dL_train_20 : decode cL_train 20 = .ok (.ireturn, 1) := by decide +kernel
theorem dL_train_21 : decode cL_train 21 = .ok (.iconst 0, 1) := by decide +kernel
theorem dL_train_22 : decode cL_train 22 = .ok (.ireturn, 1) := by decide +kernel
theorem dL_setting_0 : decode cL_setting 0 = .ok (.aload_n 2, 1) := by decide +kernel
theorem dL_setting_1 : decode cL_setting 1 = .ok (.iconst 0, 1) := by decide +kernel
theorem dL_setting_2 : decode cL_setting 2 = .ok (.aload_n 0, 1) := by decide +kernel
theorem dL_setting_3 : decode cL_setting 3 = .ok (.iload_n 1, 1) := by decide +kernel
theorem dL_setting_4 : decode cL_setting 4 = .ok (.invokevirtual 32, 3) := by decide +kernel
theorem dL_setting_7 : decode cL_setting 7 = .ok (.i2l, 1) := by decide +kernel
theorem dL_setting_8 : decode cL_setting 8 = .ok (.lastore, 1) := by decide +kernel
theorem dL_setting_9 : decode cL_setting 9 = .ok (.goto 6, 3) := by decide +kernel
theorem dL_setting_12 : decode cL_setting 12 = .ok (.astore_n 3, 1) := by decide +kernel
theorem dL_setting_13 : decode cL_setting 13 = .ok (.iconst 1, 1) := by decide +kernel
theorem dL_setting_14 : decode cL_setting 14 = .ok (.ireturn, 1) := by decide +kernel
theorem dL_setting_15 : decode cL_setting 15 = .ok (.iconst 0, 1) := by decide +kernel
theorem dL_setting_16 : decode cL_setting 16 = .ok (.ireturn, 1) := by decide +kernel
theorem dL_roll_0 : decode cL_roll 0 = .ok (.aload_n 3, 1) := by decide +kernel
theorem dL_roll_1 : decode cL_roll 1 = .ok (.iconst 0, 1) := by decide +kernel
theorem dL_roll_2 : decode cL_roll 2 = .ok (.aload_n 0, 1) := by decide +kernel
theorem dL_roll_3 : decode cL_roll 3 = .ok (.iload_n 1, 1) := by decide +kernel
theorem dL_roll_4 : decode cL_roll 4 = .ok (.iload_n 2, 1) := by decide +kernel
theorem dL_roll_5 : decode cL_roll 5 = .ok (.invokevirtual 35, 3) := by decide +kernel
theorem dL_roll_8 : decode cL_roll 8 = .ok (.i2l, 1) := by decide +kernel
theorem dL_roll_9 : decode cL_roll 9 = .ok (.lastore, 1) := by decide +kernel
theorem dL_roll_10 : decode cL_roll 10 = .ok (.goto 11, 3) := by decide +kernel
theorem dL_roll_13 : decode cL_roll 13 = .ok (.astore 4, 2) := by decide +kernel
theorem dL_roll_15 : decode cL_roll 15 = .ok (.iconst 1, 1) := by decide +kernel
theorem dL_roll_16 : decode cL_roll 16 = .ok (.ireturn, 1) := by decide +kernel
theorem dL_roll_17 : decode cL_roll 17 = .ok (.astore 4, 2) := by decide +kernel
theorem dL_roll_19 : decode cL_roll 19 = .ok (.iconst 2, 1) := by decide +kernel
theorem dL_roll_20 : decode cL_roll 20 = .ok (.ireturn, 1) := by decide +kernel
theorem dL_roll_21 : decode cL_roll 21 = .ok (.iconst 0, 1) := by decide +kernel
theorem dL_roll_22 : decode cL_roll 22 = .ok (.ireturn, 1) := by decide +kernel
theorem dL_record_0 : decode cL_record 0 = .ok (.aload_n 1, 1) := by decide +kernel
theorem dL_record_1 : decode cL_record 1 = .ok (.iconst 0, 1) := by decide +kernel
theorem dL_record_2 : decode cL_record 2 = .ok (.aload_n 0, 1) := by decide +kernel
theorem dL_record_3 : decode cL_record 3 = .ok (.invokevirtual 38, 3) := by decide +kernel
theorem dL_record_6 : decode cL_record 6 = .ok (.i2l, 1) := by decide +kernel
theorem dL_record_7 : decode cL_record 7 = .ok (.lastore, 1) := by decide +kernel
theorem dL_record_8 : decode cL_record 8 = .ok (.goto 6, 3) := by decide +kernel
theorem dL_record_11 : decode cL_record 11 = .ok (.astore_n 2, 1) := by decide +kernel
theorem dL_record_12 : decode cL_record 12 = .ok (.iconst 1, 1) := by decide +kernel
theorem dL_record_13 : decode cL_record 13 = .ok (.ireturn, 1) := by decide +kernel
theorem dL_record_14 : decode cL_record 14 = .ok (.iconst 0, 1) := by decide +kernel
theorem dL_record_15 : decode cL_record 15 = .ok (.ireturn, 1) := by decide +kernel
theorem dL_strike_0 : decode cL_strike 0 = .ok (.aload_n 2, 1) := by decide +kernel
theorem dL_strike_1 : decode cL_strike 1 = .ok (.iconst 0, 1) := by decide +kernel
theorem dL_strike_2 : decode cL_strike 2 = .ok (.aload_n 0, 1) := by decide +kernel
theorem dL_strike_3 : decode cL_strike 3 = .ok (.iload_n 1, 1) := by decide +kernel
theorem dL_strike_4 : decode cL_strike 4 = .ok (.invokevirtual 42, 3) := by decide +kernel
theorem dL_strike_7 : decode cL_strike 7 = .ok (.i2l, 1) := by decide +kernel
theorem dL_strike_8 : decode cL_strike 8 = .ok (.lastore, 1) := by decide +kernel
theorem dL_strike_9 : decode cL_strike 9 = .ok (.goto 6, 3) := by decide +kernel
theorem dL_strike_12 : decode cL_strike 12 = .ok (.astore_n 3, 1) := by decide +kernel
theorem dL_strike_13 : decode cL_strike 13 = .ok (.iconst 1, 1) := by decide +kernel
theorem dL_strike_14 : decode cL_strike 14 = .ok (.ireturn, 1) := by decide +kernel
theorem dL_strike_15 : decode cL_strike 15 = .ok (.iconst 0, 1) := by decide +kernel
theorem dL_strike_16 : decode cL_strike 16 = .ok (.ireturn, 1) := by decide +kernel
theorem dL_weigh_0 : decode cL_weigh 0 = .ok (.aload_n 3, 1) := by decide +kernel
theorem dL_weigh_1 : decode cL_weigh 1 = .ok (.iconst 0, 1) := by decide +kernel
theorem dL_weigh_2 : decode cL_weigh 2 = .ok (.aload_n 0, 1) := by decide +kernel
theorem dL_weigh_3 : decode cL_weigh 3 = .ok (.iload_n 1, 1) := by decide +kernel
theorem dL_weigh_4 : decode cL_weigh 4 = .ok (.iload_n 2, 1) := by decide +kernel
theorem dL_weigh_5 : decode cL_weigh 5 = .ok (.invokevirtual 45, 3) := by decide +kernel
theorem dL_weigh_8 : decode cL_weigh 8 = .ok (.i2l, 1) := by decide +kernel
theorem dL_weigh_9 : decode cL_weigh 9 = .ok (.lastore, 1) := by decide +kernel
theorem dL_weigh_10 : decode cL_weigh 10 = .ok (.goto 11, 3) := by decide +kernel
theorem dL_weigh_13 : decode cL_weigh 13 = .ok (.astore 4, 2) := by decide +kernel
theorem dL_weigh_15 : decode cL_weigh 15 = .ok (.iconst 1, 1) := by decide +kernel
theorem dL_weigh_16 : decode cL_weigh 16 = .ok (.ireturn, 1) := by decide +kernel
theorem dL_weigh_17 : decode cL_weigh 17 = .ok (.astore 4, 2) := by decide +kernel
theorem dL_weigh_19 : decode cL_weigh 19 = .ok (.iconst 2, 1) := by decide +kernel
theorem dL_weigh_20 : decode cL_weigh 20 = .ok (.ireturn, 1) := by decide +kernel
theorem dL_weigh_21 : decode cL_weigh 21 = .ok (.iconst 0, 1) := by decide +kernel
theorem dL_weigh_22 : decode cL_weigh 22 = .ok (.ireturn, 1) := by decide +kernel
theorem dL_bill_0 : decode cL_bill 0 = .ok (.aload_n 3, 1) := by decide +kernel
theorem dL_bill_1 : decode cL_bill 1 = .ok (.iconst 0, 1) := by decide +kernel
theorem dL_bill_2 : decode cL_bill 2 = .ok (.aload_n 0, 1) := by decide +kernel
theorem dL_bill_3 : decode cL_bill 3 = .ok (.iload_n 1, 1) := by decide +kernel
theorem dL_bill_4 : decode cL_bill 4 = .ok (.iload_n 2, 1) := by decide +kernel
theorem dL_bill_5 : decode cL_bill 5 = .ok (.invokevirtual 48, 3) := by decide +kernel
theorem dL_bill_8 : decode cL_bill 8 = .ok (.i2l, 1) := by decide +kernel
theorem dL_bill_9 : decode cL_bill 9 = .ok (.lastore, 1) := by decide +kernel
theorem dL_bill_10 : decode cL_bill 10 = .ok (.goto 7, 3) := by decide +kernel
theorem dL_bill_13 : decode cL_bill 13 = .ok (.astore 4, 2) := by decide +kernel
theorem dL_bill_15 : decode cL_bill 15 = .ok (.iconst 1, 1) := by decide +kernel
theorem dL_bill_16 : decode cL_bill 16 = .ok (.ireturn, 1) := by decide +kernel
theorem dL_bill_17 : decode cL_bill 17 = .ok (.iconst 0, 1) := by decide +kernel
theorem dL_bill_18 : decode cL_bill 18 = .ok (.ireturn, 1) := by decide +kernel
theorem dL_set_0 : decode cL_set 0 = .ok (.aload_n 3, 1) := by decide +kernel
theorem dL_set_1 : decode cL_set 1 = .ok (.iconst 0, 1) := by decide +kernel
theorem dL_set_2 : decode cL_set 2 = .ok (.aload_n 0, 1) := by decide +kernel
theorem dL_set_3 : decode cL_set 3 = .ok (.iload_n 1, 1) := by decide +kernel
theorem dL_set_4 : decode cL_set 4 = .ok (.iload_n 2, 1) := by decide +kernel
theorem dL_set_5 : decode cL_set 5 = .ok (.invokevirtual 51, 3) := by decide +kernel
theorem dL_set_8 : decode cL_set 8 = .ok (.i2l, 1) := by decide +kernel
theorem dL_set_9 : decode cL_set 9 = .ok (.lastore, 1) := by decide +kernel
theorem dL_set_10 : decode cL_set 10 = .ok (.goto 7, 3) := by decide +kernel
theorem dL_set_13 : decode cL_set 13 = .ok (.astore 4, 2) := by decide +kernel
theorem dL_set_15 : decode cL_set 15 = .ok (.iconst 1, 1) := by decide +kernel
theorem dL_set_16 : decode cL_set 16 = .ok (.ireturn, 1) := by decide +kernel
theorem dL_set_17 : decode cL_set 17 = .ok (.iconst 0, 1) := by decide +kernel
theorem dL_set_18 : decode cL_set 18 = .ok (.ireturn, 1) := by decide +kernel
theorem dL_leave_0 : decode cL_leave 0 = .ok (.aload_n 1, 1) := by decide +kernel
theorem dL_leave_1 : decode cL_leave 1 = .ok (.iconst 0, 1) := by decide +kernel
theorem dL_leave_2 : decode cL_leave 2 = .ok (.aload_n 0, 1) := by decide +kernel
theorem dL_leave_3 : decode cL_leave 3 = .ok (.invokevirtual 54, 3) := by decide +kernel
theorem dL_leave_6 : decode cL_leave 6 = .ok (.i2l, 1) := by decide +kernel
theorem dL_leave_7 : decode cL_leave 7 = .ok (.lastore, 1) := by decide +kernel
theorem dL_leave_8 : decode cL_leave 8 = .ok (.goto 6, 3) := by decide +kernel
theorem dL_leave_11 : decode cL_leave 11 = .ok (.astore_n 2, 1) := by decide +kernel
theorem dL_leave_12 : decode cL_leave 12 = .ok (.iconst 1, 1) := by decide +kernel
theorem dL_leave_13 : decode cL_leave 13 = .ok (.ireturn, 1) := by decide +kernel
theorem dL_leave_14 : decode cL_leave 14 = .ok (.iconst 0, 1) := by decide +kernel
theorem dL_leave_15 : decode cL_leave 15 = .ok (.ireturn, 1) := by decide +kernel
theorem dL_undo_0 : decode cL_undo 0 = .ok (.aload_n 1, 1) := by decide +kernel
theorem dL_undo_1 : decode cL_undo 1 = .ok (.iconst 0, 1) := by decide +kernel
theorem dL_undo_2 : decode cL_undo 2 = .ok (.aload_n 0, 1) := by decide +kernel
theorem dL_undo_3 : decode cL_undo 3 = .ok (.invokevirtual 57, 3) := by decide +kernel
theorem dL_undo_6 : decode cL_undo 6 = .ok (.i2l, 1) := by decide +kernel
theorem dL_undo_7 : decode cL_undo 7 = .ok (.lastore, 1) := by decide +kernel
theorem dL_undo_8 : decode cL_undo 8 = .ok (.goto 6, 3) := by decide +kernel
theorem dL_undo_11 : decode cL_undo 11 = .ok (.astore_n 2, 1) := by decide +kernel
theorem dL_undo_12 : decode cL_undo 12 = .ok (.iconst 1, 1) := by decide +kernel
theorem dL_undo_13 : decode cL_undo 13 = .ok (.ireturn, 1) := by decide +kernel
theorem dL_undo_14 : decode cL_undo 14 = .ok (.iconst 0, 1) := by decide +kernel
theorem dL_undo_15 : decode cL_undo 15 = .ok (.ireturn, 1) := by decide +kernel
theorem dL_without_0 : decode cL_without 0 = .ok (.aload_n 2, 1) := by decide +kernel
theorem dL_without_1 : decode cL_without 1 = .ok (.iconst 0, 1) := by decide +kernel
theorem dL_without_2 : decode cL_without 2 = .ok (.aload_n 0, 1) := by decide +kernel
theorem dL_without_3 : decode cL_without 3 = .ok (.iload_n 1, 1) := by decide +kernel
theorem dL_without_4 : decode cL_without 4 = .ok (.invokevirtual 60, 3) := by decide +kernel
theorem dL_without_7 : decode cL_without 7 = .ok (.i2l, 1) := by decide +kernel
theorem dL_without_8 : decode cL_without 8 = .ok (.lastore, 1) := by decide +kernel
theorem dL_without_9 : decode cL_without 9 = .ok (.goto 6, 3) := by decide +kernel
theorem dL_without_12 : decode cL_without 12 = .ok (.astore_n 3, 1) := by decide +kernel
theorem dL_without_13 : decode cL_without 13 = .ok (.iconst 1, 1) := by decide +kernel
theorem dL_without_14 : decode cL_without 14 = .ok (.ireturn, 1) := by decide +kernel
theorem dL_without_15 : decode cL_without 15 = .ok (.iconst 0, 1) := by decide +kernel
theorem dL_without_16 : decode cL_without 16 = .ok (.ireturn, 1) := by decide +kernel
theorem dL_sureness_0 : decode cL_sureness 0 = .ok (.aload_n 2, 1) := by decide +kernel
theorem dL_sureness_1 : decode cL_sureness 1 = .ok (.iconst 0, 1) := by decide +kernel
theorem dL_sureness_2 : decode cL_sureness 2 = .ok (.aload_n 0, 1) := by decide +kernel
theorem dL_sureness_3 : decode cL_sureness 3 = .ok (.iload_n 1, 1) := by decide +kernel
theorem dL_sureness_4 : decode cL_sureness 4 = .ok (.invokevirtual 63, 3) := by decide +kernel
theorem dL_sureness_7 : decode cL_sureness 7 = .ok (.i2l, 1) := by decide +kernel
theorem dL_sureness_8 : decode cL_sureness 8 = .ok (.lastore, 1) := by decide +kernel
theorem dL_sureness_9 : decode cL_sureness 9 = .ok (.goto 6, 3) := by decide +kernel
theorem dL_sureness_12 : decode cL_sureness 12 = .ok (.astore_n 3, 1) := by decide +kernel
theorem dL_sureness_13 : decode cL_sureness 13 = .ok (.iconst 1, 1) := by decide +kernel
theorem dL_sureness_14 : decode cL_sureness 14 = .ok (.ireturn, 1) := by decide +kernel
theorem dL_sureness_15 : decode cL_sureness 15 = .ok (.iconst 0, 1) := by decide +kernel
theorem dL_sureness_16 : decode cL_sureness 16 = .ok (.ireturn, 1) := by decide +kernel
theorem dL_plans_0 : decode cL_plans 0 = .ok (.aload_n 2, 1) := by decide +kernel
theorem dL_plans_1 : decode cL_plans 1 = .ok (.iconst 0, 1) := by decide +kernel
theorem dL_plans_2 : decode cL_plans 2 = .ok (.aload_n 0, 1) := by decide +kernel
theorem dL_plans_3 : decode cL_plans 3 = .ok (.iload_n 1, 1) := by decide +kernel
theorem dL_plans_4 : decode cL_plans 4 = .ok (.invokevirtual 66, 3) := by decide +kernel
theorem dL_plans_7 : decode cL_plans 7 = .ok (.i2l, 1) := by decide +kernel
theorem dL_plans_8 : decode cL_plans 8 = .ok (.lastore, 1) := by decide +kernel
theorem dL_plans_9 : decode cL_plans 9 = .ok (.goto 6, 3) := by decide +kernel
theorem dL_plans_12 : decode cL_plans 12 = .ok (.astore_n 3, 1) := by decide +kernel
theorem dL_plans_13 : decode cL_plans 13 = .ok (.iconst 1, 1) := by decide +kernel
theorem dL_plans_14 : decode cL_plans 14 = .ok (.ireturn, 1) := by decide +kernel
theorem dL_plans_15 : decode cL_plans 15 = .ok (.iconst 0, 1) := by decide +kernel
theorem dL_plans_16 : decode cL_plans 16 = .ok (.ireturn, 1) := by decide +kernel
theorem dL_heavy_0 : decode cL_heavy 0 = .ok (.aload_n 2, 1) := by decide +kernel
theorem dL_heavy_1 : decode cL_heavy 1 = .ok (.iconst 0, 1) := by decide +kernel
theorem dL_heavy_2 : decode cL_heavy 2 = .ok (.aload_n 0, 1) := by decide +kernel
theorem dL_heavy_3 : decode cL_heavy 3 = .ok (.iload_n 1, 1) := by decide +kernel
theorem dL_heavy_4 : decode cL_heavy 4 = .ok (.invokevirtual 69, 3) := by decide +kernel
theorem dL_heavy_7 : decode cL_heavy 7 = .ok (.i2l, 1) := by decide +kernel
theorem dL_heavy_8 : decode cL_heavy 8 = .ok (.lastore, 1) := by decide +kernel
theorem dL_heavy_9 : decode cL_heavy 9 = .ok (.goto 6, 3) := by decide +kernel
theorem dL_heavy_12 : decode cL_heavy 12 = .ok (.astore_n 3, 1) := by decide +kernel
theorem dL_heavy_13 : decode cL_heavy 13 = .ok (.iconst 1, 1) := by decide +kernel
theorem dL_heavy_14 : decode cL_heavy 14 = .ok (.ireturn, 1) := by decide +kernel
theorem dL_heavy_15 : decode cL_heavy 15 = .ok (.iconst 0, 1) := by decide +kernel
theorem dL_heavy_16 : decode cL_heavy 16 = .ok (.ireturn, 1) := by decide +kernel
theorem dL_runScript_0 : decode cL_runScript 0 = .ok (.aload 4, 2) := by decide +kernel
theorem dL_runScript_2 : decode cL_runScript 2 = .ok (.iconst 0, 1) := by decide +kernel
theorem dL_runScript_3 : decode cL_runScript 3 = .ok (.aload_n 0, 1) := by decide +kernel
theorem dL_runScript_4 : decode cL_runScript 4 = .ok (.iload_n 1, 1) := by decide +kernel
theorem dL_runScript_5 : decode cL_runScript 5 = .ok (.lload_n 2, 1) := by decide +kernel
theorem dL_runScript_6 : decode cL_runScript 6 = .ok (.invokevirtual 72, 3) := by decide +kernel
theorem dL_runScript_9 : decode cL_runScript 9 = .ok (.i2l, 1) := by decide +kernel
theorem dL_runScript_10 : decode cL_runScript 10 = .ok (.lastore, 1) := by decide +kernel
theorem dL_runScript_11 : decode cL_runScript 11 = .ok (.goto 7, 3) := by decide +kernel
theorem dL_runScript_14 : decode cL_runScript 14 = .ok (.astore 5, 2) := by decide +kernel
theorem dL_runScript_16 : decode cL_runScript 16 = .ok (.iconst 1, 1) := by decide +kernel
theorem dL_runScript_17 : decode cL_runScript 17 = .ok (.ireturn, 1) := by decide +kernel
theorem dL_runScript_18 : decode cL_runScript 18 = .ok (.iconst 0, 1) := by decide +kernel
theorem dL_runScript_19 : decode cL_runScript 19 = .ok (.ireturn, 1) := by decide +kernel
theorem dL_simulate_0 : decode cL_simulate 0 = .ok (.aload 4, 2) := by decide +kernel
theorem dL_simulate_2 : decode cL_simulate 2 = .ok (.iconst 0, 1) := by decide +kernel
theorem dL_simulate_3 : decode cL_simulate 3 = .ok (.aload_n 0, 1) := by decide +kernel
theorem dL_simulate_4 : decode cL_simulate 4 = .ok (.lload_n 1, 1) := by decide +kernel
theorem dL_simulate_5 : decode cL_simulate 5 = .ok (.iload_n 3, 1) := by decide +kernel
theorem dL_simulate_6 : decode cL_simulate 6 = .ok (.invokevirtual 76, 3) := by decide +kernel
theorem dL_simulate_9 : decode cL_simulate 9 = .ok (.i2l, 1) := by decide +kernel
theorem dL_simulate_10 : decode cL_simulate 10 = .ok (.lastore, 1) := by decide +kernel
theorem dL_simulate_11 : decode cL_simulate 11 = .ok (.goto 7, 3) := by decide +kernel
theorem dL_simulate_14 : decode cL_simulate 14 = .ok (.astore 5, 2) := by decide +kernel
theorem dL_simulate_16 : decode cL_simulate 16 = .ok (.iconst 1, 1) := by decide +kernel
theorem dL_simulate_17 : decode cL_simulate 17 = .ok (.ireturn, 1) := by decide +kernel
theorem dL_simulate_18 : decode cL_simulate 18 = .ok (.iconst 0, 1) := by decide +kernel
theorem dL_simulate_19 : decode cL_simulate 19 = .ok (.ireturn, 1) := by decide +kernel
theorem dL_save_0 : decode cL_save 0 = .ok (.aload_n 2, 1) := by decide +kernel
theorem dL_save_1 : decode cL_save 1 = .ok (.iconst 0, 1) := by decide +kernel
theorem dL_save_2 : decode cL_save 2 = .ok (.aload_n 0, 1) := by decide +kernel
theorem dL_save_3 : decode cL_save 3 = .ok (.iload_n 1, 1) := by decide +kernel
theorem dL_save_4 : decode cL_save 4 = .ok (.invokevirtual 80, 3) := by decide +kernel
theorem dL_save_7 : decode cL_save 7 = .ok (.i2l, 1) := by decide +kernel
theorem dL_save_8 : decode cL_save 8 = .ok (.lastore, 1) := by decide +kernel
theorem dL_save_9 : decode cL_save 9 = .ok (.goto 6, 3) := by decide +kernel
theorem dL_save_12 : decode cL_save 12 = .ok (.astore_n 3, 1) := by decide +kernel
theorem dL_save_13 : decode cL_save 13 = .ok (.iconst 1, 1) := by decide +kernel
theorem dL_save_14 : decode cL_save 14 = .ok (.ireturn, 1) := by decide +kernel
theorem dL_save_15 : decode cL_save 15 = .ok (.iconst 0, 1) := by decide +kernel
theorem dL_save_16 : decode cL_save 16 = .ok (.ireturn, 1) := by decide +kernel
theorem dL_restore_0 : decode cL_restore 0 = .ok (.aload_n 2, 1) := by decide +kernel
theorem dL_restore_1 : decode cL_restore 1 = .ok (.iconst 0, 1) := by decide +kernel
theorem dL_restore_2 : decode cL_restore 2 = .ok (.aload_n 0, 1) := by decide +kernel
theorem dL_restore_3 : decode cL_restore 3 = .ok (.iload_n 1, 1) := by decide +kernel
theorem dL_restore_4 : decode cL_restore 4 = .ok (.invokevirtual 83, 3) := by decide +kernel
theorem dL_restore_7 : decode cL_restore 7 = .ok (.i2l, 1) := by decide +kernel
theorem dL_restore_8 : decode cL_restore 8 = .ok (.lastore, 1) := by decide +kernel
theorem dL_restore_9 : decode cL_restore 9 = .ok (.goto 9, 3) := by decide +kernel
theorem dL_restore_12 : decode cL_restore 12 = .ok (.astore_n 3, 1) := by decide +kernel
theorem dL_restore_13 : decode cL_restore 13 = .ok (.iconst 1, 1) := by decide +kernel
theorem dL_restore_14 : decode cL_restore 14 = .ok (.ireturn, 1) := by decide +kernel
theorem dL_restore_15 : decode cL_restore 15 = .ok (.astore_n 3, 1) := by decide +kernel
theorem dL_restore_16 : decode cL_restore 16 = .ok (.iconst 2, 1) := by decide +kernel
theorem dL_restore_17 : decode cL_restore 17 = .ok (.ireturn, 1) := by decide +kernel
theorem dL_restore_18 : decode cL_restore 18 = .ok (.iconst 0, 1) := by decide +kernel
theorem dL_restore_19 : decode cL_restore 19 = .ok (.ireturn, 1) := by decide +kernel
theorem dL_law_0 : decode cL_law 0 = .ok (.new 8, 3) := by decide +kernel
theorem dL_law_3 : decode cL_law 3 = .ok (.dup, 1) := by decide +kernel
theorem dL_law_4 : decode cL_law 4 = .ok (.invokespecial 86, 3) := by decide +kernel
theorem dL_law_7 : decode cL_law 7 = .ok (.astore_n 1, 1) := by decide +kernel
theorem dL_law_8 : decode cL_law 8 = .ok (.new 87, 3) := by decide +kernel
theorem dL_law_11 : decode cL_law 11 = .ok (.dup, 1) := by decide +kernel
theorem dL_law_12 : decode cL_law 12 = .ok (.invokespecial 89, 3) := by decide +kernel
theorem dL_law_15 : decode cL_law 15 = .ok (.astore_n 2, 1) := by decide +kernel
theorem dL_law_16 : decode cL_law 16 = .ok (.iconst 1, 1) := by decide +kernel
theorem dL_law_17 : decode cL_law 17 = .ok (.newarray .long, 2) := by decide +kernel
theorem dL_law_19 : decode cL_law 19 = .ok (.astore_n 3, 1) := by decide +kernel
theorem dL_law_20 : decode cL_law 20 = .ok (.iconst 0, 1) := by decide +kernel
theorem dL_law_21 : decode cL_law 21 = .ok (.istore 4, 2) := by decide +kernel
theorem dL_law_23 : decode cL_law 23 = .ok (.iload 4, 2) := by decide +kernel
theorem dL_law_25 : decode cL_law 25 = .ok (.aload_n 0, 1) := by decide +kernel
theorem dL_law_26 : decode cL_law 26 = .ok (.arraylength, 1) := by decide +kernel
theorem dL_law_27 : decode cL_law 27 = .ok (.iconst 4, 1) := by decide +kernel
theorem dL_law_28 : decode cL_law 28 = .ok (.isub, 1) := by decide +kernel
theorem dL_law_29 : decode cL_law 29 = .ok (.if_icmp .gt 1570, 3) := by decide +kernel
theorem dL_law_32 : decode cL_law 32 = .ok (.aload_n 0, 1) := by decide +kernel
theorem dL_law_33 : decode cL_law 33 = .ok (.iload 4, 2) := by decide +kernel
theorem dL_law_35 : decode cL_law 35 = .ok (.iaload, 1) := by decide +kernel
theorem dL_law_36 : decode cL_law 36 = .ok (.bipush 31, 2) := by decide +kernel
theorem dL_law_38 : decode cL_law 38 = .ok (.iand, 1) := by decide +kernel
theorem dL_law_39 : decode cL_law 39 = .ok (.tableswitch 1554 0 26 #[121, 177, 190, 203, 216, 272, 340, 408, 476, 532, 600, 644, 700, 768, 836, 904, 948, 992, 1048, 1061, 1074, 1130, 1186, 1242, 1342, 1442, 1498], 121) := by decide +kernel
theorem dL_law_160 : decode cL_law 160 = .ok (.aload_n 1, 1) := by decide +kernel
theorem dL_law_161 : decode cL_law 161 = .ok (.aload_n 0, 1) := by decide +kernel
theorem dL_law_162 : decode cL_law 162 = .ok (.iload 4, 2) := by decide +kernel
theorem dL_law_164 : decode cL_law 164 = .ok (.iconst 1, 1) := by decide +kernel
theorem dL_law_165 : decode cL_law 165 = .ok (.iadd, 1) := by decide +kernel
theorem dL_law_166 : decode cL_law 166 = .ok (.iaload, 1) := by decide +kernel
theorem dL_law_167 : decode cL_law 167 = .ok (.aload_n 3, 1) := by decide +kernel
theorem dL_law_168 : decode cL_law 168 = .ok (.invokestatic 90, 3) := by decide +kernel
theorem dL_law_171 : decode cL_law 171 = .ok (.istore 5, 2) := by decide +kernel
theorem dL_law_173 : decode cL_law 173 = .ok (.aload_n 2, 1) := by decide +kernel
theorem dL_law_174 : decode cL_law 174 = .ok (.aload_n 0, 1) := by decide +kernel
theorem dL_law_175 : decode cL_law 175 = .ok (.iload 4, 2) := by decide +kernel
theorem dL_law_177 : decode cL_law 177 = .ok (.iconst 1, 1) := by decide +kernel
theorem dL_law_178 : decode cL_law 178 = .ok (.iadd, 1) := by decide +kernel
theorem dL_law_179 : decode cL_law 179 = .ok (.iaload, 1) := by decide +kernel
theorem dL_law_180 : decode cL_law 180 = .ok (.invokevirtual 95, 3) := by decide +kernel
theorem dL_law_183 : decode cL_law 183 = .ok (.istore 6, 2) := by decide +kernel
theorem dL_law_185 : decode cL_law 185 = .ok (.aload_n 2, 1) := by decide +kernel
theorem dL_law_186 : decode cL_law 186 = .ok (.invokevirtual 96, 3) := by decide +kernel
theorem dL_law_189 : decode cL_law 189 = .ok (.iload 5, 2) := by decide +kernel
theorem dL_law_191 : decode cL_law 191 = .ok (.if_icmp .eq 5, 3) := by decide +kernel
theorem dL_law_194 : decode cL_law 194 = .ok (.iconst 0, 1) := by decide +kernel
theorem dL_law_195 : decode cL_law 195 = .ok (.ireturn, 1) := by decide +kernel
theorem dL_law_196 : decode cL_law 196 = .ok (.iload 5, 2) := by decide +kernel
theorem dL_law_198 : decode cL_law 198 = .ok (.ifCond .ne 15, 3) := by decide +kernel
theorem dL_law_201 : decode cL_law 201 = .ok (.aload_n 3, 1) := by decide +kernel
theorem dL_law_202 : decode cL_law 202 = .ok (.iconst 0, 1) := by decide +kernel
theorem dL_law_203 : decode cL_law 203 = .ok (.laload, 1) := by decide +kernel
theorem dL_law_204 : decode cL_law 204 = .ok (.iload 6, 2) := by decide +kernel
theorem dL_law_206 : decode cL_law 206 = .ok (.i2l, 1) := by decide +kernel
theorem dL_law_207 : decode cL_law 207 = .ok (.lcmp, 1) := by decide +kernel
theorem dL_law_208 : decode cL_law 208 = .ok (.ifCond .eq 5, 3) := by decide +kernel
theorem dL_law_211 : decode cL_law 211 = .ok (.iconst 0, 1) := by decide +kernel
theorem dL_law_212 : decode cL_law 212 = .ok (.ireturn, 1) := by decide +kernel
theorem dL_law_213 : decode cL_law 213 = .ok (.goto 1380, 3) := by decide +kernel
theorem dL_law_216 : decode cL_law 216 = .ok (.aload_n 1, 1) := by decide +kernel
theorem dL_law_217 : decode cL_law 217 = .ok (.invokevirtual 99, 3) := by decide +kernel
theorem dL_law_220 : decode cL_law 220 = .ok (.aload_n 2, 1) := by decide +kernel
theorem dL_law_221 : decode cL_law 221 = .ok (.invokevirtual 102, 3) := by decide +kernel
theorem dL_law_224 : decode cL_law 224 = .ok (.if_icmp .eq 1369, 3) := by decide +kernel
theorem dL_law_227 : decode cL_law 227 = .ok (.iconst 0, 1) := by decide +kernel
theorem dL_law_228 : decode cL_law 228 = .ok (.ireturn, 1) := by decide +kernel
theorem dL_law_229 : decode cL_law 229 = .ok (.aload_n 1, 1) := by decide +kernel
theorem dL_law_230 : decode cL_law 230 = .ok (.invokevirtual 103, 3) := by decide +kernel
theorem dL_law_233 : decode cL_law 233 = .ok (.aload_n 2, 1) := by decide +kernel
theorem dL_law_234 : decode cL_law 234 = .ok (.invokevirtual 106, 3) := by decide +kernel
theorem dL_law_237 : decode cL_law 237 = .ok (.if_icmp .eq 1356, 3) := by decide +kernel
theorem dL_law_240 : decode cL_law 240 = .ok (.iconst 0, 1) := by decide +kernel
theorem dL_law_241 : decode cL_law 241 = .ok (.ireturn, 1) := by decide +kernel
theorem dL_law_242 : decode cL_law 242 = .ok (.aload_n 1, 1) := by decide +kernel
theorem dL_law_243 : decode cL_law 243 = .ok (.invokevirtual 107, 3) := by decide +kernel
theorem dL_law_246 : decode cL_law 246 = .ok (.aload_n 2, 1) := by decide +kernel
theorem dL_law_247 : decode cL_law 247 = .ok (.invokevirtual 110, 3) := by decide +kernel
theorem dL_law_250 : decode cL_law 250 = .ok (.if_icmp .eq 1343, 3) := by decide +kernel
theorem dL_law_253 : decode cL_law 253 = .ok (.iconst 0, 1) := by decide +kernel
theorem dL_law_254 : decode cL_law 254 = .ok (.ireturn, 1) := by decide +kernel
theorem dL_law_255 : decode cL_law 255 = .ok (.aload_n 1, 1) := by decide +kernel
theorem dL_law_256 : decode cL_law 256 = .ok (.aload_n 0, 1) := by decide +kernel
theorem dL_law_257 : decode cL_law 257 = .ok (.iload 4, 2) := by decide +kernel
theorem dL_law_259 : decode cL_law 259 = .ok (.iconst 1, 1) := by decide +kernel
theorem dL_law_260 : decode cL_law 260 = .ok (.iadd, 1) := by decide +kernel
theorem dL_law_261 : decode cL_law 261 = .ok (.iaload, 1) := by decide +kernel
theorem dL_law_262 : decode cL_law 262 = .ok (.aload_n 3, 1) := by decide +kernel
theorem dL_law_263 : decode cL_law 263 = .ok (.invokestatic 111, 3) := by decide +kernel
theorem dL_law_266 : decode cL_law 266 = .ok (.istore 5, 2) := by decide +kernel
theorem dL_law_268 : decode cL_law 268 = .ok (.aload_n 2, 1) := by decide +kernel
theorem dL_law_269 : decode cL_law 269 = .ok (.aload_n 0, 1) := by decide +kernel
theorem dL_law_270 : decode cL_law 270 = .ok (.iload 4, 2) := by decide +kernel
theorem dL_law_272 : decode cL_law 272 = .ok (.iconst 1, 1) := by decide +kernel
theorem dL_law_273 : decode cL_law 273 = .ok (.iadd, 1) := by decide +kernel
theorem dL_law_274 : decode cL_law 274 = .ok (.iaload, 1) := by decide +kernel
theorem dL_law_275 : decode cL_law 275 = .ok (.invokevirtual 113, 3) := by decide +kernel
theorem dL_law_278 : decode cL_law 278 = .ok (.istore 6, 2) := by decide +kernel
theorem dL_law_280 : decode cL_law 280 = .ok (.aload_n 2, 1) := by decide +kernel
theorem dL_law_281 : decode cL_law 281 = .ok (.invokevirtual 96, 3) := by decide +kernel
theorem dL_law_284 : decode cL_law 284 = .ok (.iload 5, 2) := by decide +kernel
theorem dL_law_286 : decode cL_law 286 = .ok (.if_icmp .eq 5, 3) := by decide +kernel
theorem dL_law_289 : decode cL_law 289 = .ok (.iconst 0, 1) := by decide +kernel
theorem dL_law_290 : decode cL_law 290 = .ok (.ireturn, 1) := by decide +kernel
theorem dL_law_291 : decode cL_law 291 = .ok (.iload 5, 2) := by decide +kernel
theorem dL_law_293 : decode cL_law 293 = .ok (.ifCond .ne 15, 3) := by decide +kernel
theorem dL_law_296 : decode cL_law 296 = .ok (.aload_n 3, 1) := by decide +kernel
theorem dL_law_297 : decode cL_law 297 = .ok (.iconst 0, 1) := by decide +kernel
theorem dL_law_298 : decode cL_law 298 = .ok (.laload, 1) := by decide +kernel
theorem dL_law_299 : decode cL_law 299 = .ok (.iload 6, 2) := by decide +kernel
theorem dL_law_301 : decode cL_law 301 = .ok (.i2l, 1) := by decide +kernel
theorem dL_law_302 : decode cL_law 302 = .ok (.lcmp, 1) := by decide +kernel
theorem dL_law_303 : decode cL_law 303 = .ok (.ifCond .eq 5, 3) := by decide +kernel
theorem dL_law_306 : decode cL_law 306 = .ok (.iconst 0, 1) := by decide +kernel
theorem dL_law_307 : decode cL_law 307 = .ok (.ireturn, 1) := by decide +kernel
theorem dL_law_308 : decode cL_law 308 = .ok (.goto 1285, 3) := by decide +kernel
theorem dL_law_311 : decode cL_law 311 = .ok (.aload_n 1, 1) := by decide +kernel
theorem dL_law_312 : decode cL_law 312 = .ok (.aload_n 0, 1) := by decide +kernel
theorem dL_law_313 : decode cL_law 313 = .ok (.iload 4, 2) := by decide +kernel
theorem dL_law_315 : decode cL_law 315 = .ok (.iconst 1, 1) := by decide +kernel
theorem dL_law_316 : decode cL_law 316 = .ok (.iadd, 1) := by decide +kernel
theorem dL_law_317 : decode cL_law 317 = .ok (.iaload, 1) := by decide +kernel
theorem dL_law_318 : decode cL_law 318 = .ok (.aload_n 0, 1) := by decide +kernel
theorem dL_law_319 : decode cL_law 319 = .ok (.iload 4, 2) := by decide +kernel
theorem dL_law_321 : decode cL_law 321 = .ok (.iconst 2, 1) := by decide +kernel
theorem dL_law_322 : decode cL_law 322 = .ok (.iadd, 1) := by decide +kernel
theorem dL_law_323 : decode cL_law 323 = .ok (.iaload, 1) := by decide +kernel
theorem dL_law_324 : decode cL_law 324 = .ok (.aload_n 3, 1) := by decide +kernel
theorem dL_law_325 : decode cL_law 325 = .ok (.invokestatic 114, 3) := by decide +kernel
theorem dL_law_328 : decode cL_law 328 = .ok (.istore 5, 2) := by decide +kernel
theorem dL_law_330 : decode cL_law 330 = .ok (.aload_n 2, 1) := by decide +kernel
theorem dL_law_331 : decode cL_law 331 = .ok (.aload_n 0, 1) := by decide +kernel
theorem dL_law_332 : decode cL_law 332 = .ok (.iload 4, 2) := by decide +kernel
theorem dL_law_334 : decode cL_law 334 = .ok (.iconst 1, 1) := by decide +kernel
theorem dL_law_335 : decode cL_law 335 = .ok (.iadd, 1) := by decide +kernel
theorem dL_law_336 : decode cL_law 336 = .ok (.iaload, 1) := by decide +kernel
theorem dL_law_337 : decode cL_law 337 = .ok (.aload_n 0, 1) := by decide +kernel
theorem dL_law_338 : decode cL_law 338 = .ok (.iload 4, 2) := by decide +kernel
theorem dL_law_340 : decode cL_law 340 = .ok (.iconst 2, 1) := by decide +kernel
theorem dL_law_341 : decode cL_law 341 = .ok (.iadd, 1) := by decide +kernel
theorem dL_law_342 : decode cL_law 342 = .ok (.iaload, 1) := by decide +kernel
theorem dL_law_343 : decode cL_law 343 = .ok (.invokevirtual 117, 3) := by decide +kernel
theorem dL_law_346 : decode cL_law 346 = .ok (.istore 6, 2) := by decide +kernel
theorem dL_law_348 : decode cL_law 348 = .ok (.aload_n 2, 1) := by decide +kernel
theorem dL_law_349 : decode cL_law 349 = .ok (.invokevirtual 96, 3) := by decide +kernel
theorem dL_law_352 : decode cL_law 352 = .ok (.iload 5, 2) := by decide +kernel
theorem dL_law_354 : decode cL_law 354 = .ok (.if_icmp .eq 5, 3) := by decide +kernel
theorem dL_law_357 : decode cL_law 357 = .ok (.iconst 0, 1) := by decide +kernel
theorem dL_law_358 : decode cL_law 358 = .ok (.ireturn, 1) := by decide +kernel
theorem dL_law_359 : decode cL_law 359 = .ok (.iload 5, 2) := by decide +kernel
theorem dL_law_361 : decode cL_law 361 = .ok (.ifCond .ne 15, 3) := by decide +kernel
theorem dL_law_364 : decode cL_law 364 = .ok (.aload_n 3, 1) := by decide +kernel
theorem dL_law_365 : decode cL_law 365 = .ok (.iconst 0, 1) := by decide +kernel
theorem dL_law_366 : decode cL_law 366 = .ok (.laload, 1) := by decide +kernel
theorem dL_law_367 : decode cL_law 367 = .ok (.iload 6, 2) := by decide +kernel
theorem dL_law_369 : decode cL_law 369 = .ok (.i2l, 1) := by decide +kernel
theorem dL_law_370 : decode cL_law 370 = .ok (.lcmp, 1) := by decide +kernel
theorem dL_law_371 : decode cL_law 371 = .ok (.ifCond .eq 5, 3) := by decide +kernel
theorem dL_law_374 : decode cL_law 374 = .ok (.iconst 0, 1) := by decide +kernel
theorem dL_law_375 : decode cL_law 375 = .ok (.ireturn, 1) := by decide +kernel
theorem dL_law_376 : decode cL_law 376 = .ok (.goto 1217, 3) := by decide +kernel
theorem dL_law_379 : decode cL_law 379 = .ok (.aload_n 1, 1) := by decide +kernel
theorem dL_law_380 : decode cL_law 380 = .ok (.aload_n 0, 1) := by decide +kernel
theorem dL_law_381 : decode cL_law 381 = .ok (.iload 4, 2) := by decide +kernel
theorem dL_law_383 : decode cL_law 383 = .ok (.iconst 1, 1) := by decide +kernel
theorem dL_law_384 : decode cL_law 384 = .ok (.iadd, 1) := by decide +kernel
theorem dL_law_385 : decode cL_law 385 = .ok (.iaload, 1) := by decide +kernel
theorem dL_law_386 : decode cL_law 386 = .ok (.aload_n 0, 1) := by decide +kernel
theorem dL_law_387 : decode cL_law 387 = .ok (.iload 4, 2) := by decide +kernel
theorem dL_law_389 : decode cL_law 389 = .ok (.iconst 2, 1) := by decide +kernel
theorem dL_law_390 : decode cL_law 390 = .ok (.iadd, 1) := by decide +kernel
theorem dL_law_391 : decode cL_law 391 = .ok (.iaload, 1) := by decide +kernel
theorem dL_law_392 : decode cL_law 392 = .ok (.aload_n 3, 1) := by decide +kernel
theorem dL_law_393 : decode cL_law 393 = .ok (.invokestatic 118, 3) := by decide +kernel
theorem dL_law_396 : decode cL_law 396 = .ok (.istore 5, 2) := by decide +kernel
theorem dL_law_398 : decode cL_law 398 = .ok (.aload_n 2, 1) := by decide +kernel
theorem dL_law_399 : decode cL_law 399 = .ok (.aload_n 0, 1) := by decide +kernel
theorem dL_law_400 : decode cL_law 400 = .ok (.iload 4, 2) := by decide +kernel
theorem dL_law_402 : decode cL_law 402 = .ok (.iconst 1, 1) := by decide +kernel
theorem dL_law_403 : decode cL_law 403 = .ok (.iadd, 1) := by decide +kernel
theorem dL_law_404 : decode cL_law 404 = .ok (.iaload, 1) := by decide +kernel
theorem dL_law_405 : decode cL_law 405 = .ok (.aload_n 0, 1) := by decide +kernel
theorem dL_law_406 : decode cL_law 406 = .ok (.iload 4, 2) := by decide +kernel
theorem dL_law_408 : decode cL_law 408 = .ok (.iconst 2, 1) := by decide +kernel
theorem dL_law_409 : decode cL_law 409 = .ok (.iadd, 1) := by decide +kernel
theorem dL_law_410 : decode cL_law 410 = .ok (.iaload, 1) := by decide +kernel
theorem dL_law_411 : decode cL_law 411 = .ok (.invokevirtual 120, 3) := by decide +kernel
theorem dL_law_414 : decode cL_law 414 = .ok (.istore 6, 2) := by decide +kernel
theorem dL_law_416 : decode cL_law 416 = .ok (.aload_n 2, 1) := by decide +kernel
theorem dL_law_417 : decode cL_law 417 = .ok (.invokevirtual 96, 3) := by decide +kernel
theorem dL_law_420 : decode cL_law 420 = .ok (.iload 5, 2) := by decide +kernel
theorem dL_law_422 : decode cL_law 422 = .ok (.if_icmp .eq 5, 3) := by decide +kernel
theorem dL_law_425 : decode cL_law 425 = .ok (.iconst 0, 1) := by decide +kernel
theorem dL_law_426 : decode cL_law 426 = .ok (.ireturn, 1) := by decide +kernel
theorem dL_law_427 : decode cL_law 427 = .ok (.iload 5, 2) := by decide +kernel
theorem dL_law_429 : decode cL_law 429 = .ok (.ifCond .ne 15, 3) := by decide +kernel
theorem dL_law_432 : decode cL_law 432 = .ok (.aload_n 3, 1) := by decide +kernel
theorem dL_law_433 : decode cL_law 433 = .ok (.iconst 0, 1) := by decide +kernel
theorem dL_law_434 : decode cL_law 434 = .ok (.laload, 1) := by decide +kernel
theorem dL_law_435 : decode cL_law 435 = .ok (.iload 6, 2) := by decide +kernel
theorem dL_law_437 : decode cL_law 437 = .ok (.i2l, 1) := by decide +kernel
theorem dL_law_438 : decode cL_law 438 = .ok (.lcmp, 1) := by decide +kernel
theorem dL_law_439 : decode cL_law 439 = .ok (.ifCond .eq 5, 3) := by decide +kernel
theorem dL_law_442 : decode cL_law 442 = .ok (.iconst 0, 1) := by decide +kernel
theorem dL_law_443 : decode cL_law 443 = .ok (.ireturn, 1) := by decide +kernel
theorem dL_law_444 : decode cL_law 444 = .ok (.goto 1149, 3) := by decide +kernel
theorem dL_law_447 : decode cL_law 447 = .ok (.aload_n 1, 1) := by decide +kernel
theorem dL_law_448 : decode cL_law 448 = .ok (.aload_n 0, 1) := by decide +kernel
theorem dL_law_449 : decode cL_law 449 = .ok (.iload 4, 2) := by decide +kernel
theorem dL_law_451 : decode cL_law 451 = .ok (.iconst 1, 1) := by decide +kernel
theorem dL_law_452 : decode cL_law 452 = .ok (.iadd, 1) := by decide +kernel
theorem dL_law_453 : decode cL_law 453 = .ok (.iaload, 1) := by decide +kernel
theorem dL_law_454 : decode cL_law 454 = .ok (.aload_n 0, 1) := by decide +kernel
theorem dL_law_455 : decode cL_law 455 = .ok (.iload 4, 2) := by decide +kernel
theorem dL_law_457 : decode cL_law 457 = .ok (.iconst 2, 1) := by decide +kernel
theorem dL_law_458 : decode cL_law 458 = .ok (.iadd, 1) := by decide +kernel
theorem dL_law_459 : decode cL_law 459 = .ok (.iaload, 1) := by decide +kernel
theorem dL_law_460 : decode cL_law 460 = .ok (.aload_n 3, 1) := by decide +kernel
theorem dL_law_461 : decode cL_law 461 = .ok (.invokestatic 121, 3) := by decide +kernel
theorem dL_law_464 : decode cL_law 464 = .ok (.istore 5, 2) := by decide +kernel
theorem dL_law_466 : decode cL_law 466 = .ok (.aload_n 2, 1) := by decide +kernel
theorem dL_law_467 : decode cL_law 467 = .ok (.aload_n 0, 1) := by decide +kernel
theorem dL_law_468 : decode cL_law 468 = .ok (.iload 4, 2) := by decide +kernel
theorem dL_law_470 : decode cL_law 470 = .ok (.iconst 1, 1) := by decide +kernel
theorem dL_law_471 : decode cL_law 471 = .ok (.iadd, 1) := by decide +kernel
theorem dL_law_472 : decode cL_law 472 = .ok (.iaload, 1) := by decide +kernel
theorem dL_law_473 : decode cL_law 473 = .ok (.aload_n 0, 1) := by decide +kernel
theorem dL_law_474 : decode cL_law 474 = .ok (.iload 4, 2) := by decide +kernel
theorem dL_law_476 : decode cL_law 476 = .ok (.iconst 2, 1) := by decide +kernel
theorem dL_law_477 : decode cL_law 477 = .ok (.iadd, 1) := by decide +kernel
theorem dL_law_478 : decode cL_law 478 = .ok (.iaload, 1) := by decide +kernel
theorem dL_law_479 : decode cL_law 479 = .ok (.invokevirtual 123, 3) := by decide +kernel
theorem dL_law_482 : decode cL_law 482 = .ok (.istore 6, 2) := by decide +kernel
theorem dL_law_484 : decode cL_law 484 = .ok (.aload_n 2, 1) := by decide +kernel
theorem dL_law_485 : decode cL_law 485 = .ok (.invokevirtual 96, 3) := by decide +kernel
theorem dL_law_488 : decode cL_law 488 = .ok (.iload 5, 2) := by decide +kernel
theorem dL_law_490 : decode cL_law 490 = .ok (.if_icmp .eq 5, 3) := by decide +kernel
theorem dL_law_493 : decode cL_law 493 = .ok (.iconst 0, 1) := by decide +kernel
theorem dL_law_494 : decode cL_law 494 = .ok (.ireturn, 1) := by decide +kernel
theorem dL_law_495 : decode cL_law 495 = .ok (.iload 5, 2) := by decide +kernel
theorem dL_law_497 : decode cL_law 497 = .ok (.ifCond .ne 15, 3) := by decide +kernel
theorem dL_law_500 : decode cL_law 500 = .ok (.aload_n 3, 1) := by decide +kernel
theorem dL_law_501 : decode cL_law 501 = .ok (.iconst 0, 1) := by decide +kernel
theorem dL_law_502 : decode cL_law 502 = .ok (.laload, 1) := by decide +kernel
theorem dL_law_503 : decode cL_law 503 = .ok (.iload 6, 2) := by decide +kernel
theorem dL_law_505 : decode cL_law 505 = .ok (.i2l, 1) := by decide +kernel
theorem dL_law_506 : decode cL_law 506 = .ok (.lcmp, 1) := by decide +kernel
theorem dL_law_507 : decode cL_law 507 = .ok (.ifCond .eq 5, 3) := by decide +kernel
theorem dL_law_510 : decode cL_law 510 = .ok (.iconst 0, 1) := by decide +kernel
theorem dL_law_511 : decode cL_law 511 = .ok (.ireturn, 1) := by decide +kernel
theorem dL_law_512 : decode cL_law 512 = .ok (.goto 1081, 3) := by decide +kernel
theorem dL_law_515 : decode cL_law 515 = .ok (.aload_n 1, 1) := by decide +kernel
theorem dL_law_516 : decode cL_law 516 = .ok (.aload_n 0, 1) := by decide +kernel
theorem dL_law_517 : decode cL_law 517 = .ok (.iload 4, 2) := by decide +kernel
theorem dL_law_519 : decode cL_law 519 = .ok (.iconst 1, 1) := by decide +kernel
theorem dL_law_520 : decode cL_law 520 = .ok (.iadd, 1) := by decide +kernel
theorem dL_law_521 : decode cL_law 521 = .ok (.iaload, 1) := by decide +kernel
theorem dL_law_522 : decode cL_law 522 = .ok (.aload_n 3, 1) := by decide +kernel
theorem dL_law_523 : decode cL_law 523 = .ok (.invokestatic 124, 3) := by decide +kernel
theorem dL_law_526 : decode cL_law 526 = .ok (.istore 5, 2) := by decide +kernel
theorem dL_law_528 : decode cL_law 528 = .ok (.aload_n 2, 1) := by decide +kernel
theorem dL_law_529 : decode cL_law 529 = .ok (.aload_n 0, 1) := by decide +kernel
theorem dL_law_530 : decode cL_law 530 = .ok (.iload 4, 2) := by decide +kernel
theorem dL_law_532 : decode cL_law 532 = .ok (.iconst 1, 1) := by decide +kernel
theorem dL_law_533 : decode cL_law 533 = .ok (.iadd, 1) := by decide +kernel
theorem dL_law_534 : decode cL_law 534 = .ok (.iaload, 1) := by decide +kernel
theorem dL_law_535 : decode cL_law 535 = .ok (.invokevirtual 126, 3) := by decide +kernel
theorem dL_law_538 : decode cL_law 538 = .ok (.istore 6, 2) := by decide +kernel
theorem dL_law_540 : decode cL_law 540 = .ok (.aload_n 2, 1) := by decide +kernel
theorem dL_law_541 : decode cL_law 541 = .ok (.invokevirtual 96, 3) := by decide +kernel
theorem dL_law_544 : decode cL_law 544 = .ok (.iload 5, 2) := by decide +kernel
theorem dL_law_546 : decode cL_law 546 = .ok (.if_icmp .eq 5, 3) := by decide +kernel
theorem dL_law_549 : decode cL_law 549 = .ok (.iconst 0, 1) := by decide +kernel
theorem dL_law_550 : decode cL_law 550 = .ok (.ireturn, 1) := by decide +kernel
theorem dL_law_551 : decode cL_law 551 = .ok (.iload 5, 2) := by decide +kernel
theorem dL_law_553 : decode cL_law 553 = .ok (.ifCond .ne 15, 3) := by decide +kernel
theorem dL_law_556 : decode cL_law 556 = .ok (.aload_n 3, 1) := by decide +kernel
theorem dL_law_557 : decode cL_law 557 = .ok (.iconst 0, 1) := by decide +kernel
theorem dL_law_558 : decode cL_law 558 = .ok (.laload, 1) := by decide +kernel
theorem dL_law_559 : decode cL_law 559 = .ok (.iload 6, 2) := by decide +kernel
theorem dL_law_561 : decode cL_law 561 = .ok (.i2l, 1) := by decide +kernel
theorem dL_law_562 : decode cL_law 562 = .ok (.lcmp, 1) := by decide +kernel
theorem dL_law_563 : decode cL_law 563 = .ok (.ifCond .eq 5, 3) := by decide +kernel
theorem dL_law_566 : decode cL_law 566 = .ok (.iconst 0, 1) := by decide +kernel
theorem dL_law_567 : decode cL_law 567 = .ok (.ireturn, 1) := by decide +kernel
theorem dL_law_568 : decode cL_law 568 = .ok (.goto 1025, 3) := by decide +kernel
theorem dL_law_571 : decode cL_law 571 = .ok (.aload_n 1, 1) := by decide +kernel
theorem dL_law_572 : decode cL_law 572 = .ok (.aload_n 0, 1) := by decide +kernel
theorem dL_law_573 : decode cL_law 573 = .ok (.iload 4, 2) := by decide +kernel
theorem dL_law_575 : decode cL_law 575 = .ok (.iconst 1, 1) := by decide +kernel
theorem dL_law_576 : decode cL_law 576 = .ok (.iadd, 1) := by decide +kernel
theorem dL_law_577 : decode cL_law 577 = .ok (.iaload, 1) := by decide +kernel
theorem dL_law_578 : decode cL_law 578 = .ok (.aload_n 0, 1) := by decide +kernel
theorem dL_law_579 : decode cL_law 579 = .ok (.iload 4, 2) := by decide +kernel
theorem dL_law_581 : decode cL_law 581 = .ok (.iconst 2, 1) := by decide +kernel
theorem dL_law_582 : decode cL_law 582 = .ok (.iadd, 1) := by decide +kernel
theorem dL_law_583 : decode cL_law 583 = .ok (.iaload, 1) := by decide +kernel
theorem dL_law_584 : decode cL_law 584 = .ok (.aload_n 3, 1) := by decide +kernel
theorem dL_law_585 : decode cL_law 585 = .ok (.invokestatic 127, 3) := by decide +kernel
theorem dL_law_588 : decode cL_law 588 = .ok (.istore 5, 2) := by decide +kernel
theorem dL_law_590 : decode cL_law 590 = .ok (.aload_n 2, 1) := by decide +kernel
theorem dL_law_591 : decode cL_law 591 = .ok (.aload_n 0, 1) := by decide +kernel
theorem dL_law_592 : decode cL_law 592 = .ok (.iload 4, 2) := by decide +kernel
theorem dL_law_594 : decode cL_law 594 = .ok (.iconst 1, 1) := by decide +kernel
theorem dL_law_595 : decode cL_law 595 = .ok (.iadd, 1) := by decide +kernel
theorem dL_law_596 : decode cL_law 596 = .ok (.iaload, 1) := by decide +kernel
theorem dL_law_597 : decode cL_law 597 = .ok (.aload_n 0, 1) := by decide +kernel
theorem dL_law_598 : decode cL_law 598 = .ok (.iload 4, 2) := by decide +kernel
theorem dL_law_600 : decode cL_law 600 = .ok (.iconst 2, 1) := by decide +kernel
theorem dL_law_601 : decode cL_law 601 = .ok (.iadd, 1) := by decide +kernel
theorem dL_law_602 : decode cL_law 602 = .ok (.iaload, 1) := by decide +kernel
theorem dL_law_603 : decode cL_law 603 = .ok (.invokevirtual 129, 3) := by decide +kernel
theorem dL_law_606 : decode cL_law 606 = .ok (.istore 6, 2) := by decide +kernel
theorem dL_law_608 : decode cL_law 608 = .ok (.aload_n 2, 1) := by decide +kernel
theorem dL_law_609 : decode cL_law 609 = .ok (.invokevirtual 96, 3) := by decide +kernel
theorem dL_law_612 : decode cL_law 612 = .ok (.iload 5, 2) := by decide +kernel
theorem dL_law_614 : decode cL_law 614 = .ok (.if_icmp .eq 5, 3) := by decide +kernel
theorem dL_law_617 : decode cL_law 617 = .ok (.iconst 0, 1) := by decide +kernel
theorem dL_law_618 : decode cL_law 618 = .ok (.ireturn, 1) := by decide +kernel
theorem dL_law_619 : decode cL_law 619 = .ok (.iload 5, 2) := by decide +kernel
theorem dL_law_621 : decode cL_law 621 = .ok (.ifCond .ne 15, 3) := by decide +kernel
theorem dL_law_624 : decode cL_law 624 = .ok (.aload_n 3, 1) := by decide +kernel
theorem dL_law_625 : decode cL_law 625 = .ok (.iconst 0, 1) := by decide +kernel
theorem dL_law_626 : decode cL_law 626 = .ok (.laload, 1) := by decide +kernel
theorem dL_law_627 : decode cL_law 627 = .ok (.iload 6, 2) := by decide +kernel
theorem dL_law_629 : decode cL_law 629 = .ok (.i2l, 1) := by decide +kernel
theorem dL_law_630 : decode cL_law 630 = .ok (.lcmp, 1) := by decide +kernel
theorem dL_law_631 : decode cL_law 631 = .ok (.ifCond .eq 5, 3) := by decide +kernel
theorem dL_law_634 : decode cL_law 634 = .ok (.iconst 0, 1) := by decide +kernel
theorem dL_law_635 : decode cL_law 635 = .ok (.ireturn, 1) := by decide +kernel
theorem dL_law_636 : decode cL_law 636 = .ok (.goto 957, 3) := by decide +kernel
theorem dL_law_639 : decode cL_law 639 = .ok (.aload_n 1, 1) := by decide +kernel
theorem dL_law_640 : decode cL_law 640 = .ok (.aload_n 3, 1) := by decide +kernel
theorem dL_law_641 : decode cL_law 641 = .ok (.invokestatic 130, 3) := by decide +kernel
theorem dL_law_644 : decode cL_law 644 = .ok (.istore 5, 2) := by decide +kernel
theorem dL_law_646 : decode cL_law 646 = .ok (.aload_n 2, 1) := by decide +kernel
theorem dL_law_647 : decode cL_law 647 = .ok (.invokevirtual 133, 3) := by decide +kernel
theorem dL_law_650 : decode cL_law 650 = .ok (.istore 6, 2) := by decide +kernel
theorem dL_law_652 : decode cL_law 652 = .ok (.aload_n 2, 1) := by decide +kernel
theorem dL_law_653 : decode cL_law 653 = .ok (.invokevirtual 96, 3) := by decide +kernel
theorem dL_law_656 : decode cL_law 656 = .ok (.iload 5, 2) := by decide +kernel
theorem dL_law_658 : decode cL_law 658 = .ok (.if_icmp .eq 5, 3) := by decide +kernel
theorem dL_law_661 : decode cL_law 661 = .ok (.iconst 0, 1) := by decide +kernel
theorem dL_law_662 : decode cL_law 662 = .ok (.ireturn, 1) := by decide +kernel
theorem dL_law_663 : decode cL_law 663 = .ok (.iload 5, 2) := by decide +kernel
theorem dL_law_665 : decode cL_law 665 = .ok (.ifCond .ne 15, 3) := by decide +kernel
theorem dL_law_668 : decode cL_law 668 = .ok (.aload_n 3, 1) := by decide +kernel
theorem dL_law_669 : decode cL_law 669 = .ok (.iconst 0, 1) := by decide +kernel
theorem dL_law_670 : decode cL_law 670 = .ok (.laload, 1) := by decide +kernel
theorem dL_law_671 : decode cL_law 671 = .ok (.iload 6, 2) := by decide +kernel
theorem dL_law_673 : decode cL_law 673 = .ok (.i2l, 1) := by decide +kernel
theorem dL_law_674 : decode cL_law 674 = .ok (.lcmp, 1) := by decide +kernel
theorem dL_law_675 : decode cL_law 675 = .ok (.ifCond .eq 5, 3) := by decide +kernel
theorem dL_law_678 : decode cL_law 678 = .ok (.iconst 0, 1) := by decide +kernel
theorem dL_law_679 : decode cL_law 679 = .ok (.ireturn, 1) := by decide +kernel
theorem dL_law_680 : decode cL_law 680 = .ok (.goto 913, 3) := by decide +kernel
theorem dL_law_683 : decode cL_law 683 = .ok (.aload_n 1, 1) := by decide +kernel
theorem dL_law_684 : decode cL_law 684 = .ok (.aload_n 0, 1) := by decide +kernel
theorem dL_law_685 : decode cL_law 685 = .ok (.iload 4, 2) := by decide +kernel
theorem dL_law_687 : decode cL_law 687 = .ok (.iconst 1, 1) := by decide +kernel
theorem dL_law_688 : decode cL_law 688 = .ok (.iadd, 1) := by decide +kernel
theorem dL_law_689 : decode cL_law 689 = .ok (.iaload, 1) := by decide +kernel
theorem dL_law_690 : decode cL_law 690 = .ok (.aload_n 3, 1) := by decide +kernel
theorem dL_law_691 : decode cL_law 691 = .ok (.invokestatic 134, 3) := by decide +kernel
theorem dL_law_694 : decode cL_law 694 = .ok (.istore 5, 2) := by decide +kernel
theorem dL_law_696 : decode cL_law 696 = .ok (.aload_n 2, 1) := by decide +kernel
theorem dL_law_697 : decode cL_law 697 = .ok (.aload_n 0, 1) := by decide +kernel
theorem dL_law_698 : decode cL_law 698 = .ok (.iload 4, 2) := by decide +kernel
theorem dL_law_700 : decode cL_law 700 = .ok (.iconst 1, 1) := by decide +kernel
theorem dL_law_701 : decode cL_law 701 = .ok (.iadd, 1) := by decide +kernel
theorem dL_law_702 : decode cL_law 702 = .ok (.iaload, 1) := by decide +kernel
theorem dL_law_703 : decode cL_law 703 = .ok (.invokevirtual 136, 3) := by decide +kernel
theorem dL_law_706 : decode cL_law 706 = .ok (.istore 6, 2) := by decide +kernel
theorem dL_law_708 : decode cL_law 708 = .ok (.aload_n 2, 1) := by decide +kernel
theorem dL_law_709 : decode cL_law 709 = .ok (.invokevirtual 96, 3) := by decide +kernel
theorem dL_law_712 : decode cL_law 712 = .ok (.iload 5, 2) := by decide +kernel
theorem dL_law_714 : decode cL_law 714 = .ok (.if_icmp .eq 5, 3) := by decide +kernel
theorem dL_law_717 : decode cL_law 717 = .ok (.iconst 0, 1) := by decide +kernel
theorem dL_law_718 : decode cL_law 718 = .ok (.ireturn, 1) := by decide +kernel
theorem dL_law_719 : decode cL_law 719 = .ok (.iload 5, 2) := by decide +kernel
theorem dL_law_721 : decode cL_law 721 = .ok (.ifCond .ne 15, 3) := by decide +kernel
theorem dL_law_724 : decode cL_law 724 = .ok (.aload_n 3, 1) := by decide +kernel
theorem dL_law_725 : decode cL_law 725 = .ok (.iconst 0, 1) := by decide +kernel
theorem dL_law_726 : decode cL_law 726 = .ok (.laload, 1) := by decide +kernel
theorem dL_law_727 : decode cL_law 727 = .ok (.iload 6, 2) := by decide +kernel
theorem dL_law_729 : decode cL_law 729 = .ok (.i2l, 1) := by decide +kernel
theorem dL_law_730 : decode cL_law 730 = .ok (.lcmp, 1) := by decide +kernel
theorem dL_law_731 : decode cL_law 731 = .ok (.ifCond .eq 5, 3) := by decide +kernel
theorem dL_law_734 : decode cL_law 734 = .ok (.iconst 0, 1) := by decide +kernel
theorem dL_law_735 : decode cL_law 735 = .ok (.ireturn, 1) := by decide +kernel
theorem dL_law_736 : decode cL_law 736 = .ok (.goto 857, 3) := by decide +kernel
theorem dL_law_739 : decode cL_law 739 = .ok (.aload_n 1, 1) := by decide +kernel
theorem dL_law_740 : decode cL_law 740 = .ok (.aload_n 0, 1) := by decide +kernel
theorem dL_law_741 : decode cL_law 741 = .ok (.iload 4, 2) := by decide +kernel
theorem dL_law_743 : decode cL_law 743 = .ok (.iconst 1, 1) := by decide +kernel
theorem dL_law_744 : decode cL_law 744 = .ok (.iadd, 1) := by decide +kernel
theorem dL_law_745 : decode cL_law 745 = .ok (.iaload, 1) := by decide +kernel
theorem dL_law_746 : decode cL_law 746 = .ok (.aload_n 0, 1) := by decide +kernel
theorem dL_law_747 : decode cL_law 747 = .ok (.iload 4, 2) := by decide +kernel
theorem dL_law_749 : decode cL_law 749 = .ok (.iconst 2, 1) := by decide +kernel
theorem dL_law_750 : decode cL_law 750 = .ok (.iadd, 1) := by decide +kernel
theorem dL_law_751 : decode cL_law 751 = .ok (.iaload, 1) := by decide +kernel
theorem dL_law_752 : decode cL_law 752 = .ok (.aload_n 3, 1) := by decide +kernel
theorem dL_law_753 : decode cL_law 753 = .ok (.invokestatic 137, 3) := by decide +kernel
theorem dL_law_756 : decode cL_law 756 = .ok (.istore 5, 2) := by decide +kernel
theorem dL_law_758 : decode cL_law 758 = .ok (.aload_n 2, 1) := by decide +kernel
theorem dL_law_759 : decode cL_law 759 = .ok (.aload_n 0, 1) := by decide +kernel
theorem dL_law_760 : decode cL_law 760 = .ok (.iload 4, 2) := by decide +kernel
theorem dL_law_762 : decode cL_law 762 = .ok (.iconst 1, 1) := by decide +kernel
theorem dL_law_763 : decode cL_law 763 = .ok (.iadd, 1) := by decide +kernel
theorem dL_law_764 : decode cL_law 764 = .ok (.iaload, 1) := by decide +kernel
theorem dL_law_765 : decode cL_law 765 = .ok (.aload_n 0, 1) := by decide +kernel
theorem dL_law_766 : decode cL_law 766 = .ok (.iload 4, 2) := by decide +kernel
theorem dL_law_768 : decode cL_law 768 = .ok (.iconst 2, 1) := by decide +kernel
theorem dL_law_769 : decode cL_law 769 = .ok (.iadd, 1) := by decide +kernel
theorem dL_law_770 : decode cL_law 770 = .ok (.iaload, 1) := by decide +kernel
theorem dL_law_771 : decode cL_law 771 = .ok (.invokevirtual 139, 3) := by decide +kernel
theorem dL_law_774 : decode cL_law 774 = .ok (.istore 6, 2) := by decide +kernel
theorem dL_law_776 : decode cL_law 776 = .ok (.aload_n 2, 1) := by decide +kernel
theorem dL_law_777 : decode cL_law 777 = .ok (.invokevirtual 96, 3) := by decide +kernel
theorem dL_law_780 : decode cL_law 780 = .ok (.iload 5, 2) := by decide +kernel
theorem dL_law_782 : decode cL_law 782 = .ok (.if_icmp .eq 5, 3) := by decide +kernel
theorem dL_law_785 : decode cL_law 785 = .ok (.iconst 0, 1) := by decide +kernel
theorem dL_law_786 : decode cL_law 786 = .ok (.ireturn, 1) := by decide +kernel
theorem dL_law_787 : decode cL_law 787 = .ok (.iload 5, 2) := by decide +kernel
theorem dL_law_789 : decode cL_law 789 = .ok (.ifCond .ne 15, 3) := by decide +kernel
theorem dL_law_792 : decode cL_law 792 = .ok (.aload_n 3, 1) := by decide +kernel
theorem dL_law_793 : decode cL_law 793 = .ok (.iconst 0, 1) := by decide +kernel
theorem dL_law_794 : decode cL_law 794 = .ok (.laload, 1) := by decide +kernel
theorem dL_law_795 : decode cL_law 795 = .ok (.iload 6, 2) := by decide +kernel
theorem dL_law_797 : decode cL_law 797 = .ok (.i2l, 1) := by decide +kernel
theorem dL_law_798 : decode cL_law 798 = .ok (.lcmp, 1) := by decide +kernel
theorem dL_law_799 : decode cL_law 799 = .ok (.ifCond .eq 5, 3) := by decide +kernel
theorem dL_law_802 : decode cL_law 802 = .ok (.iconst 0, 1) := by decide +kernel
theorem dL_law_803 : decode cL_law 803 = .ok (.ireturn, 1) := by decide +kernel
theorem dL_law_804 : decode cL_law 804 = .ok (.goto 789, 3) := by decide +kernel
theorem dL_law_807 : decode cL_law 807 = .ok (.aload_n 1, 1) := by decide +kernel
theorem dL_law_808 : decode cL_law 808 = .ok (.aload_n 0, 1) := by decide +kernel
theorem dL_law_809 : decode cL_law 809 = .ok (.iload 4, 2) := by decide +kernel
theorem dL_law_811 : decode cL_law 811 = .ok (.iconst 1, 1) := by decide +kernel
theorem dL_law_812 : decode cL_law 812 = .ok (.iadd, 1) := by decide +kernel
theorem dL_law_813 : decode cL_law 813 = .ok (.iaload, 1) := by decide +kernel
theorem dL_law_814 : decode cL_law 814 = .ok (.aload_n 0, 1) := by decide +kernel
theorem dL_law_815 : decode cL_law 815 = .ok (.iload 4, 2) := by decide +kernel
theorem dL_law_817 : decode cL_law 817 = .ok (.iconst 2, 1) := by decide +kernel
theorem dL_law_818 : decode cL_law 818 = .ok (.iadd, 1) := by decide +kernel
theorem dL_law_819 : decode cL_law 819 = .ok (.iaload, 1) := by decide +kernel
theorem dL_law_820 : decode cL_law 820 = .ok (.aload_n 3, 1) := by decide +kernel
theorem dL_law_821 : decode cL_law 821 = .ok (.invokestatic 140, 3) := by decide +kernel
theorem dL_law_824 : decode cL_law 824 = .ok (.istore 5, 2) := by decide +kernel
theorem dL_law_826 : decode cL_law 826 = .ok (.aload_n 2, 1) := by decide +kernel
theorem dL_law_827 : decode cL_law 827 = .ok (.aload_n 0, 1) := by decide +kernel
theorem dL_law_828 : decode cL_law 828 = .ok (.iload 4, 2) := by decide +kernel
theorem dL_law_830 : decode cL_law 830 = .ok (.iconst 1, 1) := by decide +kernel
theorem dL_law_831 : decode cL_law 831 = .ok (.iadd, 1) := by decide +kernel
theorem dL_law_832 : decode cL_law 832 = .ok (.iaload, 1) := by decide +kernel
theorem dL_law_833 : decode cL_law 833 = .ok (.aload_n 0, 1) := by decide +kernel
theorem dL_law_834 : decode cL_law 834 = .ok (.iload 4, 2) := by decide +kernel
theorem dL_law_836 : decode cL_law 836 = .ok (.iconst 2, 1) := by decide +kernel
theorem dL_law_837 : decode cL_law 837 = .ok (.iadd, 1) := by decide +kernel
theorem dL_law_838 : decode cL_law 838 = .ok (.iaload, 1) := by decide +kernel
theorem dL_law_839 : decode cL_law 839 = .ok (.invokevirtual 142, 3) := by decide +kernel
theorem dL_law_842 : decode cL_law 842 = .ok (.istore 6, 2) := by decide +kernel
theorem dL_law_844 : decode cL_law 844 = .ok (.aload_n 2, 1) := by decide +kernel
theorem dL_law_845 : decode cL_law 845 = .ok (.invokevirtual 96, 3) := by decide +kernel
theorem dL_law_848 : decode cL_law 848 = .ok (.iload 5, 2) := by decide +kernel
theorem dL_law_850 : decode cL_law 850 = .ok (.if_icmp .eq 5, 3) := by decide +kernel
theorem dL_law_853 : decode cL_law 853 = .ok (.iconst 0, 1) := by decide +kernel
theorem dL_law_854 : decode cL_law 854 = .ok (.ireturn, 1) := by decide +kernel
theorem dL_law_855 : decode cL_law 855 = .ok (.iload 5, 2) := by decide +kernel
theorem dL_law_857 : decode cL_law 857 = .ok (.ifCond .ne 15, 3) := by decide +kernel
theorem dL_law_860 : decode cL_law 860 = .ok (.aload_n 3, 1) := by decide +kernel
theorem dL_law_861 : decode cL_law 861 = .ok (.iconst 0, 1) := by decide +kernel
theorem dL_law_862 : decode cL_law 862 = .ok (.laload, 1) := by decide +kernel
theorem dL_law_863 : decode cL_law 863 = .ok (.iload 6, 2) := by decide +kernel
theorem dL_law_865 : decode cL_law 865 = .ok (.i2l, 1) := by decide +kernel
theorem dL_law_866 : decode cL_law 866 = .ok (.lcmp, 1) := by decide +kernel
theorem dL_law_867 : decode cL_law 867 = .ok (.ifCond .eq 5, 3) := by decide +kernel
theorem dL_law_870 : decode cL_law 870 = .ok (.iconst 0, 1) := by decide +kernel
theorem dL_law_871 : decode cL_law 871 = .ok (.ireturn, 1) := by decide +kernel
theorem dL_law_872 : decode cL_law 872 = .ok (.goto 721, 3) := by decide +kernel
theorem dL_law_875 : decode cL_law 875 = .ok (.aload_n 1, 1) := by decide +kernel
theorem dL_law_876 : decode cL_law 876 = .ok (.aload_n 0, 1) := by decide +kernel
theorem dL_law_877 : decode cL_law 877 = .ok (.iload 4, 2) := by decide +kernel
theorem dL_law_879 : decode cL_law 879 = .ok (.iconst 1, 1) := by decide +kernel
theorem dL_law_880 : decode cL_law 880 = .ok (.iadd, 1) := by decide +kernel
theorem dL_law_881 : decode cL_law 881 = .ok (.iaload, 1) := by decide +kernel
theorem dL_law_882 : decode cL_law 882 = .ok (.aload_n 0, 1) := by decide +kernel
theorem dL_law_883 : decode cL_law 883 = .ok (.iload 4, 2) := by decide +kernel
theorem dL_law_885 : decode cL_law 885 = .ok (.iconst 2, 1) := by decide +kernel
theorem dL_law_886 : decode cL_law 886 = .ok (.iadd, 1) := by decide +kernel
theorem dL_law_887 : decode cL_law 887 = .ok (.iaload, 1) := by decide +kernel
theorem dL_law_888 : decode cL_law 888 = .ok (.aload_n 3, 1) := by decide +kernel
theorem dL_law_889 : decode cL_law 889 = .ok (.invokestatic 143, 3) := by decide +kernel
theorem dL_law_892 : decode cL_law 892 = .ok (.istore 5, 2) := by decide +kernel
theorem dL_law_894 : decode cL_law 894 = .ok (.aload_n 2, 1) := by decide +kernel
theorem dL_law_895 : decode cL_law 895 = .ok (.aload_n 0, 1) := by decide +kernel
theorem dL_law_896 : decode cL_law 896 = .ok (.iload 4, 2) := by decide +kernel
theorem dL_law_898 : decode cL_law 898 = .ok (.iconst 1, 1) := by decide +kernel
theorem dL_law_899 : decode cL_law 899 = .ok (.iadd, 1) := by decide +kernel
theorem dL_law_900 : decode cL_law 900 = .ok (.iaload, 1) := by decide +kernel
theorem dL_law_901 : decode cL_law 901 = .ok (.aload_n 0, 1) := by decide +kernel
theorem dL_law_902 : decode cL_law 902 = .ok (.iload 4, 2) := by decide +kernel
theorem dL_law_904 : decode cL_law 904 = .ok (.iconst 2, 1) := by decide +kernel
theorem dL_law_905 : decode cL_law 905 = .ok (.iadd, 1) := by decide +kernel
theorem dL_law_906 : decode cL_law 906 = .ok (.iaload, 1) := by decide +kernel
theorem dL_law_907 : decode cL_law 907 = .ok (.invokevirtual 145, 3) := by decide +kernel
theorem dL_law_910 : decode cL_law 910 = .ok (.istore 6, 2) := by decide +kernel
theorem dL_law_912 : decode cL_law 912 = .ok (.aload_n 2, 1) := by decide +kernel
theorem dL_law_913 : decode cL_law 913 = .ok (.invokevirtual 96, 3) := by decide +kernel
theorem dL_law_916 : decode cL_law 916 = .ok (.iload 5, 2) := by decide +kernel
theorem dL_law_918 : decode cL_law 918 = .ok (.if_icmp .eq 5, 3) := by decide +kernel
theorem dL_law_921 : decode cL_law 921 = .ok (.iconst 0, 1) := by decide +kernel
theorem dL_law_922 : decode cL_law 922 = .ok (.ireturn, 1) := by decide +kernel
theorem dL_law_923 : decode cL_law 923 = .ok (.iload 5, 2) := by decide +kernel
theorem dL_law_925 : decode cL_law 925 = .ok (.ifCond .ne 15, 3) := by decide +kernel
theorem dL_law_928 : decode cL_law 928 = .ok (.aload_n 3, 1) := by decide +kernel
theorem dL_law_929 : decode cL_law 929 = .ok (.iconst 0, 1) := by decide +kernel
theorem dL_law_930 : decode cL_law 930 = .ok (.laload, 1) := by decide +kernel
theorem dL_law_931 : decode cL_law 931 = .ok (.iload 6, 2) := by decide +kernel
theorem dL_law_933 : decode cL_law 933 = .ok (.i2l, 1) := by decide +kernel
theorem dL_law_934 : decode cL_law 934 = .ok (.lcmp, 1) := by decide +kernel
theorem dL_law_935 : decode cL_law 935 = .ok (.ifCond .eq 5, 3) := by decide +kernel
theorem dL_law_938 : decode cL_law 938 = .ok (.iconst 0, 1) := by decide +kernel
theorem dL_law_939 : decode cL_law 939 = .ok (.ireturn, 1) := by decide +kernel
theorem dL_law_940 : decode cL_law 940 = .ok (.goto 653, 3) := by decide +kernel
theorem dL_law_943 : decode cL_law 943 = .ok (.aload_n 1, 1) := by decide +kernel
theorem dL_law_944 : decode cL_law 944 = .ok (.aload_n 3, 1) := by decide +kernel
theorem dL_law_945 : decode cL_law 945 = .ok (.invokestatic 146, 3) := by decide +kernel
theorem dL_law_948 : decode cL_law 948 = .ok (.istore 5, 2) := by decide +kernel
theorem dL_law_950 : decode cL_law 950 = .ok (.aload_n 2, 1) := by decide +kernel
theorem dL_law_951 : decode cL_law 951 = .ok (.invokevirtual 148, 3) := by decide +kernel
theorem dL_law_954 : decode cL_law 954 = .ok (.istore 6, 2) := by decide +kernel
theorem dL_law_956 : decode cL_law 956 = .ok (.aload_n 2, 1) := by decide +kernel
theorem dL_law_957 : decode cL_law 957 = .ok (.invokevirtual 96, 3) := by decide +kernel
theorem dL_law_960 : decode cL_law 960 = .ok (.iload 5, 2) := by decide +kernel
theorem dL_law_962 : decode cL_law 962 = .ok (.if_icmp .eq 5, 3) := by decide +kernel
theorem dL_law_965 : decode cL_law 965 = .ok (.iconst 0, 1) := by decide +kernel
theorem dL_law_966 : decode cL_law 966 = .ok (.ireturn, 1) := by decide +kernel
theorem dL_law_967 : decode cL_law 967 = .ok (.iload 5, 2) := by decide +kernel
theorem dL_law_969 : decode cL_law 969 = .ok (.ifCond .ne 15, 3) := by decide +kernel
theorem dL_law_972 : decode cL_law 972 = .ok (.aload_n 3, 1) := by decide +kernel
theorem dL_law_973 : decode cL_law 973 = .ok (.iconst 0, 1) := by decide +kernel
theorem dL_law_974 : decode cL_law 974 = .ok (.laload, 1) := by decide +kernel
theorem dL_law_975 : decode cL_law 975 = .ok (.iload 6, 2) := by decide +kernel
theorem dL_law_977 : decode cL_law 977 = .ok (.i2l, 1) := by decide +kernel
theorem dL_law_978 : decode cL_law 978 = .ok (.lcmp, 1) := by decide +kernel
theorem dL_law_979 : decode cL_law 979 = .ok (.ifCond .eq 5, 3) := by decide +kernel
theorem dL_law_982 : decode cL_law 982 = .ok (.iconst 0, 1) := by decide +kernel
theorem dL_law_983 : decode cL_law 983 = .ok (.ireturn, 1) := by decide +kernel
theorem dL_law_984 : decode cL_law 984 = .ok (.goto 609, 3) := by decide +kernel
theorem dL_law_987 : decode cL_law 987 = .ok (.aload_n 1, 1) := by decide +kernel
theorem dL_law_988 : decode cL_law 988 = .ok (.aload_n 3, 1) := by decide +kernel
theorem dL_law_989 : decode cL_law 989 = .ok (.invokestatic 149, 3) := by decide +kernel
theorem dL_law_992 : decode cL_law 992 = .ok (.istore 5, 2) := by decide +kernel
theorem dL_law_994 : decode cL_law 994 = .ok (.aload_n 2, 1) := by decide +kernel
theorem dL_law_995 : decode cL_law 995 = .ok (.invokevirtual 151, 3) := by decide +kernel
theorem dL_law_998 : decode cL_law 998 = .ok (.istore 6, 2) := by decide +kernel
theorem dL_law_1000 : decode cL_law 1000 = .ok (.aload_n 2, 1) := by decide +kernel
theorem dL_law_1001 : decode cL_law 1001 = .ok (.invokevirtual 96, 3) := by decide +kernel
theorem dL_law_1004 : decode cL_law 1004 = .ok (.iload 5, 2) := by decide +kernel
theorem dL_law_1006 : decode cL_law 1006 = .ok (.if_icmp .eq 5, 3) := by decide +kernel
theorem dL_law_1009 : decode cL_law 1009 = .ok (.iconst 0, 1) := by decide +kernel
theorem dL_law_1010 : decode cL_law 1010 = .ok (.ireturn, 1) := by decide +kernel
theorem dL_law_1011 : decode cL_law 1011 = .ok (.iload 5, 2) := by decide +kernel
theorem dL_law_1013 : decode cL_law 1013 = .ok (.ifCond .ne 15, 3) := by decide +kernel
theorem dL_law_1016 : decode cL_law 1016 = .ok (.aload_n 3, 1) := by decide +kernel
theorem dL_law_1017 : decode cL_law 1017 = .ok (.iconst 0, 1) := by decide +kernel
theorem dL_law_1018 : decode cL_law 1018 = .ok (.laload, 1) := by decide +kernel
theorem dL_law_1019 : decode cL_law 1019 = .ok (.iload 6, 2) := by decide +kernel
theorem dL_law_1021 : decode cL_law 1021 = .ok (.i2l, 1) := by decide +kernel
theorem dL_law_1022 : decode cL_law 1022 = .ok (.lcmp, 1) := by decide +kernel
theorem dL_law_1023 : decode cL_law 1023 = .ok (.ifCond .eq 5, 3) := by decide +kernel
theorem dL_law_1026 : decode cL_law 1026 = .ok (.iconst 0, 1) := by decide +kernel
theorem dL_law_1027 : decode cL_law 1027 = .ok (.ireturn, 1) := by decide +kernel
theorem dL_law_1028 : decode cL_law 1028 = .ok (.goto 565, 3) := by decide +kernel
theorem dL_law_1031 : decode cL_law 1031 = .ok (.aload_n 1, 1) := by decide +kernel
theorem dL_law_1032 : decode cL_law 1032 = .ok (.aload_n 0, 1) := by decide +kernel
theorem dL_law_1033 : decode cL_law 1033 = .ok (.iload 4, 2) := by decide +kernel
theorem dL_law_1035 : decode cL_law 1035 = .ok (.iconst 1, 1) := by decide +kernel
theorem dL_law_1036 : decode cL_law 1036 = .ok (.iadd, 1) := by decide +kernel
theorem dL_law_1037 : decode cL_law 1037 = .ok (.iaload, 1) := by decide +kernel
theorem dL_law_1038 : decode cL_law 1038 = .ok (.aload_n 3, 1) := by decide +kernel
theorem dL_law_1039 : decode cL_law 1039 = .ok (.invokestatic 152, 3) := by decide +kernel
theorem dL_law_1042 : decode cL_law 1042 = .ok (.istore 5, 2) := by decide +kernel
theorem dL_law_1044 : decode cL_law 1044 = .ok (.aload_n 2, 1) := by decide +kernel
theorem dL_law_1045 : decode cL_law 1045 = .ok (.aload_n 0, 1) := by decide +kernel
theorem dL_law_1046 : decode cL_law 1046 = .ok (.iload 4, 2) := by decide +kernel
theorem dL_law_1048 : decode cL_law 1048 = .ok (.iconst 1, 1) := by decide +kernel
theorem dL_law_1049 : decode cL_law 1049 = .ok (.iadd, 1) := by decide +kernel
theorem dL_law_1050 : decode cL_law 1050 = .ok (.iaload, 1) := by decide +kernel
theorem dL_law_1051 : decode cL_law 1051 = .ok (.invokevirtual 154, 3) := by decide +kernel
theorem dL_law_1054 : decode cL_law 1054 = .ok (.istore 6, 2) := by decide +kernel
theorem dL_law_1056 : decode cL_law 1056 = .ok (.aload_n 2, 1) := by decide +kernel
theorem dL_law_1057 : decode cL_law 1057 = .ok (.invokevirtual 96, 3) := by decide +kernel
theorem dL_law_1060 : decode cL_law 1060 = .ok (.iload 5, 2) := by decide +kernel
theorem dL_law_1062 : decode cL_law 1062 = .ok (.if_icmp .eq 5, 3) := by decide +kernel
theorem dL_law_1065 : decode cL_law 1065 = .ok (.iconst 0, 1) := by decide +kernel
theorem dL_law_1066 : decode cL_law 1066 = .ok (.ireturn, 1) := by decide +kernel
theorem dL_law_1067 : decode cL_law 1067 = .ok (.iload 5, 2) := by decide +kernel
theorem dL_law_1069 : decode cL_law 1069 = .ok (.ifCond .ne 15, 3) := by decide +kernel
theorem dL_law_1072 : decode cL_law 1072 = .ok (.aload_n 3, 1) := by decide +kernel
theorem dL_law_1073 : decode cL_law 1073 = .ok (.iconst 0, 1) := by decide +kernel
theorem dL_law_1074 : decode cL_law 1074 = .ok (.laload, 1) := by decide +kernel
theorem dL_law_1075 : decode cL_law 1075 = .ok (.iload 6, 2) := by decide +kernel
theorem dL_law_1077 : decode cL_law 1077 = .ok (.i2l, 1) := by decide +kernel
theorem dL_law_1078 : decode cL_law 1078 = .ok (.lcmp, 1) := by decide +kernel
theorem dL_law_1079 : decode cL_law 1079 = .ok (.ifCond .eq 5, 3) := by decide +kernel
theorem dL_law_1082 : decode cL_law 1082 = .ok (.iconst 0, 1) := by decide +kernel
theorem dL_law_1083 : decode cL_law 1083 = .ok (.ireturn, 1) := by decide +kernel
theorem dL_law_1084 : decode cL_law 1084 = .ok (.goto 509, 3) := by decide +kernel
theorem dL_law_1087 : decode cL_law 1087 = .ok (.aload_n 1, 1) := by decide +kernel
theorem dL_law_1088 : decode cL_law 1088 = .ok (.invokevirtual 155, 3) := by decide +kernel
theorem dL_law_1091 : decode cL_law 1091 = .ok (.aload_n 2, 1) := by decide +kernel
theorem dL_law_1092 : decode cL_law 1092 = .ok (.invokevirtual 158, 3) := by decide +kernel
theorem dL_law_1095 : decode cL_law 1095 = .ok (.if_icmp .eq 498, 3) := by decide +kernel
theorem dL_law_1098 : decode cL_law 1098 = .ok (.iconst 0, 1) := by decide +kernel
theorem dL_law_1099 : decode cL_law 1099 = .ok (.ireturn, 1) := by decide +kernel
theorem dL_law_1100 : decode cL_law 1100 = .ok (.aload_n 1, 1) := by decide +kernel
theorem dL_law_1101 : decode cL_law 1101 = .ok (.invokevirtual 159, 3) := by decide +kernel
theorem dL_law_1104 : decode cL_law 1104 = .ok (.aload_n 2, 1) := by decide +kernel
theorem dL_law_1105 : decode cL_law 1105 = .ok (.invokevirtual 162, 3) := by decide +kernel
theorem dL_law_1108 : decode cL_law 1108 = .ok (.if_icmp .eq 485, 3) := by decide +kernel
theorem dL_law_1111 : decode cL_law 1111 = .ok (.iconst 0, 1) := by decide +kernel
theorem dL_law_1112 : decode cL_law 1112 = .ok (.ireturn, 1) := by decide +kernel
theorem dL_law_1113 : decode cL_law 1113 = .ok (.aload_n 1, 1) := by decide +kernel
theorem dL_law_1114 : decode cL_law 1114 = .ok (.aload_n 0, 1) := by decide +kernel
theorem dL_law_1115 : decode cL_law 1115 = .ok (.iload 4, 2) := by decide +kernel
theorem dL_law_1117 : decode cL_law 1117 = .ok (.iconst 1, 1) := by decide +kernel
theorem dL_law_1118 : decode cL_law 1118 = .ok (.iadd, 1) := by decide +kernel
theorem dL_law_1119 : decode cL_law 1119 = .ok (.iaload, 1) := by decide +kernel
theorem dL_law_1120 : decode cL_law 1120 = .ok (.aload_n 3, 1) := by decide +kernel
theorem dL_law_1121 : decode cL_law 1121 = .ok (.invokestatic 163, 3) := by decide +kernel
theorem dL_law_1124 : decode cL_law 1124 = .ok (.istore 5, 2) := by decide +kernel
theorem dL_law_1126 : decode cL_law 1126 = .ok (.aload_n 2, 1) := by decide +kernel
theorem dL_law_1127 : decode cL_law 1127 = .ok (.aload_n 0, 1) := by decide +kernel
theorem dL_law_1128 : decode cL_law 1128 = .ok (.iload 4, 2) := by decide +kernel
theorem dL_law_1130 : decode cL_law 1130 = .ok (.iconst 1, 1) := by decide +kernel
theorem dL_law_1131 : decode cL_law 1131 = .ok (.iadd, 1) := by decide +kernel
theorem dL_law_1132 : decode cL_law 1132 = .ok (.iaload, 1) := by decide +kernel
theorem dL_law_1133 : decode cL_law 1133 = .ok (.invokevirtual 165, 3) := by decide +kernel
theorem dL_law_1136 : decode cL_law 1136 = .ok (.istore 6, 2) := by decide +kernel
theorem dL_law_1138 : decode cL_law 1138 = .ok (.aload_n 2, 1) := by decide +kernel
theorem dL_law_1139 : decode cL_law 1139 = .ok (.invokevirtual 96, 3) := by decide +kernel
theorem dL_law_1142 : decode cL_law 1142 = .ok (.iload 5, 2) := by decide +kernel
theorem dL_law_1144 : decode cL_law 1144 = .ok (.if_icmp .eq 5, 3) := by decide +kernel
theorem dL_law_1147 : decode cL_law 1147 = .ok (.iconst 0, 1) := by decide +kernel
theorem dL_law_1148 : decode cL_law 1148 = .ok (.ireturn, 1) := by decide +kernel
theorem dL_law_1149 : decode cL_law 1149 = .ok (.iload 5, 2) := by decide +kernel
theorem dL_law_1151 : decode cL_law 1151 = .ok (.ifCond .ne 15, 3) := by decide +kernel
theorem dL_law_1154 : decode cL_law 1154 = .ok (.aload_n 3, 1) := by decide +kernel
theorem dL_law_1155 : decode cL_law 1155 = .ok (.iconst 0, 1) := by decide +kernel
theorem dL_law_1156 : decode cL_law 1156 = .ok (.laload, 1) := by decide +kernel
theorem dL_law_1157 : decode cL_law 1157 = .ok (.iload 6, 2) := by decide +kernel
theorem dL_law_1159 : decode cL_law 1159 = .ok (.i2l, 1) := by decide +kernel
theorem dL_law_1160 : decode cL_law 1160 = .ok (.lcmp, 1) := by decide +kernel
theorem dL_law_1161 : decode cL_law 1161 = .ok (.ifCond .eq 5, 3) := by decide +kernel
theorem dL_law_1164 : decode cL_law 1164 = .ok (.iconst 0, 1) := by decide +kernel
theorem dL_law_1165 : decode cL_law 1165 = .ok (.ireturn, 1) := by decide +kernel
theorem dL_law_1166 : decode cL_law 1166 = .ok (.goto 427, 3) := by decide +kernel
theorem dL_law_1169 : decode cL_law 1169 = .ok (.aload_n 1, 1) := by decide +kernel
theorem dL_law_1170 : decode cL_law 1170 = .ok (.aload_n 0, 1) := by decide +kernel
theorem dL_law_1171 : decode cL_law 1171 = .ok (.iload 4, 2) := by decide +kernel
theorem dL_law_1173 : decode cL_law 1173 = .ok (.iconst 1, 1) := by decide +kernel
theorem dL_law_1174 : decode cL_law 1174 = .ok (.iadd, 1) := by decide +kernel
theorem dL_law_1175 : decode cL_law 1175 = .ok (.iaload, 1) := by decide +kernel
theorem dL_law_1176 : decode cL_law 1176 = .ok (.aload_n 3, 1) := by decide +kernel
theorem dL_law_1177 : decode cL_law 1177 = .ok (.invokestatic 166, 3) := by decide +kernel
theorem dL_law_1180 : decode cL_law 1180 = .ok (.istore 5, 2) := by decide +kernel
theorem dL_law_1182 : decode cL_law 1182 = .ok (.aload_n 2, 1) := by decide +kernel
theorem dL_law_1183 : decode cL_law 1183 = .ok (.aload_n 0, 1) := by decide +kernel
theorem dL_law_1184 : decode cL_law 1184 = .ok (.iload 4, 2) := by decide +kernel
theorem dL_law_1186 : decode cL_law 1186 = .ok (.iconst 1, 1) := by decide +kernel
theorem dL_law_1187 : decode cL_law 1187 = .ok (.iadd, 1) := by decide +kernel
theorem dL_law_1188 : decode cL_law 1188 = .ok (.iaload, 1) := by decide +kernel
theorem dL_law_1189 : decode cL_law 1189 = .ok (.invokevirtual 168, 3) := by decide +kernel
theorem dL_law_1192 : decode cL_law 1192 = .ok (.istore 6, 2) := by decide +kernel
theorem dL_law_1194 : decode cL_law 1194 = .ok (.aload_n 2, 1) := by decide +kernel
theorem dL_law_1195 : decode cL_law 1195 = .ok (.invokevirtual 96, 3) := by decide +kernel
theorem dL_law_1198 : decode cL_law 1198 = .ok (.iload 5, 2) := by decide +kernel
theorem dL_law_1200 : decode cL_law 1200 = .ok (.if_icmp .eq 5, 3) := by decide +kernel
theorem dL_law_1203 : decode cL_law 1203 = .ok (.iconst 0, 1) := by decide +kernel
theorem dL_law_1204 : decode cL_law 1204 = .ok (.ireturn, 1) := by decide +kernel
theorem dL_law_1205 : decode cL_law 1205 = .ok (.iload 5, 2) := by decide +kernel
theorem dL_law_1207 : decode cL_law 1207 = .ok (.ifCond .ne 15, 3) := by decide +kernel
theorem dL_law_1210 : decode cL_law 1210 = .ok (.aload_n 3, 1) := by decide +kernel
theorem dL_law_1211 : decode cL_law 1211 = .ok (.iconst 0, 1) := by decide +kernel
theorem dL_law_1212 : decode cL_law 1212 = .ok (.laload, 1) := by decide +kernel
theorem dL_law_1213 : decode cL_law 1213 = .ok (.iload 6, 2) := by decide +kernel
theorem dL_law_1215 : decode cL_law 1215 = .ok (.i2l, 1) := by decide +kernel
theorem dL_law_1216 : decode cL_law 1216 = .ok (.lcmp, 1) := by decide +kernel
theorem dL_law_1217 : decode cL_law 1217 = .ok (.ifCond .eq 5, 3) := by decide +kernel
theorem dL_law_1220 : decode cL_law 1220 = .ok (.iconst 0, 1) := by decide +kernel
theorem dL_law_1221 : decode cL_law 1221 = .ok (.ireturn, 1) := by decide +kernel
theorem dL_law_1222 : decode cL_law 1222 = .ok (.goto 371, 3) := by decide +kernel
theorem dL_law_1225 : decode cL_law 1225 = .ok (.aload_n 1, 1) := by decide +kernel
theorem dL_law_1226 : decode cL_law 1226 = .ok (.aload_n 0, 1) := by decide +kernel
theorem dL_law_1227 : decode cL_law 1227 = .ok (.iload 4, 2) := by decide +kernel
theorem dL_law_1229 : decode cL_law 1229 = .ok (.iconst 1, 1) := by decide +kernel
theorem dL_law_1230 : decode cL_law 1230 = .ok (.iadd, 1) := by decide +kernel
theorem dL_law_1231 : decode cL_law 1231 = .ok (.iaload, 1) := by decide +kernel
theorem dL_law_1232 : decode cL_law 1232 = .ok (.aload_n 3, 1) := by decide +kernel
theorem dL_law_1233 : decode cL_law 1233 = .ok (.invokestatic 169, 3) := by decide +kernel
theorem dL_law_1236 : decode cL_law 1236 = .ok (.istore 5, 2) := by decide +kernel
theorem dL_law_1238 : decode cL_law 1238 = .ok (.aload_n 2, 1) := by decide +kernel
theorem dL_law_1239 : decode cL_law 1239 = .ok (.aload_n 0, 1) := by decide +kernel
theorem dL_law_1240 : decode cL_law 1240 = .ok (.iload 4, 2) := by decide +kernel
theorem dL_law_1242 : decode cL_law 1242 = .ok (.iconst 1, 1) := by decide +kernel
theorem dL_law_1243 : decode cL_law 1243 = .ok (.iadd, 1) := by decide +kernel
theorem dL_law_1244 : decode cL_law 1244 = .ok (.iaload, 1) := by decide +kernel
theorem dL_law_1245 : decode cL_law 1245 = .ok (.invokevirtual 171, 3) := by decide +kernel
theorem dL_law_1248 : decode cL_law 1248 = .ok (.istore 6, 2) := by decide +kernel
theorem dL_law_1250 : decode cL_law 1250 = .ok (.aload_n 2, 1) := by decide +kernel
theorem dL_law_1251 : decode cL_law 1251 = .ok (.invokevirtual 96, 3) := by decide +kernel
theorem dL_law_1254 : decode cL_law 1254 = .ok (.iload 5, 2) := by decide +kernel
theorem dL_law_1256 : decode cL_law 1256 = .ok (.if_icmp .eq 5, 3) := by decide +kernel
theorem dL_law_1259 : decode cL_law 1259 = .ok (.iconst 0, 1) := by decide +kernel
theorem dL_law_1260 : decode cL_law 1260 = .ok (.ireturn, 1) := by decide +kernel
theorem dL_law_1261 : decode cL_law 1261 = .ok (.iload 5, 2) := by decide +kernel
theorem dL_law_1263 : decode cL_law 1263 = .ok (.ifCond .ne 15, 3) := by decide +kernel
theorem dL_law_1266 : decode cL_law 1266 = .ok (.aload_n 3, 1) := by decide +kernel
theorem dL_law_1267 : decode cL_law 1267 = .ok (.iconst 0, 1) := by decide +kernel
theorem dL_law_1268 : decode cL_law 1268 = .ok (.laload, 1) := by decide +kernel
theorem dL_law_1269 : decode cL_law 1269 = .ok (.iload 6, 2) := by decide +kernel
theorem dL_law_1271 : decode cL_law 1271 = .ok (.i2l, 1) := by decide +kernel
theorem dL_law_1272 : decode cL_law 1272 = .ok (.lcmp, 1) := by decide +kernel
theorem dL_law_1273 : decode cL_law 1273 = .ok (.ifCond .eq 5, 3) := by decide +kernel
theorem dL_law_1276 : decode cL_law 1276 = .ok (.iconst 0, 1) := by decide +kernel
theorem dL_law_1277 : decode cL_law 1277 = .ok (.ireturn, 1) := by decide +kernel
theorem dL_law_1278 : decode cL_law 1278 = .ok (.goto 315, 3) := by decide +kernel
theorem dL_law_1281 : decode cL_law 1281 = .ok (.aload_n 1, 1) := by decide +kernel
theorem dL_law_1282 : decode cL_law 1282 = .ok (.aload_n 0, 1) := by decide +kernel
theorem dL_law_1283 : decode cL_law 1283 = .ok (.iload 4, 2) := by decide +kernel
theorem dL_law_1285 : decode cL_law 1285 = .ok (.iconst 1, 1) := by decide +kernel
theorem dL_law_1286 : decode cL_law 1286 = .ok (.iadd, 1) := by decide +kernel
theorem dL_law_1287 : decode cL_law 1287 = .ok (.iaload, 1) := by decide +kernel
theorem dL_law_1288 : decode cL_law 1288 = .ok (.aload_n 0, 1) := by decide +kernel
theorem dL_law_1289 : decode cL_law 1289 = .ok (.iload 4, 2) := by decide +kernel
theorem dL_law_1291 : decode cL_law 1291 = .ok (.iconst 2, 1) := by decide +kernel
theorem dL_law_1292 : decode cL_law 1292 = .ok (.iadd, 1) := by decide +kernel
theorem dL_law_1293 : decode cL_law 1293 = .ok (.iaload, 1) := by decide +kernel
theorem dL_law_1294 : decode cL_law 1294 = .ok (.i2l, 1) := by decide +kernel
theorem dL_law_1295 : decode cL_law 1295 = .ok (.bipush 32, 2) := by decide +kernel
theorem dL_law_1297 : decode cL_law 1297 = .ok (.lshl, 1) := by decide +kernel
theorem dL_law_1298 : decode cL_law 1298 = .ok (.aload_n 0, 1) := by decide +kernel
theorem dL_law_1299 : decode cL_law 1299 = .ok (.iload 4, 2) := by decide +kernel
theorem dL_law_1301 : decode cL_law 1301 = .ok (.iconst 3, 1) := by decide +kernel
theorem dL_law_1302 : decode cL_law 1302 = .ok (.iadd, 1) := by decide +kernel
theorem dL_law_1303 : decode cL_law 1303 = .ok (.iaload, 1) := by decide +kernel
theorem dL_law_1304 : decode cL_law 1304 = .ok (.i2l, 1) := by decide +kernel
theorem dL_law_1305 : decode cL_law 1305 = .ok (.ldc2_w 172, 3) := by decide +kernel
theorem dL_law_1308 : decode cL_law 1308 = .ok (.land, 1) := by decide +kernel
theorem dL_law_1309 : decode cL_law 1309 = .ok (.lor, 1) := by decide +kernel
theorem dL_law_1310 : decode cL_law 1310 = .ok (.aload_n 3, 1) := by decide +kernel
theorem dL_law_1311 : decode cL_law 1311 = .ok (.invokestatic 174, 3) := by decide +kernel
theorem dL_law_1314 : decode cL_law 1314 = .ok (.istore 5, 2) := by decide +kernel
theorem dL_law_1316 : decode cL_law 1316 = .ok (.aload_n 2, 1) := by decide +kernel
theorem dL_law_1317 : decode cL_law 1317 = .ok (.aload_n 0, 1) := by decide +kernel
theorem dL_law_1318 : decode cL_law 1318 = .ok (.iload 4, 2) := by decide +kernel
theorem dL_law_1320 : decode cL_law 1320 = .ok (.iconst 1, 1) := by decide +kernel
theorem dL_law_1321 : decode cL_law 1321 = .ok (.iadd, 1) := by decide +kernel
theorem dL_law_1322 : decode cL_law 1322 = .ok (.iaload, 1) := by decide +kernel
theorem dL_law_1323 : decode cL_law 1323 = .ok (.aload_n 0, 1) := by decide +kernel
theorem dL_law_1324 : decode cL_law 1324 = .ok (.iload 4, 2) := by decide +kernel
theorem dL_law_1326 : decode cL_law 1326 = .ok (.iconst 2, 1) := by decide +kernel
theorem dL_law_1327 : decode cL_law 1327 = .ok (.iadd, 1) := by decide +kernel
theorem dL_law_1328 : decode cL_law 1328 = .ok (.iaload, 1) := by decide +kernel
theorem dL_law_1329 : decode cL_law 1329 = .ok (.i2l, 1) := by decide +kernel
theorem dL_law_1330 : decode cL_law 1330 = .ok (.bipush 32, 2) := by decide +kernel
theorem dL_law_1332 : decode cL_law 1332 = .ok (.lshl, 1) := by decide +kernel
theorem dL_law_1333 : decode cL_law 1333 = .ok (.aload_n 0, 1) := by decide +kernel
theorem dL_law_1334 : decode cL_law 1334 = .ok (.iload 4, 2) := by decide +kernel
theorem dL_law_1336 : decode cL_law 1336 = .ok (.iconst 3, 1) := by decide +kernel
theorem dL_law_1337 : decode cL_law 1337 = .ok (.iadd, 1) := by decide +kernel
theorem dL_law_1338 : decode cL_law 1338 = .ok (.iaload, 1) := by decide +kernel
theorem dL_law_1339 : decode cL_law 1339 = .ok (.i2l, 1) := by decide +kernel
theorem dL_law_1340 : decode cL_law 1340 = .ok (.ldc2_w 172, 3) := by decide +kernel
theorem dL_law_1343 : decode cL_law 1343 = .ok (.land, 1) := by decide +kernel
theorem dL_law_1344 : decode cL_law 1344 = .ok (.lor, 1) := by decide +kernel
theorem dL_law_1345 : decode cL_law 1345 = .ok (.invokevirtual 177, 3) := by decide +kernel
theorem dL_law_1348 : decode cL_law 1348 = .ok (.istore 6, 2) := by decide +kernel
theorem dL_law_1350 : decode cL_law 1350 = .ok (.aload_n 2, 1) := by decide +kernel
theorem dL_law_1351 : decode cL_law 1351 = .ok (.invokevirtual 96, 3) := by decide +kernel
theorem dL_law_1354 : decode cL_law 1354 = .ok (.iload 5, 2) := by decide +kernel
theorem dL_law_1356 : decode cL_law 1356 = .ok (.if_icmp .eq 5, 3) := by decide +kernel
theorem dL_law_1359 : decode cL_law 1359 = .ok (.iconst 0, 1) := by decide +kernel
theorem dL_law_1360 : decode cL_law 1360 = .ok (.ireturn, 1) := by decide +kernel
theorem dL_law_1361 : decode cL_law 1361 = .ok (.iload 5, 2) := by decide +kernel
theorem dL_law_1363 : decode cL_law 1363 = .ok (.ifCond .ne 15, 3) := by decide +kernel
theorem dL_law_1366 : decode cL_law 1366 = .ok (.aload_n 3, 1) := by decide +kernel
theorem dL_law_1367 : decode cL_law 1367 = .ok (.iconst 0, 1) := by decide +kernel
theorem dL_law_1368 : decode cL_law 1368 = .ok (.laload, 1) := by decide +kernel
theorem dL_law_1369 : decode cL_law 1369 = .ok (.iload 6, 2) := by decide +kernel
theorem dL_law_1371 : decode cL_law 1371 = .ok (.i2l, 1) := by decide +kernel
theorem dL_law_1372 : decode cL_law 1372 = .ok (.lcmp, 1) := by decide +kernel
theorem dL_law_1373 : decode cL_law 1373 = .ok (.ifCond .eq 5, 3) := by decide +kernel
theorem dL_law_1376 : decode cL_law 1376 = .ok (.iconst 0, 1) := by decide +kernel
theorem dL_law_1377 : decode cL_law 1377 = .ok (.ireturn, 1) := by decide +kernel
theorem dL_law_1378 : decode cL_law 1378 = .ok (.goto 215, 3) := by decide +kernel
theorem dL_law_1381 : decode cL_law 1381 = .ok (.aload_n 1, 1) := by decide +kernel
theorem dL_law_1382 : decode cL_law 1382 = .ok (.aload_n 0, 1) := by decide +kernel
theorem dL_law_1383 : decode cL_law 1383 = .ok (.iload 4, 2) := by decide +kernel
theorem dL_law_1385 : decode cL_law 1385 = .ok (.iconst 1, 1) := by decide +kernel
theorem dL_law_1386 : decode cL_law 1386 = .ok (.iadd, 1) := by decide +kernel
theorem dL_law_1387 : decode cL_law 1387 = .ok (.iaload, 1) := by decide +kernel
theorem dL_law_1388 : decode cL_law 1388 = .ok (.i2l, 1) := by decide +kernel
theorem dL_law_1389 : decode cL_law 1389 = .ok (.bipush 32, 2) := by decide +kernel
theorem dL_law_1391 : decode cL_law 1391 = .ok (.lshl, 1) := by decide +kernel
theorem dL_law_1392 : decode cL_law 1392 = .ok (.aload_n 0, 1) := by decide +kernel
theorem dL_law_1393 : decode cL_law 1393 = .ok (.iload 4, 2) := by decide +kernel
theorem dL_law_1395 : decode cL_law 1395 = .ok (.iconst 2, 1) := by decide +kernel
theorem dL_law_1396 : decode cL_law 1396 = .ok (.iadd, 1) := by decide +kernel
theorem dL_law_1397 : decode cL_law 1397 = .ok (.iaload, 1) := by decide +kernel
theorem dL_law_1398 : decode cL_law 1398 = .ok (.i2l, 1) := by decide +kernel
theorem dL_law_1399 : decode cL_law 1399 = .ok (.ldc2_w 172, 3) := by decide +kernel
theorem dL_law_1402 : decode cL_law 1402 = .ok (.land, 1) := by decide +kernel
theorem dL_law_1403 : decode cL_law 1403 = .ok (.lor, 1) := by decide +kernel
theorem dL_law_1404 : decode cL_law 1404 = .ok (.aload_n 0, 1) := by decide +kernel
theorem dL_law_1405 : decode cL_law 1405 = .ok (.iload 4, 2) := by decide +kernel
theorem dL_law_1407 : decode cL_law 1407 = .ok (.iconst 3, 1) := by decide +kernel
theorem dL_law_1408 : decode cL_law 1408 = .ok (.iadd, 1) := by decide +kernel
theorem dL_law_1409 : decode cL_law 1409 = .ok (.iaload, 1) := by decide +kernel
theorem dL_law_1410 : decode cL_law 1410 = .ok (.aload_n 3, 1) := by decide +kernel
theorem dL_law_1411 : decode cL_law 1411 = .ok (.invokestatic 178, 3) := by decide +kernel
theorem dL_law_1414 : decode cL_law 1414 = .ok (.istore 5, 2) := by decide +kernel
theorem dL_law_1416 : decode cL_law 1416 = .ok (.aload_n 2, 1) := by decide +kernel
theorem dL_law_1417 : decode cL_law 1417 = .ok (.aload_n 0, 1) := by decide +kernel
theorem dL_law_1418 : decode cL_law 1418 = .ok (.iload 4, 2) := by decide +kernel
theorem dL_law_1420 : decode cL_law 1420 = .ok (.iconst 1, 1) := by decide +kernel
theorem dL_law_1421 : decode cL_law 1421 = .ok (.iadd, 1) := by decide +kernel
theorem dL_law_1422 : decode cL_law 1422 = .ok (.iaload, 1) := by decide +kernel
theorem dL_law_1423 : decode cL_law 1423 = .ok (.i2l, 1) := by decide +kernel
theorem dL_law_1424 : decode cL_law 1424 = .ok (.bipush 32, 2) := by decide +kernel
theorem dL_law_1426 : decode cL_law 1426 = .ok (.lshl, 1) := by decide +kernel
theorem dL_law_1427 : decode cL_law 1427 = .ok (.aload_n 0, 1) := by decide +kernel
theorem dL_law_1428 : decode cL_law 1428 = .ok (.iload 4, 2) := by decide +kernel
theorem dL_law_1430 : decode cL_law 1430 = .ok (.iconst 2, 1) := by decide +kernel
theorem dL_law_1431 : decode cL_law 1431 = .ok (.iadd, 1) := by decide +kernel
theorem dL_law_1432 : decode cL_law 1432 = .ok (.iaload, 1) := by decide +kernel
theorem dL_law_1433 : decode cL_law 1433 = .ok (.i2l, 1) := by decide +kernel
theorem dL_law_1434 : decode cL_law 1434 = .ok (.ldc2_w 172, 3) := by decide +kernel
theorem dL_law_1437 : decode cL_law 1437 = .ok (.land, 1) := by decide +kernel
theorem dL_law_1438 : decode cL_law 1438 = .ok (.lor, 1) := by decide +kernel
theorem dL_law_1439 : decode cL_law 1439 = .ok (.aload_n 0, 1) := by decide +kernel
theorem dL_law_1440 : decode cL_law 1440 = .ok (.iload 4, 2) := by decide +kernel
theorem dL_law_1442 : decode cL_law 1442 = .ok (.iconst 3, 1) := by decide +kernel
theorem dL_law_1443 : decode cL_law 1443 = .ok (.iadd, 1) := by decide +kernel
theorem dL_law_1444 : decode cL_law 1444 = .ok (.iaload, 1) := by decide +kernel
theorem dL_law_1445 : decode cL_law 1445 = .ok (.invokevirtual 181, 3) := by decide +kernel
theorem dL_law_1448 : decode cL_law 1448 = .ok (.istore 6, 2) := by decide +kernel
theorem dL_law_1450 : decode cL_law 1450 = .ok (.aload_n 2, 1) := by decide +kernel
theorem dL_law_1451 : decode cL_law 1451 = .ok (.invokevirtual 96, 3) := by decide +kernel
theorem dL_law_1454 : decode cL_law 1454 = .ok (.iload 5, 2) := by decide +kernel
theorem dL_law_1456 : decode cL_law 1456 = .ok (.if_icmp .eq 5, 3) := by decide +kernel
theorem dL_law_1459 : decode cL_law 1459 = .ok (.iconst 0, 1) := by decide +kernel
theorem dL_law_1460 : decode cL_law 1460 = .ok (.ireturn, 1) := by decide +kernel
theorem dL_law_1461 : decode cL_law 1461 = .ok (.iload 5, 2) := by decide +kernel
theorem dL_law_1463 : decode cL_law 1463 = .ok (.ifCond .ne 15, 3) := by decide +kernel
theorem dL_law_1466 : decode cL_law 1466 = .ok (.aload_n 3, 1) := by decide +kernel
theorem dL_law_1467 : decode cL_law 1467 = .ok (.iconst 0, 1) := by decide +kernel
theorem dL_law_1468 : decode cL_law 1468 = .ok (.laload, 1) := by decide +kernel
theorem dL_law_1469 : decode cL_law 1469 = .ok (.iload 6, 2) := by decide +kernel
theorem dL_law_1471 : decode cL_law 1471 = .ok (.i2l, 1) := by decide +kernel
theorem dL_law_1472 : decode cL_law 1472 = .ok (.lcmp, 1) := by decide +kernel
theorem dL_law_1473 : decode cL_law 1473 = .ok (.ifCond .eq 5, 3) := by decide +kernel
theorem dL_law_1476 : decode cL_law 1476 = .ok (.iconst 0, 1) := by decide +kernel
theorem dL_law_1477 : decode cL_law 1477 = .ok (.ireturn, 1) := by decide +kernel
theorem dL_law_1478 : decode cL_law 1478 = .ok (.goto 115, 3) := by decide +kernel
theorem dL_law_1481 : decode cL_law 1481 = .ok (.aload_n 1, 1) := by decide +kernel
theorem dL_law_1482 : decode cL_law 1482 = .ok (.aload_n 0, 1) := by decide +kernel
theorem dL_law_1483 : decode cL_law 1483 = .ok (.iload 4, 2) := by decide +kernel
theorem dL_law_1485 : decode cL_law 1485 = .ok (.iconst 1, 1) := by decide +kernel
theorem dL_law_1486 : decode cL_law 1486 = .ok (.iadd, 1) := by decide +kernel
theorem dL_law_1487 : decode cL_law 1487 = .ok (.iaload, 1) := by decide +kernel
theorem dL_law_1488 : decode cL_law 1488 = .ok (.aload_n 3, 1) := by decide +kernel
theorem dL_law_1489 : decode cL_law 1489 = .ok (.invokestatic 182, 3) := by decide +kernel
theorem dL_law_1492 : decode cL_law 1492 = .ok (.istore 5, 2) := by decide +kernel
theorem dL_law_1494 : decode cL_law 1494 = .ok (.aload_n 2, 1) := by decide +kernel
theorem dL_law_1495 : decode cL_law 1495 = .ok (.aload_n 0, 1) := by decide +kernel
theorem dL_law_1496 : decode cL_law 1496 = .ok (.iload 4, 2) := by decide +kernel
theorem dL_law_1498 : decode cL_law 1498 = .ok (.iconst 1, 1) := by decide +kernel
theorem dL_law_1499 : decode cL_law 1499 = .ok (.iadd, 1) := by decide +kernel
theorem dL_law_1500 : decode cL_law 1500 = .ok (.iaload, 1) := by decide +kernel
theorem dL_law_1501 : decode cL_law 1501 = .ok (.invokevirtual 184, 3) := by decide +kernel
theorem dL_law_1504 : decode cL_law 1504 = .ok (.istore 6, 2) := by decide +kernel
theorem dL_law_1506 : decode cL_law 1506 = .ok (.aload_n 2, 1) := by decide +kernel
theorem dL_law_1507 : decode cL_law 1507 = .ok (.invokevirtual 96, 3) := by decide +kernel
theorem dL_law_1510 : decode cL_law 1510 = .ok (.iload 5, 2) := by decide +kernel
theorem dL_law_1512 : decode cL_law 1512 = .ok (.if_icmp .eq 5, 3) := by decide +kernel
theorem dL_law_1515 : decode cL_law 1515 = .ok (.iconst 0, 1) := by decide +kernel
theorem dL_law_1516 : decode cL_law 1516 = .ok (.ireturn, 1) := by decide +kernel
theorem dL_law_1517 : decode cL_law 1517 = .ok (.iload 5, 2) := by decide +kernel
theorem dL_law_1519 : decode cL_law 1519 = .ok (.ifCond .ne 15, 3) := by decide +kernel
theorem dL_law_1522 : decode cL_law 1522 = .ok (.aload_n 3, 1) := by decide +kernel
theorem dL_law_1523 : decode cL_law 1523 = .ok (.iconst 0, 1) := by decide +kernel
theorem dL_law_1524 : decode cL_law 1524 = .ok (.laload, 1) := by decide +kernel
theorem dL_law_1525 : decode cL_law 1525 = .ok (.iload 6, 2) := by decide +kernel
theorem dL_law_1527 : decode cL_law 1527 = .ok (.i2l, 1) := by decide +kernel
theorem dL_law_1528 : decode cL_law 1528 = .ok (.lcmp, 1) := by decide +kernel
theorem dL_law_1529 : decode cL_law 1529 = .ok (.ifCond .eq 5, 3) := by decide +kernel
theorem dL_law_1532 : decode cL_law 1532 = .ok (.iconst 0, 1) := by decide +kernel
theorem dL_law_1533 : decode cL_law 1533 = .ok (.ireturn, 1) := by decide +kernel
theorem dL_law_1534 : decode cL_law 1534 = .ok (.goto 59, 3) := by decide +kernel
theorem dL_law_1537 : decode cL_law 1537 = .ok (.aload_n 1, 1) := by decide +kernel
theorem dL_law_1538 : decode cL_law 1538 = .ok (.aload_n 0, 1) := by decide +kernel
theorem dL_law_1539 : decode cL_law 1539 = .ok (.iload 4, 2) := by decide +kernel
theorem dL_law_1541 : decode cL_law 1541 = .ok (.iconst 1, 1) := by decide +kernel
theorem dL_law_1542 : decode cL_law 1542 = .ok (.iadd, 1) := by decide +kernel
theorem dL_law_1543 : decode cL_law 1543 = .ok (.iaload, 1) := by decide +kernel
theorem dL_law_1544 : decode cL_law 1544 = .ok (.aload_n 3, 1) := by decide +kernel
theorem dL_law_1545 : decode cL_law 1545 = .ok (.invokestatic 185, 3) := by decide +kernel
theorem dL_law_1548 : decode cL_law 1548 = .ok (.istore 5, 2) := by decide +kernel
theorem dL_law_1550 : decode cL_law 1550 = .ok (.aload_n 2, 1) := by decide +kernel
theorem dL_law_1551 : decode cL_law 1551 = .ok (.aload_n 0, 1) := by decide +kernel
theorem dL_law_1552 : decode cL_law 1552 = .ok (.iload 4, 2) := by decide +kernel
theorem dL_law_1554 : decode cL_law 1554 = .ok (.iconst 1, 1) := by decide +kernel
theorem dL_law_1555 : decode cL_law 1555 = .ok (.iadd, 1) := by decide +kernel
theorem dL_law_1556 : decode cL_law 1556 = .ok (.iaload, 1) := by decide +kernel
theorem dL_law_1557 : decode cL_law 1557 = .ok (.invokevirtual 187, 3) := by decide +kernel
theorem dL_law_1560 : decode cL_law 1560 = .ok (.istore 6, 2) := by decide +kernel
theorem dL_law_1562 : decode cL_law 1562 = .ok (.aload_n 2, 1) := by decide +kernel
theorem dL_law_1563 : decode cL_law 1563 = .ok (.invokevirtual 96, 3) := by decide +kernel
theorem dL_law_1566 : decode cL_law 1566 = .ok (.iload 5, 2) := by decide +kernel
theorem dL_law_1568 : decode cL_law 1568 = .ok (.if_icmp .eq 5, 3) := by decide +kernel
theorem dL_law_1571 : decode cL_law 1571 = .ok (.iconst 0, 1) := by decide +kernel
theorem dL_law_1572 : decode cL_law 1572 = .ok (.ireturn, 1) := by decide +kernel
theorem dL_law_1573 : decode cL_law 1573 = .ok (.iload 5, 2) := by decide +kernel
theorem dL_law_1575 : decode cL_law 1575 = .ok (.ifCond .ne 15, 3) := by decide +kernel
theorem dL_law_1578 : decode cL_law 1578 = .ok (.aload_n 3, 1) := by decide +kernel
theorem dL_law_1579 : decode cL_law 1579 = .ok (.iconst 0, 1) := by decide +kernel
theorem dL_law_1580 : decode cL_law 1580 = .ok (.laload, 1) := by decide +kernel
theorem dL_law_1581 : decode cL_law 1581 = .ok (.iload 6, 2) := by decide +kernel
theorem dL_law_1583 : decode cL_law 1583 = .ok (.i2l, 1) := by decide +kernel
theorem dL_law_1584 : decode cL_law 1584 = .ok (.lcmp, 1) := by decide +kernel
theorem dL_law_1585 : decode cL_law 1585 = .ok (.ifCond .eq 5, 3) := by decide +kernel
theorem dL_law_1588 : decode cL_law 1588 = .ok (.iconst 0, 1) := by decide +kernel
theorem dL_law_1589 : decode cL_law 1589 = .ok (.ireturn, 1) := by decide +kernel
theorem dL_law_1590 : decode cL_law 1590 = .ok (.goto 3, 3) := by decide +kernel
theorem dL_law_1593 : decode cL_law 1593 = .ok (.iinc 4 4, 3) := by decide +kernel
theorem dL_law_1596 : decode cL_law 1596 = .ok (.goto (-1573), 3) := by decide +kernel
theorem dL_law_1599 : decode cL_law 1599 = .ok (.iconst 1, 1) := by decide +kernel
theorem dL_law_1600 : decode cL_law 1600 = .ok (.ireturn, 1) := by decide +kernel
end
section
/-! numbers: an int of the machine is qI of an integer, a long is qL of one -/
def qI (x : Int) : Int32 := Int32.ofInt x
def qL (x : Int) : Int64 := Int64.ofInt x
abbrev qR (x : Int) : Prop := -2147483648 ≤ x ∧ x < 2147483648
abbrev qRl (x : Int) : Prop := -9223372036854775808 ≤ x ∧ x < 9223372036854775808
theorem qI_toInt {x : Int} (h : qR x) : (qI x).toInt = x := Int32.toInt_ofInt_of_le (by omega) (by omega)
theorem qL_toInt {x : Int} (h : qRl x) : (qL x).toInt = x := Int64.toInt_ofInt_of_le (by omega) (by omega)
theorem qI_lt {x y : Int} (hx : qR x) (hy : qR y) : qI x < qI y ↔ x < y := by rw [Int32.lt_iff_toInt_lt, qI_toInt hx, qI_toInt hy]
theorem qI_le {x y : Int} (hx : qR x) (hy : qR y) : qI x ≤ qI y ↔ x ≤ y := by rw [Int32.le_iff_toInt_le, qI_toInt hx, qI_toInt hy]
theorem qI_eq {x y : Int} (hx : qR x) (hy : qR y) : qI x = qI y ↔ x = y := by rw [← Int32.toInt_inj, qI_toInt hx, qI_toInt hy]
theorem qL_lt {x y : Int} (hx : qRl x) (hy : qRl y) : qL x < qL y ↔ x < y := by rw [Int64.lt_iff_toInt_lt, qL_toInt hx, qL_toInt hy]
theorem qL_le {x y : Int} (hx : qRl x) (hy : qRl y) : qL x ≤ qL y ↔ x ≤ y := by rw [Int64.le_iff_toInt_le, qL_toInt hx, qL_toInt hy]
theorem qL_eq {x y : Int} (hx : qRl x) (hy : qRl y) : qL x = qL y ↔ x = y := by rw [← Int64.toInt_inj, qL_toInt hx, qL_toInt hy]
theorem qI_0 : qI 0 = 0 := rfl
theorem qR_0 : qR 0 := by decide
theorem qI_lt0 {x : Int} (hx : qR x) : qI x < 0 ↔ x < 0 := qI_lt hx qR_0
theorem qI_le0 {x : Int} (hx : qR x) : qI x ≤ 0 ↔ x ≤ 0 := qI_le hx qR_0
theorem qI_ge0 {x : Int} (hx : qR x) : 0 ≤ qI x ↔ 0 ≤ x := qI_le qR_0 hx
theorem qI_gt0 {x : Int} (hx : qR x) : 0 < qI x ↔ 0 < x := qI_lt qR_0 hx
theorem qI_eq0 {x : Int} (hx : qR x) : qI x = 0 ↔ x = 0 := qI_eq hx qR_0
theorem qI_nat {x : Int} (h0 : 0 ≤ x) (h : x < 2147483648) : (qI x).toNatClampNeg = x.toNat := Int32.toNatClampNeg_ofInt_of_le (by omega) (by omega)
theorem qI_in {x : Int} {n : Nat} (h : 0 ≤ x ∧ x < (n : Int)) (hn : n ≤ 2147483647) : vp_in (qI x) n := by
  rw [vp_in_iff, qI_toInt (by omega)]
  exact h
theorem qI_add (x y : Int) : qI x + qI y = qI (x + y) := (Int32.ofInt_add x y).symm
theorem qI_sub (x y : Int) : qI x - qI y = qI (x - y) := (Int32.ofInt_sub x y).symm
theorem qI_mul (x y : Int) : qI x * qI y = qI (x * y) := (Int32.ofInt_mul x y).symm
theorem qI_neg (x : Int) : 0 - qI x = qI (0 - x) := qI_sub 0 x
theorem qL_add (x y : Int) : qL x + qL y = qL (x + y) := (Int64.ofInt_add x y).symm
theorem qL_sub (x y : Int) : qL x - qL y = qL (x - y) := (Int64.ofInt_sub x y).symm
theorem qL_mul (x y : Int) : qL x * qL y = qL (x * y) := (Int64.ofInt_mul x y).symm
theorem qI_div {x y : Int} (h : 0 ≤ x ∧ x < 2147483648 ∧ 0 < y ∧ y < 2147483648) : qI x / qI y = qI (x / y) := by
  have h1 := Int32.ofInt_tdiv (a := x) (b := y) (by rw [show Int32.minValue.toInt = -2147483648 from rfl]; omega) (by rw [show Int32.maxValue.toInt = 2147483647 from rfl]; omega) (by rw [show Int32.minValue.toInt = -2147483648 from rfl]; omega) (by rw [show Int32.maxValue.toInt = 2147483647 from rfl]; omega)
  rw [Int.tdiv_eq_ediv_of_nonneg h.1] at h1
  exact h1.symm
theorem qI_rem {x y : Int} (h : 0 ≤ x ∧ x < 2147483648 ∧ 0 < y ∧ y < 2147483648) : qI x - qI x / qI y * qI y = qI (x % y) := by
  rw [qI_div h, qI_mul, qI_sub]
  congr 1
  have := Int.mul_ediv_add_emod x y
  rw [Int.mul_comm] at this
  omega
theorem qL_div {x y : Int} (h : 0 ≤ x ∧ x < 9223372036854775808 ∧ 0 < y ∧ y < 9223372036854775808) : qL x / qL y = qL (x / y) := by
  have h1 := Int64.ofInt_tdiv (a := x) (b := y) (by rw [show Int64.minValue.toInt = -9223372036854775808 from rfl]; omega) (by rw [show Int64.maxValue.toInt = 9223372036854775807 from rfl]; omega) (by rw [show Int64.minValue.toInt = -9223372036854775808 from rfl]; omega) (by rw [show Int64.maxValue.toInt = 9223372036854775807 from rfl]; omega)
  rw [Int.tdiv_eq_ediv_of_nonneg h.1] at h1
  exact h1.symm
theorem qL_rem {x y : Int} (h : 0 ≤ x ∧ x < 9223372036854775808 ∧ 0 < y ∧ y < 9223372036854775808) : qL x - qL x / qL y * qL y = qL (x % y) := by
  rw [qL_div h, qL_mul, qL_sub]
  congr 1
  have := Int.mul_ediv_add_emod x y
  rw [Int.mul_comm] at this
  omega
theorem qI_ne0 {y : Int} (h : 0 < y ∧ y < 2147483648) : ¬ qI y = 0 := fun e => by rw [qI_eq0 (by omega)] at e; omega
theorem qL_ne0 {y : Int} (h : 0 < y ∧ y < 9223372036854775808) : ¬ qL y = 0 := fun e => by
  have e2 : qL y = qL 0 := e
  rw [qL_eq (by omega) (by decide)] at e2
  omega
theorem qI_toL {x : Int} (h : qR x) : (qI x).toInt64 = qL x := Int32.toInt64_ofInt (by rw [show Int32.minValue.toInt = -2147483648 from rfl]; omega) (by rw [show Int32.maxValue.toInt = 2147483647 from rfl]; omega)
theorem qL_toI (x : Int) : (qL x).toInt32 = qI x := Int64.toInt32_ofInt
theorem qI_of (z : Int32) : z = qI z.toInt := (Int32.ofInt_toInt z).symm
theorem qL_of (z : Int64) : z = qL z.toInt := (Int64.ofInt_toInt z).symm
def qcmp (x y : Int) : Int := if y < x then 1 else if x = y then 0 else -1
theorem qL_cmp {x y : Int} (hx : qRl x) (hy : qRl y) : lg_cmp (qL x) (qL y) = qI (qcmp x y) := by
  unfold lg_cmp qcmp
  by_cases h1 : y < x
  · rw [if_pos ((qL_lt hy hx).mpr h1), if_pos h1]; rfl
  · rw [if_neg (fun h => h1 ((qL_lt hy hx).mp h)), if_neg h1]
    by_cases h2 : x = y
    · rw [if_pos h2, if_pos (by rw [h2])]; rfl
    · rw [if_neg h2, if_neg (fun h => h2 ((qL_eq hx hy).mp h))]; rfl
theorem qcmp_R (x y : Int) : qR (qcmp x y) := by unfold qcmp; split <;> (try split) <;> decide
theorem qcmp_lt {x y : Int} : qcmp x y < 0 ↔ x < y := by unfold qcmp; split <;> (try split) <;> omega
theorem qcmp_le {x y : Int} : qcmp x y ≤ 0 ↔ x ≤ y := by unfold qcmp; split <;> (try split) <;> omega
theorem qcmp_gt {x y : Int} : 0 < qcmp x y ↔ y < x := by unfold qcmp; split <;> (try split) <;> omega
theorem qcmp_ge {x y : Int} : 0 ≤ qcmp x y ↔ y ≤ x := by unfold qcmp; split <;> (try split) <;> omega
theorem qcmp_eq {x y : Int} : qcmp x y = 0 ↔ x = y := by unfold qcmp; split <;> (try split) <;> omega
/-! what a model is made of: guards, names, calls, branches -/
def qg {α : Type} (c : Prop) [Decidable c] (k : Option α) : Option α := if c then k else none
def ql {α β : Type} (e : β) (k : β → Option α) : Option α := k e
def qb {α β : Type} (m : Option β) (k : β → Option α) : Option α := m.bind k
theorem qg_i {α : Type} {c : Prop} [Decidable c] {k : Option α} {r : α} (h : qg c k = some r) : c ∧ k = some r := by
  unfold qg at h
  by_cases hc : c
  · rw [if_pos hc] at h; exact ⟨hc, h⟩
  · rw [if_neg hc] at h; cases h
theorem qg_t {α : Type} {c : Prop} [Decidable c] {k : Option α} (h : c) : qg c k = k := if_pos h
theorem ql_i {α β : Type} {e : β} {k : β → Option α} {r : α} (h : ql e k = some r) : ∃ x, x = e ∧ k x = some r := ⟨e, rfl, h⟩
theorem qb_i {α β : Type} {m : Option β} {k : β → Option α} {r : α} (h : qb m k = some r) : ∃ x, m = some x ∧ k x = some r := Option.bind_eq_some_iff.mp h
theorem qb_s {α β : Type} {m : Option β} {x : β} {k : β → Option α} (h : m = some x) : qb m k = k x := by rw [h]; rfl
theorem qt_i {α : Type} {c : Prop} [Decidable c] {a b : Option α} {r : α} (h : (if c then a else b) = some r) (hc : c) : a = some r := by rw [if_pos hc] at h; exact h
theorem qf_i {α : Type} {c : Prop} [Decidable c] {a b : Option α} {r : α} (h : (if c then a else b) = some r) (hc : ¬ c) : b = some r := by rw [if_neg hc] at h; exact h
abbrev qO : Type := String ⊕ Int
/-! the state: by position and index -/
abbrev qS : Type := Nat → Nat → Int
def qup (S : qS) (p : Nat) (d : Nat → Int) : qS := fun q => if q = p then d else S q
def q2 (S : qS) (p j : Nat) (v : Int) : qS := fun q i => if q = p ∧ i = j then v else S q i
theorem q2_up (S : qS) (p j : Nat) (v : Int) : q2 S p j v = qup S p (fun i => if i = j then v else S p i) := by
  funext q i
  unfold q2 qup
  by_cases h : q = p
  · subst h
    by_cases h2 : i = j
    · rw [if_pos ⟨rfl, h2⟩, if_pos rfl, if_pos h2]
    · rw [if_neg (fun z => h2 z.2), if_pos rfl, if_neg h2]
  · rw [if_neg (fun z => h z.1), if_neg h]
abbrev qG : Type := va_G × (ClassId × ClassId × ClassId × ClassId) × (Nat → Nat) × Nat × (Nat → Nat) × (Nat → Nat)
def qD (g : qG) : va_G := g.1
def qcI (g : qG) : ClassId := g.2.1.1
def qcZ (g : qG) : ClassId := g.2.1.2.1
def qcL (g : qG) : ClassId := g.2.1.2.2.1
def qcQ (g : qG) : ClassId := g.2.1.2.2.2
def qad (g : qG) : Nat → Nat := g.2.2.1
def qB (g : qG) : Nat := g.2.2.2.1
def qt (g : qG) : Nat → Nat := g.2.2.2.2.1
def qsa (g : qG) : Nat → Nat := g.2.2.2.2.2
def qcls : List vw_C := [(RX0, TX0, 13), (RX1, TX1, 5), (RX2, TX2, 9), (RX3, TX3, 9), (RX4, TX4, 26)]
def qtys (g : qG) : List (ClassId × FieldType) := [(qcI g, .int), (qcZ g, .boolean), (qcL g, .long), (qcQ g, .object "AxleScale$Recording")]
def qA (g : qG) : Nat → Prop := fun q => qB g ≤ q
def qia (d : Nat → Int) : Nat → Int32 := fun j => qI (d j)
def qla (d : Nat → Int) : Nat → Int64 := fun j => qL (d j)
def qAr (g : qG) (n : Nat) (d : Nat → Int) : va_E := .inl (qcI g, n, .inl (qia d))
def qst (g : qG) : Nat → Option Nat := fun k => some (qad g (30 + 5 * k))
def qsl (g : qG) : Nat → Option Nat := fun k => some (qad g (100 + 5 * k))

def qkl : List Nat := [0, 1, 130, 40, 40, 13, 13, 2, 40, 40, 40, 14, 2, 40, 40, 40, 14, 3, 41, 41, 40, 40, 40, 25, 41, 41, 41, 5, 6, 7, 2, 40, 40, 40, 14, 2, 40, 40, 40, 14, 2, 40, 40, 40, 14, 2, 40, 40, 40, 14, 2, 40, 40, 40, 14, 2, 40, 40, 40, 14, 2, 40, 40, 40, 14, 2, 40, 40, 40, 14, 2, 40, 40, 40, 14, 2, 40, 40, 40, 14, 2, 40, 40, 40, 14, 2, 40, 40, 40, 14, 2, 40, 40, 40, 14, 2, 40, 40, 40, 14, 2, 40, 40, 40, 14, 2, 40, 40, 40, 14, 4, 130, 40, 40, 14, 14, 14, 105, 105, 1340, 200, 7, 1034, 41, 41, 40, 25, 8]
def qk (p : Nat) : Nat := qkl.getD p 9
def qcell (g : qG) (p : Nat) (d : Nat → Int) : va_E := match qk p with
  | 0 => .inr (3, [.ref (qad g 1), .ref (qad g 7), .ref (qad g 12), .ref (qad g 17), .ref (qad g 27), .ref (qad g 28), .ref (qad g 29), .int (qI (d 7)), .int (qI (d 8))])
  | 1 => .inr (2, [.ref (qad g 2), .int (qI (d 1)), .ref (qad g 3), .ref (qad g 4), .int (qI (d 4)), .int (qI (d 5)), .ref (qad g 5), .ref (qad g 6), .int (qI (d 8))])
  | 2 => .inr (1, [.ref (qad g (p + 1)), .ref (qad g (p + 2)), .ref (qad g (p + 3)), .ref (qad g (p + 4)), .int (qI (d 4))])
  | 3 => .inr (0, [.ref (qad g 18), .ref (qad g 19), .ref (qad g 20), .ref (qad g 21), .ref (qad g 22), .ref (qad g 23), .ref (qad g 24), .ref (qad g 25), .ref (qad g 26), .int (qI (d 9)), .int (qI (d 10)), .int (qI (d 11)), .int (qI (d 12))])
  | 4 => .inr (4, [.int (qI (d 0)), .ref (qad g 111), .int (qI (d 2)), .int (qI (d 3)), .int (qI (d 4)), .ref (qad g 112), .ref (qad g 113), .int (qI (d 7)), .ref (qad g 114), .ref (qad g 115), .ref (qad g 116), .int (qI (d 11)), .ref (qad g 117), .ref (qad g 118), .ref (qad g 119), .int (qI (d 15)), .ref (qad g 120), .ref (qad g 121), .ref (qad g 122), .ref (qad g 123), .ref (qad g 124), .ref (qad g 125), .int (qI (d 22)), .ref (qad g 126), .int (qI (d 24)), .int (qI (d 25))])
  | 5 => .inl (qcQ g, 14, .inr (.inr (.inr (.inr (qst g)))))
  | 6 => .inl (qcQ g, 2, .inr (.inr (.inr (.inr (qsl g)))))
  | 7 => .inl (qcZ g, 2, .inl (qia d))
  | 8 => .inl (qcL g, 1, .inr (.inl (qla d)))
  | n + 10 => qAr g n d
  | _ => qAr g 0 d
theorem qc0 {g : qG} {p : Nat} {d : Nat → Int} (h : qk p = 0) : qcell g p d = .inr (3, [.ref (qad g 1), .ref (qad g 7), .ref (qad g 12), .ref (qad g 17), .ref (qad g 27), .ref (qad g 28), .ref (qad g 29), .int (qI (d 7)), .int (qI (d 8))]) := by unfold qcell; rw [h]
theorem qc1 {g : qG} {p : Nat} {d : Nat → Int} (h : qk p = 1) : qcell g p d = .inr (2, [.ref (qad g 2), .int (qI (d 1)), .ref (qad g 3), .ref (qad g 4), .int (qI (d 4)), .int (qI (d 5)), .ref (qad g 5), .ref (qad g 6), .int (qI (d 8))]) := by unfold qcell; rw [h]
theorem qc2 {g : qG} {p : Nat} {d : Nat → Int} (h : qk p = 2) : qcell g p d = .inr (1, [.ref (qad g (p + 1)), .ref (qad g (p + 2)), .ref (qad g (p + 3)), .ref (qad g (p + 4)), .int (qI (d 4))]) := by unfold qcell; rw [h]
theorem qc3 {g : qG} {p : Nat} {d : Nat → Int} (h : qk p = 3) : qcell g p d = .inr (0, [.ref (qad g 18), .ref (qad g 19), .ref (qad g 20), .ref (qad g 21), .ref (qad g 22), .ref (qad g 23), .ref (qad g 24), .ref (qad g 25), .ref (qad g 26), .int (qI (d 9)), .int (qI (d 10)), .int (qI (d 11)), .int (qI (d 12))]) := by unfold qcell; rw [h]
theorem qc4 {g : qG} {p : Nat} {d : Nat → Int} (h : qk p = 4) : qcell g p d = .inr (4, [.int (qI (d 0)), .ref (qad g 111), .int (qI (d 2)), .int (qI (d 3)), .int (qI (d 4)), .ref (qad g 112), .ref (qad g 113), .int (qI (d 7)), .ref (qad g 114), .ref (qad g 115), .ref (qad g 116), .int (qI (d 11)), .ref (qad g 117), .ref (qad g 118), .ref (qad g 119), .int (qI (d 15)), .ref (qad g 120), .ref (qad g 121), .ref (qad g 122), .ref (qad g 123), .ref (qad g 124), .ref (qad g 125), .int (qI (d 22)), .ref (qad g 126), .int (qI (d 24)), .int (qI (d 25))]) := by unfold qcell; rw [h]
theorem qc5 {g : qG} {p : Nat} {d : Nat → Int} (h : qk p = 5) : qcell g p d = .inl (qcQ g, 14, .inr (.inr (.inr (.inr (qst g))))) := by unfold qcell; rw [h]
theorem qc6 {g : qG} {p : Nat} {d : Nat → Int} (h : qk p = 6) : qcell g p d = .inl (qcQ g, 2, .inr (.inr (.inr (.inr (qsl g))))) := by unfold qcell; rw [h]
theorem qc7 {g : qG} {p : Nat} {d : Nat → Int} (h : qk p = 7) : qcell g p d = .inl (qcZ g, 2, .inl (qia d)) := by unfold qcell; rw [h]
theorem qc8 {g : qG} {p : Nat} {d : Nat → Int} (h : qk p = 8) : qcell g p d = .inl (qcL g, 1, .inr (.inl (qla d))) := by unfold qcell; rw [h]
theorem qcA {g : qG} {p n : Nat} {d : Nat → Int} (h : qk p = n + 10) : qcell g p d = qAr g n d := by unfold qcell; rw [h]
theorem qgetD_ge {l : List Nat} {i d : Nat} (h : l.length ≤ i) : l.getD i d = d := by rw [List.getD_eq_getElem?_getD, List.getElem?_eq_none h]; rfl
theorem qkl_len : qkl.length ≤ 128 := by decide +kernel
theorem qk_lt {p : Nat} (h : qk p ≠ 9) : p < 128 := by
  rcases Nat.lt_or_ge p 128 with h1 | h1
  · exact h1
  · exact absurd (qgetD_ge (l := qkl) (d := 9) (Nat.le_trans qkl_len h1)) h
def qrec : Nat → Prop := fun p => qk p = 2
theorem qk_rec0 : ∀ p, p < 128 → qk p = 2 → qk (p + 1) = 30 + 10 ∧ qk (p + 2) = 30 + 10 ∧ qk (p + 3) = 30 + 10 ∧ qk (p + 4) = 4 + 10 := by decide +kernel
theorem qk_rec {p : Nat} (h : qk p = 2) : qk (p + 1) = 30 + 10 ∧ qk (p + 2) = 30 + 10 ∧ qk (p + 3) = 30 + 10 ∧ qk (p + 4) = 4 + 10 := qk_rec0 p (qk_lt (by rw [h]; decide)) h
theorem qk_st {k : Nat} (h : k < 14) : qk (30 + 5 * k) = 2 := (by decide +kernel : ∀ k, k < 14 → qk (30 + 5 * k) = 2) k h
theorem qk_sl {k : Nat} (h : k < 2) : qk (100 + 5 * k) = 2 := (by decide +kernel : ∀ k, k < 2 → qk (100 + 5 * k) = 2) k h
/-! the world: the cells in their order -/
def qW (g : qG) (S : qS) : va_W := (List.range 128).map (fun p => (qad g p, qcell g p (S p)))
def qAd (g : qG) : Prop := (∀ i j : Nat, i < 128 → j < 128 → qad g i = qad g j → i = j) ∧ ∀ i : Nat, i < 128 → qA g (qad g i)
theorem qW_get {g : qG} {S : qS} {p : Nat} (h : p < 128) : (qW g S)[p]? = some (qad g p, qcell g p (S p)) := by
  unfold qW
  rw [List.getElem?_map, List.getElem?_range h]
  rfl
theorem qW_ok {g : qG} {S : qS} {p : Nat} {q : Nat × va_E} (h : (qW g S)[p]? = some q) : p < 128 ∧ q = (qad g p, qcell g p (S p)) := by
  have hl : p < 128 := by
    have := (List.getElem?_eq_some_iff.mp h).1
    simpa [qW] using this
  rw [qW_get hl] at h
  exact ⟨hl, (Option.some.inj h).symm⟩
theorem qW_set {g : qG} {S : qS} {p : Nat} {d : Nat → Int} (h : p < 128) : (qW g S).set p (qad g p, qcell g p d) = qW g (qup S p d) := by
  apply List.ext_getElem?
  intro j
  by_cases hj : j < 128
  · rw [qW_get hj]
    by_cases hp : j = p
    · subst hp
      rw [List.getElem?_set_self (by simpa [qW] using h)]
      unfold qup
      rw [if_pos rfl]
    · rw [List.getElem?_set_ne (Ne.symm hp), qW_get hj]
      unfold qup
      rw [if_neg hp]
  · have e1 : ((qW g S).set p (qad g p, qcell g p d))[j]? = none := by simp [qW]; omega
    have e2 : (qW g (qup S p d))[j]? = none := by simp [qW]; omega
    rw [e1, e2]
theorem qW_D {g : qG} {S : qS} (h : qAd g) : va_D (qA g) (qW g S) := by
  refine ⟨fun i j x y hi hj hxy => ?_, fun k q hk => ?_⟩
  · obtain ⟨h1, rfl⟩ := qW_ok hi
    obtain ⟨h2, rfl⟩ := qW_ok hj
    exact h.1 i j h1 h2 hxy
  · obtain ⟨h1, rfl⟩ := qW_ok hk
    exact h.2 k h1
end
section
/-! what every method finds around its world: the tables, the static arrays, what a throw needs -/
def qAW : List Cond := lw_tbl.filter goodWord
def qNw : Cond → Bool
  | .castable _ _ => true
  | .declares _ => true
  | .fieldLinkNest _ _ _ _ _ _ => true
  | .methodLinkNest _ _ _ _ => true
  | _ => false
def qNW : List Cond := lw_tbl.filter qNw
theorem qNw_ot {w : Cond} (h : qNw w = true) : w.onTables = true := by
  cases w <;> first | rfl | (simp [qNw] at h; done)
theorem qNw_warm {w : Cond} (hw : qNw w = true) {s U : State} (hW : s.WarmedH U.vm) (h : va_Nw w s) : va_Nw w U := by
  cases w <;> first | (simp [qNw] at hw; done) | exact va_Nw.warmC hW h | exact va_Nw.warmD hW h | exact va_Nw.warmF hW h | exact va_Nw.warmM hW h
def qF0 : Nat → Value := fun j => .int (([4, 6, 15, 40] : List Int32).getD j 0)
def qF1 : Nat → Value := fun j => .int (([1, 1, 0, 2] : List Int32).getD j 0)
def qF2 : Nat → Value := fun j => .int (([20, 40, 60, 60] : List Int32).getD j 0)
def qStr : List (Nat × String) := [(46, "no character code"), (57, "the text is full"), (73, "no such number"), (288, "no such axle"), (102, "no such number of an axle"), (123, "no such car"), (126, "no such number of a car"), (290, "no such train"), (145, "no such number of a train"), (174, "no such setting"), (185, "no such pause or weight"), (187, "there are 30 axles"), (196, "no record, or too many axles"), (203, "no such weight"), (208, "no such train or bill"), (216, "no such setting or value"), (221, "there is no train"), (230, "nothing is remembered"), (256, "a weight is not negative"), (258, "no such number of commands"), (264, "no script of so many commands"), (271, "no such number of axles"), (292, "no such save slot"), (283, "nothing has been saved there")]
def qAmb (g : qG) (U : State) : Prop :=
  va_K (qD g) qcls (qtys g) U ∧ qB g ≤ U.heap.size ∧ (∀ w ∈ qNW, va_Nw w U) ∧
  (va_Z "AxleScale" "FIRST_SETTINGS" "[I" (.ref (qt g 0)) (qA g) U U.heap ∧ va_Z "AxleScale" "LEAST_SETTINGS" "[I" (.ref (qt g 1)) (qA g) U U.heap ∧ va_Z "AxleScale" "MOST_SETTINGS" "[I" (.ref (qt g 2)) (qA g) U U.heap) ∧
  (va_T .int (qt g 0) 4 qF0 (qA g) U U.heap ∧ va_T .int (qt g 1) 4 qF1 (qA g) U U.heap ∧ va_T .int (qt g 2) 4 qF2 (qA g) U U.heap) ∧
  (vx_Zq Bundle.tN "UNASSIGNED_STACK" Bundle.steD (qA g) U U.heap ∧ vx_Zq Bundle.tN "SUPPRESSED_SENTINEL" Bundle.listD (qA g) U U.heap) ∧
  (∀ q ∈ qStr, vk_R RX3 q.1 q.2 (qsa g q.1) U) ∧
  (va_Nc "java/lang/IllegalStateException" "java/lang/IllegalArgumentException" U ∧ va_Nc "java/lang/IllegalArgumentException" "java/lang/IndexOutOfBoundsException" U ∧ va_Nc "java/lang/IllegalStateException" "java/lang/IndexOutOfBoundsException" U)
theorem qAmb_warm {g : qG} {s U : State} {H : Heap} {locs : List Loc} (hU : U.heap = H) (hW : s.WarmedH U.vm) (hS : va_S (qA g) s.heap H locs) (h : qAmb g s) : qAmb g U := by
  obtain ⟨h1, h2, h3, ⟨z0, z1, z2⟩, ⟨t0, t1, t2⟩, ⟨u0, u1⟩, h4, n0, n1, n2⟩ := h
  subst hU
  have hv := hW.alike
  exact ⟨va_K.moved hv h1, Nat.le_trans h2 hS.1, fun w hw => qNw_warm (List.mem_filter.mp hw).2 hW (h3 w hw),
    ⟨va_Z.moved hv (z0.kept hS.2.1), va_Z.moved hv (z1.kept hS.2.1), va_Z.moved hv (z2.kept hS.2.1)⟩,
    ⟨va_T.moved hv (t0.kept hS.2.1), va_T.moved hv (t1.kept hS.2.1), va_T.moved hv (t2.kept hS.2.1)⟩,
    ⟨vx_Zq.moved hv (u0.kept hS.2.1), vx_Zq.moved hv (u1.kept hS.2.1)⟩,
    fun q hq => vk_R.warm hW (h4 q hq), va_Nc.moved hv n0, va_Nc.moved hv n1, va_Nc.moved hv n2⟩
theorem qAmb_same {g : qG} {u U : State} (hv : U.vm = u.vm) (hh : U.heap = u.heap) (h : qAmb g u) : qAmb g U := by
  obtain ⟨h1, h2, h3, ⟨z0, z1, z2⟩, ⟨t0, t1, t2⟩, ⟨u0, u1⟩, h4, n0, n1, n2⟩ := h
  have hva : u.vm.Alike U.vm := by rw [hv]; exact Vm.Alike.refl _
  unfold qAmb
  rw [hh]
  exact ⟨va_K.moved hva h1, h2, fun w hw => va_Nw.same (qNw_ot (List.mem_filter.mp hw).2) hv.symm (h3 w hw),
    ⟨va_Z.moved hva z0, va_Z.moved hva z1, va_Z.moved hva z2⟩, ⟨va_T.moved hva t0, va_T.moved hva t1, va_T.moved hva t2⟩,
    ⟨vx_Zq.moved hva u0, vx_Zq.moved hva u1⟩, fun q hq => vk_R.same hv (h4 q hq), va_Nc.moved hva n0, va_Nc.moved hva n1, va_Nc.moved hva n2⟩
/-! a method's contract: from the state S and these arguments, the outcome o and the state S' -/
def qkI : Int → Option Value := fun r => some (.int (qI r))
def qkL : Int → Option Value := fun r => some (.long (qL r))
def qkV : Int → Option Value := fun _ => none
def qPc (g : qG) (av : List Value) (S : qS) : Array Value → State → Prop := va_Pc av (fun U => va_P (qD g) qcls (qW g S) U.heap ∧ qAmb g U)
def qQc (g : qG) (kv : Int → Option Value) (o : qO) (S' : qS) : Array Value → State → Outcome → State → Prop := fun _ st oc t => ∃ r : Int, o = .inr r ∧ oc = .returned (kv r) ∧ va_P (qD g) qcls (qW g S') t.heap ∧ va_F (qA g) st t
def qXc (g : qG) (o : qO) (S' : qS) : String → State → State → Prop := fun E st t => o = .inl E ∧ va_P (qD g) qcls (qW g S') t.heap ∧ va_F (qA g) st t
def qM (l : Launch) (g : qG) (y : MethodName) (w1 : Cond) (rm : Room) (kv : Int → Option Value) (av : List Value) (S : qS) (o : qO) (S' : qS) : Prop :=
  vx_Met l y (w1 :: qAW) rm (qPc g av S) (qQc g kv o S') (qXc g o S') rm.cells rm.slots (qA g)
def qQ (g : qG) (below : List Frame) (kv : Int → Option Value) (o : qO) (S' : qS) (args : Array Value) (s : State) (rm : Room) : State → Prop :=
  vx_MQ below (qQc g kv o S') (qXc g o S') args s rm.cells rm.slots (qA g)
theorem qPc_blind {g : qG} {av : List Value} {S : qS} : FrameBlind (qPc g av S) := fun a U gg mk q => ⟨q.1, q.2.1, qAmb_same (u := U) rfl rfl q.2.2⟩
def qC (g : qG) (p : Program) (l : Launch) (s : State) (m : MethodId) (args : Array Value) (meth : Method) (c : Code) (own : String) (cc : ByteArray) (nL : Nat) : Prop :=
  p.tables.exec = Jvm.exec ∧ c.code = cc ∧ c.maxLocals = nL ∧ s.vm.findClass own = some m.cls ∧ (∀ w ∈ qAW, w.before args s = true) ∧ qAmb g s ∧ qAd g ∧ meth.locks = false ∧ l.stackTraces = false
/-- the judgement: from this place, with these locals and this stack, over the state S -/
def qZ (g : qG) (p : Program) (l : Launch) (e : Env) (R : Room) (s : State) (m : MethodId) (args : Array Value) (below : List Frame) (meth : Method) (c : Code) (Q : State → Prop) (nL : Nat) (S : qS) (L : List (Nat × Value)) (pc : Nat) (st : List Value) (k n : Nat) : Prop :=
  ∀ (H : Heap) (locs : List Loc) (ls : Array Slot), va_P (qD g) qcls (qW g S) H → va_S (qA g) s.heap H locs → lv_has ls nL L → W p l e R s m args below meth c H locs k n Q (F0 m pc ls st)
theorem qM_of {l : Launch} {g : qG} {y : MethodName} {cc : ByteArray} {maxL : Nat} {ret : Option FieldType} {rm : Room} {kv : Int → Option Value} {av : List Value} {S S' : qS} {o : qO} {L : List (Nat × Value)}
    (hy : plainName y.cls = true) (hL : lv_args 0 av = L) (hsz : (lg_sl av).length ≤ maxL) (hl : l.stackTraces = false) (hA : qAd g)
    (body : ∀ (p : Program) (e : Env) (s : State) (m : MethodId) (below : List Frame) (meth : Method) (c : Code), qC g p l s m av.toArray meth c y.cls cc maxL → meth.sig.returnType = ret → (∀ x ∈ c.exceptionTable.toList, False) →
      qZ g p l e rm s m av.toArray below meth c (qQ g below kv o S' av.toArray s rm) maxL S L 0 [] 0 0) : qM l g y (.code y cc maxL ret) rm kv av S o S' := by
  refine vx_ofW (cc := cc) (maxL := maxL) (ret := ret) hy rfl ?_
  intro p e s m args below meth c s₁ B hml ht hv
  obtain ⟨rfl, hP, hAm⟩ := hv
  have hts : ∀ w ∈ qAW, w.before av.toArray s = true := fun w hw => atoms_spec (ws := .code y cc maxL ret :: qAW) B.pre w (List.mem_cons_of_mem _ hw)
  have hl1 := lv_entry av (n := maxL) hsz
  rw [lg_entry_eq]
  rw [hL] at hl1
  exact body p e s m below meth c ⟨B.exec, B.bytes, hml, findClass_of_methodNamed B.named, hts, hAm, hA, B.notSynchronized, hl⟩ B.returns ht s.heap [] _ hP va_S.rf hl1
end
section
section QZA
variable {g : qG} {p : Program} {l : Launch} {e : Env} {R : Room} {s : State} {m : MethodId} {args : Array Value} {below : List Frame} {meth : Method} {c : Code} {Q : State → Prop} {nL : Nat} {S : qS} {L L' : List (Nat × Value)} {pc : Nat} {st : List Value} {k n : Nat} {own : String} {cc : ByteArray}
theorem z_iconst {i x : Int} (C : qC g p l s m args meth c own cc nL) (d : decode cc pc = .ok (.iconst i, 1)) (hv : Int32.ofInt i = qI x) (kk : qZ g p l e R s m args below meth c Q nL S L (pc + 1) (.int (qI x) :: st) k n) : qZ g p l e R s m args below meth c Q nL S L pc st k n := fun H locs ls hP hS hl => lv_iconst C.1 C.2.1 d hv (kk H locs ls hP hS hl)
theorem z_bipush {i x : Int} (C : qC g p l s m args meth c own cc nL) (d : decode cc pc = .ok (.bipush i, 2)) (hv : (Int8.ofInt i).toInt32 = qI x) (kk : qZ g p l e R s m args below meth c Q nL S L (pc + 2) (.int (qI x) :: st) k n) : qZ g p l e R s m args below meth c Q nL S L pc st k n := fun H locs ls hP hS hl => lv_bipush C.1 C.2.1 d hv (kk H locs ls hP hS hl)
theorem z_sipush {i x : Int} (C : qC g p l s m args meth c own cc nL) (d : decode cc pc = .ok (.sipush i, 3)) (hv : (Int16.ofInt i).toInt32 = qI x) (kk : qZ g p l e R s m args below meth c Q nL S L (pc + 3) (.int (qI x) :: st) k n) : qZ g p l e R s m args below meth c Q nL S L pc st k n := fun H locs ls hP hS hl => lv_sipush C.1 C.2.1 d hv (kk H locs ls hP hS hl)
theorem z_lconst {b : Fin 2} {x : Int} (C : qC g p l s m args meth c own cc nL) (d : decode cc pc = .ok (.lconst b, 1)) (hv : Int64.ofNat (b : Nat) = qL x) (kk : qZ g p l e R s m args below meth c Q nL S L (pc + 1) (.long (qL x) :: st) k n) : qZ g p l e R s m args below meth c Q nL S L pc st k n := fun H locs ls hP hS hl => lv_lconst C.1 C.2.1 d hv (kk H locs ls hP hS hl)
theorem z_ldc {i : Nat} {v : Int32} {x : Int} (C : qC g p l s m args meth c own cc nL) (d : decode cc pc = .ok (.ldc i, 2)) (hw : Cond.constant own i v ∈ qAW) (hv : v = qI x) (kk : qZ g p l e R s m args below meth c Q nL S L (pc + 2) (.int (qI x) :: st) k n) : qZ g p l e R s m args below meth c Q nL S L pc st k n := fun H locs ls hP hS hl => lv_ldc C.1 C.2.1 C.2.2.2.1 (hv ▸ C.2.2.2.2.1 _ hw) d (kk H locs ls hP hS hl)
theorem z_ldc2 {i : Nat} {v : Int64} {x : Int} (C : qC g p l s m args meth c own cc nL) (d : decode cc pc = .ok (.ldc2_w i, 3)) (hw : Cond.constantLong own i v ∈ qAW) (hv : v = qL x) (kk : qZ g p l e R s m args below meth c Q nL S L (pc + 3) (.long (qL x) :: st) k n) : qZ g p l e R s m args below meth c Q nL S L pc st k n := fun H locs ls hP hS hl => lv_ldc2 C.1 C.2.1 C.2.2.2.1 (hv ▸ C.2.2.2.2.1 _ hw) d (kk H locs ls hP hS hl)
theorem z_iload_n {i : Fin 4} {x : Int32} (C : qC g p l s m args meth c own cc nL) (d : decode cc pc = .ok (.iload_n i, 1)) (j : Nat) (hj : L[j]? = some ((i : Nat), .int x)) (kk : qZ g p l e R s m args below meth c Q nL S L (pc + 1) (.int x :: st) k n) : qZ g p l e R s m args below meth c Q nL S L pc st k n := fun H locs ls hP hS hl => lv_iload_n C.1 C.2.1 d rfl (lv_at hl j hj) (kk H locs ls hP hS hl)
theorem z_iload {i : Nat} {x : Int32} (C : qC g p l s m args meth c own cc nL) (d : decode cc pc = .ok (.iload i, 2)) (j : Nat) (hj : L[j]? = some (i, .int x)) (kk : qZ g p l e R s m args below meth c Q nL S L (pc + 2) (.int x :: st) k n) : qZ g p l e R s m args below meth c Q nL S L pc st k n := fun H locs ls hP hS hl => lv_iload C.1 C.2.1 d (lv_at hl j hj) (kk H locs ls hP hS hl)
theorem z_lload_n {i : Fin 4} {x : Int64} (C : qC g p l s m args meth c own cc nL) (d : decode cc pc = .ok (.lload_n i, 1)) (j : Nat) (hj : L[j]? = some ((i : Nat), .long x)) (kk : qZ g p l e R s m args below meth c Q nL S L (pc + 1) (.long x :: st) k n) : qZ g p l e R s m args below meth c Q nL S L pc st k n := fun H locs ls hP hS hl => lv_lload_n C.1 C.2.1 d rfl (lv_at hl j hj) (kk H locs ls hP hS hl)
theorem z_lload {i : Nat} {x : Int64} (C : qC g p l s m args meth c own cc nL) (d : decode cc pc = .ok (.lload i, 2)) (j : Nat) (hj : L[j]? = some (i, .long x)) (kk : qZ g p l e R s m args below meth c Q nL S L (pc + 2) (.long x :: st) k n) : qZ g p l e R s m args below meth c Q nL S L pc st k n := fun H locs ls hP hS hl => lv_lload C.1 C.2.1 d (lv_at hl j hj) (kk H locs ls hP hS hl)
theorem z_aload_n {i : Fin 4} {x : Nat} (C : qC g p l s m args meth c own cc nL) (d : decode cc pc = .ok (.aload_n i, 1)) (j : Nat) (hj : L[j]? = some ((i : Nat), .ref x)) (kk : qZ g p l e R s m args below meth c Q nL S L (pc + 1) (.ref x :: st) k n) : qZ g p l e R s m args below meth c Q nL S L pc st k n := fun H locs ls hP hS hl => lv_aload_n C.1 C.2.1 d rfl (lv_at hl j hj) (kk H locs ls hP hS hl)
theorem z_aload {i : Nat} {x : Nat} (C : qC g p l s m args meth c own cc nL) (d : decode cc pc = .ok (.aload i, 2)) (j : Nat) (hj : L[j]? = some (i, .ref x)) (kk : qZ g p l e R s m args below meth c Q nL S L (pc + 2) (.ref x :: st) k n) : qZ g p l e R s m args below meth c Q nL S L pc st k n := fun H locs ls hP hS hl => lv_aload C.1 C.2.1 d (lv_at hl j hj) (kk H locs ls hP hS hl)
theorem z_istore_n {i : Fin 4} {x : Int32} (C : qC g p l s m args meth c own cc nL) (d : decode cc pc = .ok (.istore_n i, 1)) (hn : (i : Nat) < nL) (hL : ((i : Nat), Value.int x) :: L.filter (fun q : Nat × Value => !(q.1 == (i : Nat)) && !(q.1 + 1 == (i : Nat) && q.2.category == 2)) = L') (kk : qZ g p l e R s m args below meth c Q nL S L' (pc + 1) st k n) : qZ g p l e R s m args below meth c Q nL S L pc (.int x :: st) k n := fun H locs ls hP hS hl => lv_istore_n C.1 C.2.1 d rfl hl hn hL (fun ls' h' => kk H locs ls' hP hS h')
theorem z_istore {i : Nat} {x : Int32} (C : qC g p l s m args meth c own cc nL) (d : decode cc pc = .ok (.istore i, 2)) (hn : i < nL) (hL : (i, Value.int x) :: L.filter (fun q : Nat × Value => !(q.1 == i) && !(q.1 + 1 == i && q.2.category == 2)) = L') (kk : qZ g p l e R s m args below meth c Q nL S L' (pc + 2) st k n) : qZ g p l e R s m args below meth c Q nL S L pc (.int x :: st) k n := fun H locs ls hP hS hl => lv_istore C.1 C.2.1 d hl hn hL (fun ls' h' => kk H locs ls' hP hS h')
theorem z_lstore_n {i : Fin 4} {x : Int64} (C : qC g p l s m args meth c own cc nL) (d : decode cc pc = .ok (.lstore_n i, 1)) (hn : (i : Nat) + 1 < nL) (hL : ((i : Nat), Value.long x) :: L.filter (fun q : Nat × Value => !(q.1 == (i : Nat)) && (!(q.1 == (i : Nat) + 1) && !(q.1 + 1 == (i : Nat) && q.2.category == 2))) = L') (kk : qZ g p l e R s m args below meth c Q nL S L' (pc + 1) st k n) : qZ g p l e R s m args below meth c Q nL S L pc (.long x :: st) k n := fun H locs ls hP hS hl => lv_lstore_n C.1 C.2.1 d rfl hl hn hL (fun ls' h' => kk H locs ls' hP hS h')
theorem z_lstore {i : Nat} {x : Int64} (C : qC g p l s m args meth c own cc nL) (d : decode cc pc = .ok (.lstore i, 2)) (hn : i + 1 < nL) (hL : (i, Value.long x) :: L.filter (fun q : Nat × Value => !(q.1 == i) && (!(q.1 == i + 1) && !(q.1 + 1 == i && q.2.category == 2))) = L') (kk : qZ g p l e R s m args below meth c Q nL S L' (pc + 2) st k n) : qZ g p l e R s m args below meth c Q nL S L pc (.long x :: st) k n := fun H locs ls hP hS hl => lv_lstore C.1 C.2.1 d hl hn hL (fun ls' h' => kk H locs ls' hP hS h')
theorem z_astore_n {i : Fin 4} {x : Nat} (C : qC g p l s m args meth c own cc nL) (d : decode cc pc = .ok (.astore_n i, 1)) (hn : (i : Nat) < nL) (hL : ((i : Nat), Value.ref x) :: L.filter (fun q : Nat × Value => !(q.1 == (i : Nat)) && !(q.1 + 1 == (i : Nat) && q.2.category == 2)) = L') (kk : qZ g p l e R s m args below meth c Q nL S L' (pc + 1) st k n) : qZ g p l e R s m args below meth c Q nL S L pc (.ref x :: st) k n := fun H locs ls hP hS hl => lv_astore_n C.1 C.2.1 d rfl hl hn hL (fun ls' h' => kk H locs ls' hP hS h')
theorem z_astore {i : Nat} {x : Nat} (C : qC g p l s m args meth c own cc nL) (d : decode cc pc = .ok (.astore i, 2)) (hn : i < nL) (hL : (i, Value.ref x) :: L.filter (fun q : Nat × Value => !(q.1 == i) && !(q.1 + 1 == i && q.2.category == 2)) = L') (kk : qZ g p l e R s m args below meth c Q nL S L' (pc + 2) st k n) : qZ g p l e R s m args below meth c Q nL S L pc (.ref x :: st) k n := fun H locs ls hP hS hl => lv_astore C.1 C.2.1 d hl hn hL (fun ls' h' => kk H locs ls' hP hS h')
theorem z_iinc {i : Nat} {a x : Int} (C : qC g p l s m args meth c own cc nL) (d : decode cc pc = .ok (.iinc i a, 3)) (j : Nat) (hj : L[j]? = some (i, .int (qI x))) (hn : i < nL) (hL : (i, Value.int (qI (x + a))) :: L.filter (fun q : Nat × Value => !(q.1 == i) && !(q.1 + 1 == i && q.2.category == 2)) = L') (kk : qZ g p l e R s m args below meth c Q nL S L' (pc + 3) st k n) : qZ g p l e R s m args below meth c Q nL S L pc st k n := fun H locs ls hP hS hl => lv_iinc C.1 C.2.1 d hl hj (qI_add x a) hn hL (fun ls' h' => kk H locs ls' hP hS h')
theorem z_iadd {x y : Int} (C : qC g p l s m args meth c own cc nL) (d : decode cc pc = .ok (.iadd, 1))  (kk : qZ g p l e R s m args below meth c Q nL S L (pc + 1) (.int (qI (x + y)) :: st) k n) : qZ g p l e R s m args below meth c Q nL S L pc (.int (qI y) :: .int (qI x) :: st) k n := fun H locs ls hP hS hl => lv_iadd C.1 C.2.1 d (by rw [qI_add]; exact (kk H locs ls hP hS hl))
theorem z_isub {x y : Int} (C : qC g p l s m args meth c own cc nL) (d : decode cc pc = .ok (.isub, 1))  (kk : qZ g p l e R s m args below meth c Q nL S L (pc + 1) (.int (qI (x - y)) :: st) k n) : qZ g p l e R s m args below meth c Q nL S L pc (.int (qI y) :: .int (qI x) :: st) k n := fun H locs ls hP hS hl => lv_isub C.1 C.2.1 d (by rw [qI_sub]; exact (kk H locs ls hP hS hl))
theorem z_imul {x y : Int} (C : qC g p l s m args meth c own cc nL) (d : decode cc pc = .ok (.imul, 1))  (kk : qZ g p l e R s m args below meth c Q nL S L (pc + 1) (.int (qI (x * y)) :: st) k n) : qZ g p l e R s m args below meth c Q nL S L pc (.int (qI y) :: .int (qI x) :: st) k n := fun H locs ls hP hS hl => lv_imul C.1 C.2.1 d (by rw [qI_mul]; exact (kk H locs ls hP hS hl))
theorem z_ladd {x y : Int} (C : qC g p l s m args meth c own cc nL) (d : decode cc pc = .ok (.ladd, 1))  (kk : qZ g p l e R s m args below meth c Q nL S L (pc + 1) (.long (qL (x + y)) :: st) k n) : qZ g p l e R s m args below meth c Q nL S L pc (.long (qL y) :: .long (qL x) :: st) k n := fun H locs ls hP hS hl => lv_ladd C.1 C.2.1 d (by rw [qL_add]; exact (kk H locs ls hP hS hl))
theorem z_lsub {x y : Int} (C : qC g p l s m args meth c own cc nL) (d : decode cc pc = .ok (.lsub, 1))  (kk : qZ g p l e R s m args below meth c Q nL S L (pc + 1) (.long (qL (x - y)) :: st) k n) : qZ g p l e R s m args below meth c Q nL S L pc (.long (qL y) :: .long (qL x) :: st) k n := fun H locs ls hP hS hl => lv_lsub C.1 C.2.1 d (by rw [qL_sub]; exact (kk H locs ls hP hS hl))
theorem z_lmul {x y : Int} (C : qC g p l s m args meth c own cc nL) (d : decode cc pc = .ok (.lmul, 1))  (kk : qZ g p l e R s m args below meth c Q nL S L (pc + 1) (.long (qL (x * y)) :: st) k n) : qZ g p l e R s m args below meth c Q nL S L pc (.long (qL y) :: .long (qL x) :: st) k n := fun H locs ls hP hS hl => lv_lmul C.1 C.2.1 d (by rw [qL_mul]; exact (kk H locs ls hP hS hl))
theorem z_idiv {x y : Int} (C : qC g p l s m args meth c own cc nL) (d : decode cc pc = .ok (.idiv, 1)) (h : 0 ≤ x ∧ x < 2147483648 ∧ 0 < y ∧ y < 2147483648) (kk : qZ g p l e R s m args below meth c Q nL S L (pc + 1) (.int (qI (x / y)) :: st) k n) : qZ g p l e R s m args below meth c Q nL S L pc (.int (qI y) :: .int (qI x) :: st) k n := fun H locs ls hP hS hl => lv_idiv C.1 C.2.1 d (qI_ne0 h.2.2) (by rw [qI_div h]; exact (kk H locs ls hP hS hl))
theorem z_irem {x y : Int} (C : qC g p l s m args meth c own cc nL) (d : decode cc pc = .ok (.irem, 1)) (h : 0 ≤ x ∧ x < 2147483648 ∧ 0 < y ∧ y < 2147483648) (kk : qZ g p l e R s m args below meth c Q nL S L (pc + 1) (.int (qI (x % y)) :: st) k n) : qZ g p l e R s m args below meth c Q nL S L pc (.int (qI y) :: .int (qI x) :: st) k n := fun H locs ls hP hS hl => lv_irem C.1 C.2.1 d (qI_ne0 h.2.2) (by rw [qI_rem h]; exact (kk H locs ls hP hS hl))
theorem z_ldiv {x y : Int} (C : qC g p l s m args meth c own cc nL) (d : decode cc pc = .ok (.ldiv, 1)) (h : 0 ≤ x ∧ x < 9223372036854775808 ∧ 0 < y ∧ y < 9223372036854775808) (kk : qZ g p l e R s m args below meth c Q nL S L (pc + 1) (.long (qL (x / y)) :: st) k n) : qZ g p l e R s m args below meth c Q nL S L pc (.long (qL y) :: .long (qL x) :: st) k n := fun H locs ls hP hS hl => lv_ldiv C.1 C.2.1 d (qL_ne0 h.2.2) (by rw [qL_div h]; exact (kk H locs ls hP hS hl))
theorem z_lrem {x y : Int} (C : qC g p l s m args meth c own cc nL) (d : decode cc pc = .ok (.lrem, 1)) (h : 0 ≤ x ∧ x < 9223372036854775808 ∧ 0 < y ∧ y < 9223372036854775808) (kk : qZ g p l e R s m args below meth c Q nL S L (pc + 1) (.long (qL (x % y)) :: st) k n) : qZ g p l e R s m args below meth c Q nL S L pc (.long (qL y) :: .long (qL x) :: st) k n := fun H locs ls hP hS hl => lv_lrem C.1 C.2.1 d (qL_ne0 h.2.2) (by rw [qL_rem h]; exact (kk H locs ls hP hS hl))
def qishl (x y : Int) : Int := (qI x <<< (qI y &&& 31)).toInt
def qior (x y : Int) : Int := (qI x ||| qI y).toInt
def qiand (x y : Int) : Int := (qI x &&& qI y).toInt
def qixor (x y : Int) : Int := (qI x ^^^ qI y).toInt
def qlshl (x y : Int) : Int := (qL x <<< ((qI y).toInt64 &&& 63)).toInt
def qlor (x y : Int) : Int := (qL x ||| qL y).toInt
def qland (x y : Int) : Int := (qL x &&& qL y).toInt
def qlushr (x y : Int) : Int := ((qL x).toUInt64 >>> ((qI y).toInt64.toUInt64 &&& Int64.toUInt64 63)).toInt64.toInt
theorem z_ishl {x y : Int} (C : qC g p l s m args meth c own cc nL) (d : decode cc pc = .ok (.ishl, 1))  (kk : qZ g p l e R s m args below meth c Q nL S L (pc + 1) (.int (qI (qishl x y)) :: st) k n) : qZ g p l e R s m args below meth c Q nL S L pc (.int (qI y) :: .int (qI x) :: st) k n := fun H locs ls hP hS hl => lv_ishl C.1 C.2.1 d (by rw [show qI x <<< (qI y &&& 31) = qI (qishl x y) from qI_of _]; exact (kk H locs ls hP hS hl))
theorem z_ior {x y : Int} (C : qC g p l s m args meth c own cc nL) (d : decode cc pc = .ok (.ior, 1))  (kk : qZ g p l e R s m args below meth c Q nL S L (pc + 1) (.int (qI (qior x y)) :: st) k n) : qZ g p l e R s m args below meth c Q nL S L pc (.int (qI y) :: .int (qI x) :: st) k n := fun H locs ls hP hS hl => lv_ior C.1 C.2.1 d (by rw [show qI x ||| qI y = qI (qior x y) from qI_of _]; exact (kk H locs ls hP hS hl))
theorem z_iand {x y : Int} (C : qC g p l s m args meth c own cc nL) (d : decode cc pc = .ok (.iand, 1))  (kk : qZ g p l e R s m args below meth c Q nL S L (pc + 1) (.int (qI (qiand x y)) :: st) k n) : qZ g p l e R s m args below meth c Q nL S L pc (.int (qI y) :: .int (qI x) :: st) k n := fun H locs ls hP hS hl => lv_iand C.1 C.2.1 d (by rw [show qI x &&& qI y = qI (qiand x y) from qI_of _]; exact (kk H locs ls hP hS hl))
theorem z_ixor {x y : Int} (C : qC g p l s m args meth c own cc nL) (d : decode cc pc = .ok (.ixor, 1))  (kk : qZ g p l e R s m args below meth c Q nL S L (pc + 1) (.int (qI (qixor x y)) :: st) k n) : qZ g p l e R s m args below meth c Q nL S L pc (.int (qI y) :: .int (qI x) :: st) k n := fun H locs ls hP hS hl => lv_ixor C.1 C.2.1 d (by rw [show qI x ^^^ qI y = qI (qixor x y) from qI_of _]; exact (kk H locs ls hP hS hl))
theorem z_lor {x y : Int} (C : qC g p l s m args meth c own cc nL) (d : decode cc pc = .ok (.lor, 1))  (kk : qZ g p l e R s m args below meth c Q nL S L (pc + 1) (.long (qL (qlor x y)) :: st) k n) : qZ g p l e R s m args below meth c Q nL S L pc (.long (qL y) :: .long (qL x) :: st) k n := fun H locs ls hP hS hl => lv_lor C.1 C.2.1 d (by rw [show qL x ||| qL y = qL (qlor x y) from qL_of _]; exact (kk H locs ls hP hS hl))
theorem z_land {x y : Int} (C : qC g p l s m args meth c own cc nL) (d : decode cc pc = .ok (.land, 1))  (kk : qZ g p l e R s m args below meth c Q nL S L (pc + 1) (.long (qL (qland x y)) :: st) k n) : qZ g p l e R s m args below meth c Q nL S L pc (.long (qL y) :: .long (qL x) :: st) k n := fun H locs ls hP hS hl => lv_land C.1 C.2.1 d (by rw [show qL x &&& qL y = qL (qland x y) from qL_of _]; exact (kk H locs ls hP hS hl))
theorem z_lshl {x y : Int} (C : qC g p l s m args meth c own cc nL) (d : decode cc pc = .ok (.lshl, 1))  (kk : qZ g p l e R s m args below meth c Q nL S L (pc + 1) (.long (qL (qlshl x y)) :: st) k n) : qZ g p l e R s m args below meth c Q nL S L pc (.int (qI y) :: .long (qL x) :: st) k n := fun H locs ls hP hS hl => lv_lshl C.1 C.2.1 d (qL_of _) (kk H locs ls hP hS hl)
theorem z_lushr {x y : Int} (C : qC g p l s m args meth c own cc nL) (d : decode cc pc = .ok (.lushr, 1))  (kk : qZ g p l e R s m args below meth c Q nL S L (pc + 1) (.long (qL (qlushr x y)) :: st) k n) : qZ g p l e R s m args below meth c Q nL S L pc (.int (qI y) :: .long (qL x) :: st) k n := fun H locs ls hP hS hl => lv_lushr C.1 C.2.1 d (qL_of _) (kk H locs ls hP hS hl)
theorem z_ineg {x : Int} (C : qC g p l s m args meth c own cc nL) (d : decode cc pc = .ok (.ineg, 1))  (kk : qZ g p l e R s m args below meth c Q nL S L (pc + 1) (.int (qI (0 - x)) :: st) k n) : qZ g p l e R s m args below meth c Q nL S L pc (.int (qI x) :: st) k n := fun H locs ls hP hS hl => lv_ineg C.1 C.2.1 d (by rw [show -qI x = qI (0 - x) from by rw [Int.zero_sub]; exact (Int32.ofInt_neg x).symm]; exact (kk H locs ls hP hS hl))
theorem z_i2l {x : Int} (C : qC g p l s m args meth c own cc nL) (d : decode cc pc = .ok (.i2l, 1)) (h : qR x) (kk : qZ g p l e R s m args below meth c Q nL S L (pc + 1) (.long (qL x) :: st) k n) : qZ g p l e R s m args below meth c Q nL S L pc (.int (qI x) :: st) k n := fun H locs ls hP hS hl => lv_i2l C.1 C.2.1 d (qI_toL h) (kk H locs ls hP hS hl)
theorem z_l2i {x : Int} (C : qC g p l s m args meth c own cc nL) (d : decode cc pc = .ok (.l2i, 1))  (kk : qZ g p l e R s m args below meth c Q nL S L (pc + 1) (.int (qI x) :: st) k n) : qZ g p l e R s m args below meth c Q nL S L pc (.long (qL x) :: st) k n := fun H locs ls hP hS hl => lv_l2i C.1 C.2.1 d (qL_toI x) (kk H locs ls hP hS hl)
theorem z_lcmp {x y : Int} (C : qC g p l s m args meth c own cc nL) (d : decode cc pc = .ok (.lcmp, 1)) (h : qRl x ∧ qRl y) (kk : qZ g p l e R s m args below meth c Q nL S L (pc + 1) (.int (qI (qcmp x y)) :: st) k n) : qZ g p l e R s m args below meth c Q nL S L pc (.long (qL y) :: .long (qL x) :: st) k n := fun H locs ls hP hS hl => W.lcmp C.1 C.2.1 d (by rw [qL_cmp h.1 h.2]; exact (kk H locs ls hP hS hl))
theorem z_dup {v : Value} (C : qC g p l s m args meth c own cc nL) (d : decode cc pc = .ok (.dup, 1)) (hv : v.category = 1) (kk : qZ g p l e R s m args below meth c Q nL S L (pc + 1) (v :: v :: st) k n) : qZ g p l e R s m args below meth c Q nL S L pc (v :: st) k n := fun H locs ls hP hS hl => lv_dup C.1 C.2.1 d hv (kk H locs ls hP hS hl)
theorem z_pop {v : Value} (C : qC g p l s m args meth c own cc nL) (d : decode cc pc = .ok (.pop, 1)) (hv : v.category = 1) (kk : qZ g p l e R s m args below meth c Q nL S L (pc + 1) st k n) : qZ g p l e R s m args below meth c Q nL S L pc (v :: st) k n := fun H locs ls hP hS hl => lv_pop C.1 C.2.1 d hv (kk H locs ls hP hS hl)
theorem z_dup2 {v w : Value} (C : qC g p l s m args meth c own cc nL) (d : decode cc pc = .ok (.dup2, 1)) (hv : v.category = 1) (hw : w.category = 1) (kk : qZ g p l e R s m args below meth c Q nL S L (pc + 1) (v :: w :: v :: w :: st) k n) : qZ g p l e R s m args below meth c Q nL S L pc (v :: w :: st) k n := fun H locs ls hP hS hl => lv_dup2_11 C.1 C.2.1 d hv hw (kk H locs ls hP hS hl)
theorem z_dup_x1 {v w : Value} (C : qC g p l s m args meth c own cc nL) (d : decode cc pc = .ok (.dup_x1, 1)) (hv : v.category = 1) (hw : w.category = 1) (kk : qZ g p l e R s m args below meth c Q nL S L (pc + 1) (v :: w :: v :: st) k n) : qZ g p l e R s m args below meth c Q nL S L pc (v :: w :: st) k n := fun H locs ls hP hS hl => lv_dup_x1 C.1 C.2.1 d hv hw (kk H locs ls hP hS hl)
theorem z_icmp_eq {x y : Int} {off : Int} {tgt : Nat} (C : qC g p l s m args meth c own cc nL) (d : decode cc pc = .ok (.if_icmp .eq off, 3)) (ht : (pc : Int) + off = (tgt : Int)) (h : qR x ∧ qR y) (kt : (x = y) → qZ g p l e R s m args below meth c Q nL S L tgt st k n) (kf : ¬ (x = y) → qZ g p l e R s m args below meth c Q nL S L (pc + 3) st k n) : qZ g p l e R s m args below meth c Q nL S L pc (.int (qI y) :: .int (qI x) :: st) k n := fun H locs ls hP hS hl => lv_icmp_eq C.1 C.2.1 d ht (fun z => kt ((qI_eq h.1 h.2).mp z) H locs ls hP hS hl) (fun z => kf (fun q => z ((qI_eq h.1 h.2).mpr q)) H locs ls hP hS hl)
theorem z_icmp_lt {x y : Int} {off : Int} {tgt : Nat} (C : qC g p l s m args meth c own cc nL) (d : decode cc pc = .ok (.if_icmp .lt off, 3)) (ht : (pc : Int) + off = (tgt : Int)) (h : qR x ∧ qR y) (kt : (x < y) → qZ g p l e R s m args below meth c Q nL S L tgt st k n) (kf : ¬ (x < y) → qZ g p l e R s m args below meth c Q nL S L (pc + 3) st k n) : qZ g p l e R s m args below meth c Q nL S L pc (.int (qI y) :: .int (qI x) :: st) k n := fun H locs ls hP hS hl => lv_icmp_lt C.1 C.2.1 d ht (fun z => kt ((qI_lt h.1 h.2).mp z) H locs ls hP hS hl) (fun z => kf (fun q => z ((qI_lt h.1 h.2).mpr q)) H locs ls hP hS hl)
theorem z_icmp_le {x y : Int} {off : Int} {tgt : Nat} (C : qC g p l s m args meth c own cc nL) (d : decode cc pc = .ok (.if_icmp .le off, 3)) (ht : (pc : Int) + off = (tgt : Int)) (h : qR x ∧ qR y) (kt : (x ≤ y) → qZ g p l e R s m args below meth c Q nL S L tgt st k n) (kf : ¬ (x ≤ y) → qZ g p l e R s m args below meth c Q nL S L (pc + 3) st k n) : qZ g p l e R s m args below meth c Q nL S L pc (.int (qI y) :: .int (qI x) :: st) k n := fun H locs ls hP hS hl => lv_icmp_le C.1 C.2.1 d ht (fun z => kt ((qI_le h.1 h.2).mp z) H locs ls hP hS hl) (fun z => kf (fun q => z ((qI_le h.1 h.2).mpr q)) H locs ls hP hS hl)
theorem z_icmp_gt {x y : Int} {off : Int} {tgt : Nat} (C : qC g p l s m args meth c own cc nL) (d : decode cc pc = .ok (.if_icmp .gt off, 3)) (ht : (pc : Int) + off = (tgt : Int)) (h : qR x ∧ qR y) (kt : (y < x) → qZ g p l e R s m args below meth c Q nL S L tgt st k n) (kf : ¬ (y < x) → qZ g p l e R s m args below meth c Q nL S L (pc + 3) st k n) : qZ g p l e R s m args below meth c Q nL S L pc (.int (qI y) :: .int (qI x) :: st) k n := fun H locs ls hP hS hl => lv_icmp_gt C.1 C.2.1 d ht (fun z => kt ((qI_lt h.2 h.1).mp z) H locs ls hP hS hl) (fun z => kf (fun q => z ((qI_lt h.2 h.1).mpr q)) H locs ls hP hS hl)
theorem z_icmp_ge {x y : Int} {off : Int} {tgt : Nat} (C : qC g p l s m args meth c own cc nL) (d : decode cc pc = .ok (.if_icmp .ge off, 3)) (ht : (pc : Int) + off = (tgt : Int)) (h : qR x ∧ qR y) (kt : (y ≤ x) → qZ g p l e R s m args below meth c Q nL S L tgt st k n) (kf : ¬ (y ≤ x) → qZ g p l e R s m args below meth c Q nL S L (pc + 3) st k n) : qZ g p l e R s m args below meth c Q nL S L pc (.int (qI y) :: .int (qI x) :: st) k n := fun H locs ls hP hS hl => lv_icmp_ge C.1 C.2.1 d ht (fun z => kt ((qI_le h.2 h.1).mp z) H locs ls hP hS hl) (fun z => kf (fun q => z ((qI_le h.2 h.1).mpr q)) H locs ls hP hS hl)
theorem z_if_eq {x : Int} {off : Int} {tgt : Nat} (C : qC g p l s m args meth c own cc nL) (d : decode cc pc = .ok (.ifCond .eq off, 3)) (ht : (pc : Int) + off = (tgt : Int)) (h : qR x) (kt : (x = 0) → qZ g p l e R s m args below meth c Q nL S L tgt st k n) (kf : ¬ (x = 0) → qZ g p l e R s m args below meth c Q nL S L (pc + 3) st k n) : qZ g p l e R s m args below meth c Q nL S L pc (.int (qI x) :: st) k n := fun H locs ls hP hS hl => lv_if_eq C.1 C.2.1 d ht (fun z => kt ((qI_eq0 h).mp z) H locs ls hP hS hl) (fun z => kf (fun q => z ((qI_eq0 h).mpr q)) H locs ls hP hS hl)
theorem z_if_lt {x : Int} {off : Int} {tgt : Nat} (C : qC g p l s m args meth c own cc nL) (d : decode cc pc = .ok (.ifCond .lt off, 3)) (ht : (pc : Int) + off = (tgt : Int)) (h : qR x) (kt : (x < 0) → qZ g p l e R s m args below meth c Q nL S L tgt st k n) (kf : ¬ (x < 0) → qZ g p l e R s m args below meth c Q nL S L (pc + 3) st k n) : qZ g p l e R s m args below meth c Q nL S L pc (.int (qI x) :: st) k n := fun H locs ls hP hS hl => lv_if_lt C.1 C.2.1 d ht (fun z => kt ((qI_lt0 h).mp z) H locs ls hP hS hl) (fun z => kf (fun q => z ((qI_lt0 h).mpr q)) H locs ls hP hS hl)
theorem z_if_le {x : Int} {off : Int} {tgt : Nat} (C : qC g p l s m args meth c own cc nL) (d : decode cc pc = .ok (.ifCond .le off, 3)) (ht : (pc : Int) + off = (tgt : Int)) (h : qR x) (kt : (x ≤ 0) → qZ g p l e R s m args below meth c Q nL S L tgt st k n) (kf : ¬ (x ≤ 0) → qZ g p l e R s m args below meth c Q nL S L (pc + 3) st k n) : qZ g p l e R s m args below meth c Q nL S L pc (.int (qI x) :: st) k n := fun H locs ls hP hS hl => lv_if_le C.1 C.2.1 d ht (fun z => kt ((qI_le0 h).mp z) H locs ls hP hS hl) (fun z => kf (fun q => z ((qI_le0 h).mpr q)) H locs ls hP hS hl)
theorem z_if_gt {x : Int} {off : Int} {tgt : Nat} (C : qC g p l s m args meth c own cc nL) (d : decode cc pc = .ok (.ifCond .gt off, 3)) (ht : (pc : Int) + off = (tgt : Int)) (h : qR x) (kt : (0 < x) → qZ g p l e R s m args below meth c Q nL S L tgt st k n) (kf : ¬ (0 < x) → qZ g p l e R s m args below meth c Q nL S L (pc + 3) st k n) : qZ g p l e R s m args below meth c Q nL S L pc (.int (qI x) :: st) k n := fun H locs ls hP hS hl => lv_if_gt C.1 C.2.1 d ht (fun z => kt ((qI_gt0 h).mp z) H locs ls hP hS hl) (fun z => kf (fun q => z ((qI_gt0 h).mpr q)) H locs ls hP hS hl)
theorem z_if_ge {x : Int} {off : Int} {tgt : Nat} (C : qC g p l s m args meth c own cc nL) (d : decode cc pc = .ok (.ifCond .ge off, 3)) (ht : (pc : Int) + off = (tgt : Int)) (h : qR x) (kt : (0 ≤ x) → qZ g p l e R s m args below meth c Q nL S L tgt st k n) (kf : ¬ (0 ≤ x) → qZ g p l e R s m args below meth c Q nL S L (pc + 3) st k n) : qZ g p l e R s m args below meth c Q nL S L pc (.int (qI x) :: st) k n := fun H locs ls hP hS hl => lv_if_ge C.1 C.2.1 d ht (fun z => kt ((qI_ge0 h).mp z) H locs ls hP hS hl) (fun z => kf (fun q => z ((qI_ge0 h).mpr q)) H locs ls hP hS hl)
theorem z_icmp_ne {x y : Int} {off : Int} {tgt : Nat} (C : qC g p l s m args meth c own cc nL) (d : decode cc pc = .ok (.if_icmp .ne off, 3)) (ht : (pc : Int) + off = (tgt : Int)) (h : qR x ∧ qR y) (kf : x = y → qZ g p l e R s m args below meth c Q nL S L (pc + 3) st k n) (kt : ¬ x = y → qZ g p l e R s m args below meth c Q nL S L tgt st k n) : qZ g p l e R s m args below meth c Q nL S L pc (.int (qI y) :: .int (qI x) :: st) k n := fun H locs ls hP hS hl => lv_icmp_ne C.1 C.2.1 d ht (fun z => kt (fun q => z ((qI_eq h.1 h.2).mpr q)) H locs ls hP hS hl) (fun z => kf ((qI_eq h.1 h.2).mp (z)) H locs ls hP hS hl)
theorem z_if_ne {x : Int} {off : Int} {tgt : Nat} (C : qC g p l s m args meth c own cc nL) (d : decode cc pc = .ok (.ifCond .ne off, 3)) (ht : (pc : Int) + off = (tgt : Int)) (h : qR x) (kf : x = 0 → qZ g p l e R s m args below meth c Q nL S L (pc + 3) st k n) (kt : ¬ x = 0 → qZ g p l e R s m args below meth c Q nL S L tgt st k n) : qZ g p l e R s m args below meth c Q nL S L pc (.int (qI x) :: st) k n := fun H locs ls hP hS hl => lv_if_ne C.1 C.2.1 d ht (fun z => kt (fun q => z ((qI_eq0 h).mpr q)) H locs ls hP hS hl) (fun z => kf ((qI_eq0 h).mp (z)) H locs ls hP hS hl)
theorem z_goto {off : Int} {tgt : Nat} (C : qC g p l s m args meth c own cc nL) (d : decode cc pc = .ok (.goto off, 3)) (ht : (pc : Int) + off = (tgt : Int)) (kk : qZ g p l e R s m args below meth c Q nL S L tgt st k n) : qZ g p l e R s m args below meth c Q nL S L pc st k n := fun H locs ls hP hS hl => lv_goto C.1 C.2.1 d ht (kk H locs ls hP hS hl)
theorem z_ifnonnull {x : Nat} {off : Int} {tgt : Nat} (C : qC g p l s m args meth c own cc nL) (d : decode cc pc = .ok (.ifnonnull off, 3)) (ht : (pc : Int) + off = (tgt : Int)) (kk : qZ g p l e R s m args below meth c Q nL S L tgt st k n) : qZ g p l e R s m args below meth c Q nL S L pc (.ref x :: st) k n := fun H locs ls hP hS hl => lv_ifnonnull C.1 C.2.1 d ht (kk H locs ls hP hS hl)
theorem z_ifnull {x : Nat} {off : Int} (C : qC g p l s m args meth c own cc nL) (d : decode cc pc = .ok (.ifnull off, 3)) (kk : qZ g p l e R s m args below meth c Q nL S L (pc + 3) st k n) : qZ g p l e R s m args below meth c Q nL S L pc (.ref x :: st) k n := fun H locs ls hP hS hl => lv_ifnull C.1 C.2.1 d (kk H locs ls hP hS hl)
theorem z_tableIn {x lo hi dflt off : Int} {offs : Array Int} {len tgt : Nat} (C : qC g p l s m args meth c own cc nL) (d : decode cc pc = .ok (.tableswitch dflt lo hi offs, len)) (h : qR x) (h1 : lo ≤ x) (h2 : x ≤ hi) (ho : offs[(x - lo).toNat]? = some off) (ht : (pc : Int) + off = (tgt : Int)) (kk : qZ g p l e R s m args below meth c Q nL S L tgt st k n) : qZ g p l e R s m args below meth c Q nL S L pc (.int (qI x) :: st) k n := fun H locs ls hP hS hl => lv_tableIn C.1 C.2.1 d (by rw [qI_toInt h]; omega) (by rw [qI_toInt h]; omega) (by rw [qI_toInt h]; exact ho) ht (kk H locs ls hP hS hl)
theorem z_tableOut {x lo hi dflt : Int} {offs : Array Int} {len tgt : Nat} (C : qC g p l s m args meth c own cc nL) (d : decode cc pc = .ok (.tableswitch dflt lo hi offs, len)) (h : qR x) (h1 : x < lo ∨ hi < x) (ht : (pc : Int) + dflt = (tgt : Int)) (kk : qZ g p l e R s m args below meth c Q nL S L tgt st k n) : qZ g p l e R s m args below meth c Q nL S L pc (.int (qI x) :: st) k n := fun H locs ls hP hS hl => lv_tableOut C.1 C.2.1 d (by rw [qI_toInt h]; exact h1) ht (kk H locs ls hP hS hl)
theorem z_topi {x y : Int} (h : y = x) (kk : qZ g p l e R s m args below meth c Q nL S L pc (.int (qI y) :: st) k n) : qZ g p l e R s m args below meth c Q nL S L pc (.int (qI x) :: st) k n := h ▸ kk
theorem z_topl {x y : Int} (h : y = x) (kk : qZ g p l e R s m args below meth c Q nL S L pc (.long (qL y) :: st) k n) : qZ g p l e R s m args below meth c Q nL S L pc (.long (qL x) :: st) k n := h ▸ kk
theorem z_S {S' : qS} (h : S' = S) (kk : qZ g p l e R s m args below meth c Q nL (S') L pc st k n) : qZ g p l e R s m args below meth c Q nL S L pc st k n := h ▸ kk
theorem z_sub (ks : List Nat) (hL : lv_pick L ks = L') (kk : qZ g p l e R s m args below meth c Q nL S L' pc st k n) : qZ g p l e R s m args below meth c Q nL S L pc st k n := fun H locs ls hP hS hl => kk H locs ls hP hS (lv_sub hl ks hL)
theorem z_pc {pc' : Nat} (h : pc' = pc) (kk : qZ g p l e R s m args below meth c Q nL S L (pc') st k n) : qZ g p l e R s m args below meth c Q nL S L pc st k n := h ▸ kk
end QZA
section QZB
variable {g : qG} {p : Program} {l : Launch} {e : Env} {R : Room} {s : State} {m : MethodId} {args : Array Value} {below : List Frame} {meth : Method} {c : Code} {Q : State → Prop} {nL : Nat} {S : qS} {L L' : List (Nat × Value)} {pc : Nat} {st : List Value} {k n : Nat} {own : String} {cc : ByteArray}
theorem z_get {q ci i N kf : Nat} {Cn ref : String} {T : u_T} {fs : List Value} {v : Value} (C : qC g p l s m args meth c own cc nL) (hq : q < 128) (hcell : qcell g q (S q) = .inr (ci, fs)) (hc : qcls[ci]? = some (Cn, T, N)) (hin : ∀ w ∈ u_ws Cn T N, w ∈ qAW) (hk : kf < N) (hw : Cond.fieldLink own i ref (T kf).2.1 (T kf).2.2.1 ∈ qAW) (hs : (T kf).1 = ref) (hv : fs[kf]? = some v) (d : decode cc pc = .ok (.getfield i, 3)) (kk : qZ g p l e R s m args below meth c Q nL S L (pc + 3) (v :: st) k n) : qZ g p l e R s m args below meth c Q nL S L pc (.ref (qad g q) :: st) k n := fun H locs ls hP hS hl => va_get C.1 C.2.1 C.2.2.2.2.1 hin C.2.2.2.1 C.2.2.2.2.2.1.1 hP q (by rw [qW_get hq, hcell]) hc kf hk (C.2.2.2.2.1 _ hw) (fun x h => by rw [← hs]; exact h) hv d (kk H locs ls hP hS hl)
theorem z_put {q ci i N kf : Nat} {Cn ref : String} {T : u_T} {fs : List Value} {x : Int} {ty : FieldType} {ty0 : Nat → FieldType} (C : qC g p l s m args meth c own cc nL) (hq : q < 128) (hcell : qcell g q (S q) = .inr (ci, fs)) (hcell2 : qcell g q (fun i => if i = kf then x else S q i) = .inr (ci, fs.set kf (.int (qI x)))) (hc : qcls[ci]? = some (Cn, T, N)) (hin : ∀ w ∈ u_ws Cn T N, w ∈ qAW) (hty : ∀ k, k < N → parseFieldDescriptor (T k).2.2.1 = some (ty0 k)) (hnm : ∀ a, a < N → ∀ b, b < N → a ≠ b → (T a).2.1 ≠ (T b).2.1) (hk : kf < N) (hl9 : kf < fs.length) (hw : Cond.fieldLink own i ref (T kf).2.1 (T kf).2.2.1 ∈ qAW) (hs : (T kf).1 = ref) (hfin : (T kf).2.2.2 = false) (hd : parseFieldDescriptor (T kf).2.2.1 = some ty) (hn : narrow ty (.int (qI x)) = .int (qI x)) (hfit : fits ty (.int (qI x)) = true) (d : decode cc pc = .ok (.putfield i, 3)) (kk : qZ g p l e R s m args below meth c Q nL (q2 S q kf x) L (pc + 3) st k n) : qZ g p l e R s m args below meth c Q nL S L pc (.int (qI x) :: .ref (qad g q) :: st) k n := fun H locs ls hP hS hl => va_put C.1 C.2.1 C.2.2.2.2.1 hin ty0 hty hnm C.2.2.2.1 C.2.2.2.2.2.1.1 hP (qW_D C.2.2.2.2.2.2.1) hS q (by rw [qW_get hq, hcell]) hc kf hk (C.2.2.2.2.1 _ hw) (fun x h => by rw [← hs]; exact h) hfin hd hn hfit hl9 d (fun H1 locs1 hP1 _ hS1 => kk H1 locs1 ls (by rw [q2_up, ← qW_set hq, hcell2]; exact hP1) hS1 hl)
theorem z_iald {q N : Nat} {x : Int} (C : qC g p l s m args meth c own cc nL) (hq : qk q = N + 10) (h : 0 ≤ x ∧ x < (N : Int)) (hN : N ≤ 2147483647) (d : decode cc pc = .ok (.iaload, 1)) (kk : qZ g p l e R s m args below meth c Q nL S L (pc + 1) (.int (qI (S q x.toNat)) :: st) k n) : qZ g p l e R s m args below meth c Q nL S L pc (.int (qI x) :: .ref (qad g q) :: st) k n := fun H locs ls hP hS hl => va_iald C.1 C.2.1 C.2.2.2.2.2.1.1 hP q 0 (f := qia (S q)) (n := N) (by rw [qW_get (qk_lt (by rw [hq]; omega)), qcA hq]; rfl) rfl (qI_in h hN) d (by show W _ _ _ _ _ _ _ _ _ _ _ _ _ _ _ (F0 _ _ _ (.int (qI (S q (qI x).toNatClampNeg)) :: _)); rw [qI_nat h.1 (by omega)]; exact (kk H locs ls hP hS hl))
theorem qia_up {d : Nat → Int} {x v : Int} (h : 0 ≤ x ∧ x < 2147483648) : upd (qia d) (qI x).toNatClampNeg (qI v) = qia (fun i => if i = x.toNat then v else d i) := by
  funext j
  unfold upd qia
  rw [qI_nat h.1 h.2]
  by_cases hj : j = x.toNat
  · rw [if_pos hj]; show qI v = qI (if j = x.toNat then v else d j); rw [if_pos hj]
  · rw [if_neg hj]; show qI (d j) = qI (if j = x.toNat then v else d j); rw [if_neg hj]
theorem z_iast {q N : Nat} {x v : Int} (C : qC g p l s m args meth c own cc nL) (hq : qk q = N + 10) (h : 0 ≤ x ∧ x < (N : Int)) (hN : N ≤ 2147483647) (d : decode cc pc = .ok (.iastore, 1)) (kk : qZ g p l e R s m args below meth c Q nL (q2 S q x.toNat v) L (pc + 1) st k n) : qZ g p l e R s m args below meth c Q nL S L pc (.int (qI v) :: .int (qI x) :: .ref (qad g q) :: st) k n := fun H locs ls hP hS hl => va_iast C.1 C.2.1 C.2.2.2.2.2.1.1 hP (qW_D C.2.2.2.2.2.2.1) hS q 0 (f := qia (S q)) (n := N) (by rw [qW_get (qk_lt (by rw [hq]; omega)), qcA hq]; rfl) rfl (qI_in h hN) d (fun H1 locs1 hP1 _ hS1 => kk H1 locs1 ls (by rw [q2_up, ← qW_set (qk_lt (by rw [hq]; omega)), qcA hq]; rw [qia_up (by omega)] at hP1; exact hP1) hS1 hl)
theorem z_zald {q : Nat} {x : Int} (C : qC g p l s m args meth c own cc nL) (hq : qk q = 7) (h : 0 ≤ x ∧ x < 2) (d : decode cc pc = .ok (.baload, 1)) (kk : qZ g p l e R s m args below meth c Q nL S L (pc + 1) (.int (qI (S q x.toNat)) :: st) k n) : qZ g p l e R s m args below meth c Q nL S L pc (.int (qI x) :: .ref (qad g q) :: st) k n := fun H locs ls hP hS hl => va_zald C.1 C.2.1 C.2.2.2.2.2.1.1 hP q 1 (f := qia (S q)) (n := 2) (by rw [qW_get (qk_lt (by rw [hq]; decide)), qc7 hq]) rfl (qI_in h (by decide)) d (by show W _ _ _ _ _ _ _ _ _ _ _ _ _ _ _ (F0 _ _ _ (.int (qI (S q (qI x).toNatClampNeg)) :: _)); rw [qI_nat h.1 (by omega)]; exact (kk H locs ls hP hS hl))
theorem qnar_z {v : Int} (h : v = 0 ∨ v = 1) : vp_nar .boolean (qI v) = qI v := by rcases h with rfl | rfl <;> rfl
theorem z_zast {q : Nat} {x v : Int} (C : qC g p l s m args meth c own cc nL) (hq : qk q = 7) (h : 0 ≤ x ∧ x < 2) (hv : v = 0 ∨ v = 1) (d : decode cc pc = .ok (.bastore, 1)) (kk : qZ g p l e R s m args below meth c Q nL (q2 S q x.toNat v) L (pc + 1) st k n) : qZ g p l e R s m args below meth c Q nL S L pc (.int (qI v) :: .int (qI x) :: .ref (qad g q) :: st) k n := fun H locs ls hP hS hl => va_zast C.1 C.2.1 C.2.2.2.2.2.1.1 hP (qW_D C.2.2.2.2.2.2.1) hS q 1 (f := qia (S q)) (n := 2) (by rw [qW_get (qk_lt (by rw [hq]; decide)), qc7 hq]) rfl (qI_in h (by decide)) d (fun H1 locs1 hP1 _ hS1 => kk H1 locs1 ls (by rw [q2_up, ← qW_set (qk_lt (by rw [hq]; decide)), qc7 hq]; rw [qnar_z hv, qia_up (by omega)] at hP1; exact hP1) hS1 hl)
theorem qla_up {d : Nat → Int} {x v : Int} (h : 0 ≤ x ∧ x < 2147483648) : vp_updL (qla d) (qI x).toNatClampNeg (qL v) = qla (fun i => if i = x.toNat then v else d i) := by
  funext j
  unfold vp_updL qla
  rw [qI_nat h.1 h.2]
  by_cases hj : j = x.toNat
  · rw [if_pos hj]; show qL v = qL (if j = x.toNat then v else d j); rw [if_pos hj]
  · rw [if_neg hj]; show qL (d j) = qL (if j = x.toNat then v else d j); rw [if_neg hj]
theorem z_lald {q : Nat} {x : Int} (C : qC g p l s m args meth c own cc nL) (hq : qk q = 8) (h : 0 ≤ x ∧ x < 1) (d : decode cc pc = .ok (.laload, 1)) (kk : qZ g p l e R s m args below meth c Q nL S L (pc + 1) (.long (qL (S q x.toNat)) :: st) k n) : qZ g p l e R s m args below meth c Q nL S L pc (.int (qI x) :: .ref (qad g q) :: st) k n := fun H locs ls hP hS hl => va_lald C.1 C.2.1 C.2.2.2.2.2.1.1 hP q 2 (f := qla (S q)) (n := 1) (by rw [qW_get (qk_lt (by rw [hq]; decide)), qc8 hq]) rfl (qI_in h (by decide)) d (by show W _ _ _ _ _ _ _ _ _ _ _ _ _ _ _ (F0 _ _ _ (.long (qL (S q (qI x).toNatClampNeg)) :: _)); rw [qI_nat h.1 (by omega)]; exact (kk H locs ls hP hS hl))
theorem z_last {q : Nat} {x v : Int} (C : qC g p l s m args meth c own cc nL) (hq : qk q = 8) (h : 0 ≤ x ∧ x < 1) (d : decode cc pc = .ok (.lastore, 1)) (kk : qZ g p l e R s m args below meth c Q nL (q2 S q x.toNat v) L (pc + 1) st k n) : qZ g p l e R s m args below meth c Q nL S L pc (.long (qL v) :: .int (qI x) :: .ref (qad g q) :: st) k n := fun H locs ls hP hS hl => va_last C.1 C.2.1 C.2.2.2.2.2.1.1 hP (qW_D C.2.2.2.2.2.2.1) hS q 2 (f := qla (S q)) (n := 1) (by rw [qW_get (qk_lt (by rw [hq]; decide)), qc8 hq]) rfl (qI_in h (by decide)) d (fun H1 locs1 hP1 _ hS1 => kk H1 locs1 ls (by rw [q2_up, ← qW_set (qk_lt (by rw [hq]; decide)), qc8 hq]; rw [qla_up (by omega)] at hP1; exact hP1) hS1 hl)
theorem z_alen {q N : Nat} (C : qC g p l s m args meth c own cc nL) (hq : qk q = N + 10) (d : decode cc pc = .ok (.arraylength, 1)) (kk : qZ g p l e R s m args below meth c Q nL S L (pc + 1) (.int (qI (N : Int)) :: st) k n) : qZ g p l e R s m args below meth c Q nL S L pc (.ref (qad g q) :: st) k n := fun H locs ls hP hS hl => va_alen C.1 C.2.1 C.2.2.2.2.2.1.1 hP q 0 (by rw [qW_get (qk_lt (by rw [hq]; omega)), qcA hq]; rfl) rfl (v := qI (N : Int)) (by show Int32.ofNat N = Int32.ofInt (N : Int); exact Int32.ofInt_eq_ofNat.symm) d (kk H locs ls hP hS hl)
theorem z_ast {q : Nat} {x : Int} (C : qC g p l s m args meth c own cc nL) (hq : qk q = 5) (h : 0 ≤ x ∧ x < 14) (d : decode cc pc = .ok (.aaload, 1)) (kk : qZ g p l e R s m args below meth c Q nL S L (pc + 1) (.ref (qad g (30 + 5 * x.toNat)) :: st) k n) : qZ g p l e R s m args below meth c Q nL S L pc (.int (qI x) :: .ref (qad g q) :: st) k n := fun H locs ls hP hS hl => va_aldq C.1 C.2.1 C.2.2.2.2.2.1.1 hP q 3 (f := qst g) (n := 14) (by rw [qW_get (qk_lt (by rw [hq]; decide)), qc5 hq]) rfl (qI_in h (by decide)) d (by show W _ _ _ _ _ _ _ _ _ _ _ _ _ _ _ (F0 _ _ _ (.ref (qad g (30 + 5 * (qI x).toNatClampNeg)) :: _)); rw [qI_nat h.1 (by omega)]; exact (kk H locs ls hP hS hl))
theorem z_asl {q : Nat} {x : Int} (C : qC g p l s m args meth c own cc nL) (hq : qk q = 6) (h : 0 ≤ x ∧ x < 2) (d : decode cc pc = .ok (.aaload, 1)) (kk : qZ g p l e R s m args below meth c Q nL S L (pc + 1) (.ref (qad g (100 + 5 * x.toNat)) :: st) k n) : qZ g p l e R s m args below meth c Q nL S L pc (.int (qI x) :: .ref (qad g q) :: st) k n := fun H locs ls hP hS hl => va_aldq C.1 C.2.1 C.2.2.2.2.2.1.1 hP q 3 (f := qsl g) (n := 2) (by rw [qW_get (qk_lt (by rw [hq]; decide)), qc6 hq]) rfl (qI_in h (by decide)) d (by show W _ _ _ _ _ _ _ _ _ _ _ _ _ _ _ (F0 _ _ _ (.ref (qad g (100 + 5 * (qI x).toNatClampNeg)) :: _)); rw [qI_nat h.1 (by omega)]; exact (kk H locs ls hP hS hl))
theorem z_gs0 {i : Nat} (C : qC g p l s m args meth c own cc nL) (hw : Cond.fieldLink own i "AxleScale" "FIRST_SETTINGS" "[I" ∈ qAW) (d : decode cc pc = .ok (.getstatic i, 3)) (kk : qZ g p l e R s m args below meth c Q nL S L (pc + 3) (.ref (qt g 0) :: st) k n) : qZ g p l e R s m args below meth c Q nL S L pc st k n := fun H locs ls hP hS hl => va_gets C.1 C.2.1 C.2.2.2.2.2.1.2.2.2.1.1 hS C.2.2.2.1 (C.2.2.2.2.1 _ hw) (fun x h => h) d (kk H locs ls hP hS hl)
def qF0i (j : Nat) : Int := ([4, 6, 15, 40] : List Int).getD j 0
theorem qF0_eq : ∀ j, j < 4 → qF0 j = .int (qI (qF0i j)) := by decide
theorem z_ti0 {x : Int} (C : qC g p l s m args meth c own cc nL) (h : 0 ≤ x ∧ x < 4) (d : decode cc pc = .ok (.iaload, 1)) (kk : qZ g p l e R s m args below meth c Q nL S L (pc + 1) (.int (qI (qF0i x.toNat)) :: st) k n) : qZ g p l e R s m args below meth c Q nL S L pc (.int (qI x) :: .ref (qt g 0) :: st) k n := fun H locs ls hP hS hl => va_ti C.1 C.2.1 C.2.2.2.2.2.1.2.2.2.2.1.1 hS (qI_in h (by decide)) (v := .int (qI (qF0i x.toNat))) (by rw [qI_nat h.1 (by omega)]; exact qF0_eq _ (by omega)) d (kk H locs ls hP hS hl)
theorem z_gs1 {i : Nat} (C : qC g p l s m args meth c own cc nL) (hw : Cond.fieldLink own i "AxleScale" "LEAST_SETTINGS" "[I" ∈ qAW) (d : decode cc pc = .ok (.getstatic i, 3)) (kk : qZ g p l e R s m args below meth c Q nL S L (pc + 3) (.ref (qt g 1) :: st) k n) : qZ g p l e R s m args below meth c Q nL S L pc st k n := fun H locs ls hP hS hl => va_gets C.1 C.2.1 C.2.2.2.2.2.1.2.2.2.1.2.1 hS C.2.2.2.1 (C.2.2.2.2.1 _ hw) (fun x h => h) d (kk H locs ls hP hS hl)
def qF1i (j : Nat) : Int := ([1, 1, 0, 2] : List Int).getD j 0
theorem qF1_eq : ∀ j, j < 4 → qF1 j = .int (qI (qF1i j)) := by decide
theorem z_ti1 {x : Int} (C : qC g p l s m args meth c own cc nL) (h : 0 ≤ x ∧ x < 4) (d : decode cc pc = .ok (.iaload, 1)) (kk : qZ g p l e R s m args below meth c Q nL S L (pc + 1) (.int (qI (qF1i x.toNat)) :: st) k n) : qZ g p l e R s m args below meth c Q nL S L pc (.int (qI x) :: .ref (qt g 1) :: st) k n := fun H locs ls hP hS hl => va_ti C.1 C.2.1 C.2.2.2.2.2.1.2.2.2.2.1.2.1 hS (qI_in h (by decide)) (v := .int (qI (qF1i x.toNat))) (by rw [qI_nat h.1 (by omega)]; exact qF1_eq _ (by omega)) d (kk H locs ls hP hS hl)
theorem z_gs2 {i : Nat} (C : qC g p l s m args meth c own cc nL) (hw : Cond.fieldLink own i "AxleScale" "MOST_SETTINGS" "[I" ∈ qAW) (d : decode cc pc = .ok (.getstatic i, 3)) (kk : qZ g p l e R s m args below meth c Q nL S L (pc + 3) (.ref (qt g 2) :: st) k n) : qZ g p l e R s m args below meth c Q nL S L pc st k n := fun H locs ls hP hS hl => va_gets C.1 C.2.1 C.2.2.2.2.2.1.2.2.2.1.2.2 hS C.2.2.2.1 (C.2.2.2.2.1 _ hw) (fun x h => h) d (kk H locs ls hP hS hl)
def qF2i (j : Nat) : Int := ([20, 40, 60, 60] : List Int).getD j 0
theorem qF2_eq : ∀ j, j < 4 → qF2 j = .int (qI (qF2i j)) := by decide
theorem z_ti2 {x : Int} (C : qC g p l s m args meth c own cc nL) (h : 0 ≤ x ∧ x < 4) (d : decode cc pc = .ok (.iaload, 1)) (kk : qZ g p l e R s m args below meth c Q nL S L (pc + 1) (.int (qI (qF2i x.toNat)) :: st) k n) : qZ g p l e R s m args below meth c Q nL S L pc (.int (qI x) :: .ref (qt g 2) :: st) k n := fun H locs ls hP hS hl => va_ti C.1 C.2.1 C.2.2.2.2.2.1.2.2.2.2.1.2.2 hS (qI_in h (by decide)) (v := .int (qI (qF2i x.toNat))) (by rw [qI_nat h.1 (by omega)]; exact qF2_eq _ (by omega)) d (kk H locs ls hP hS hl)
theorem z_tl0 (C : qC g p l s m args meth c own cc nL) (d : decode cc pc = .ok (.arraylength, 1)) (kk : qZ g p l e R s m args below meth c Q nL S L (pc + 1) (.int (qI 4) :: st) k n) : qZ g p l e R s m args below meth c Q nL S L pc (.ref (qt g 0) :: st) k n := fun H locs ls hP hS hl => va_tlen C.1 C.2.1 C.2.2.2.2.2.1.2.2.2.2.1.1 hS (v := qI 4) rfl d (kk H locs ls hP hS hl)
theorem z_tl1 (C : qC g p l s m args meth c own cc nL) (d : decode cc pc = .ok (.arraylength, 1)) (kk : qZ g p l e R s m args below meth c Q nL S L (pc + 1) (.int (qI 4) :: st) k n) : qZ g p l e R s m args below meth c Q nL S L pc (.ref (qt g 1) :: st) k n := fun H locs ls hP hS hl => va_tlen C.1 C.2.1 C.2.2.2.2.2.1.2.2.2.2.1.2.1 hS (v := qI 4) rfl d (kk H locs ls hP hS hl)
theorem z_tl2 (C : qC g p l s m args meth c own cc nL) (d : decode cc pc = .ok (.arraylength, 1)) (kk : qZ g p l e R s m args below meth c Q nL S L (pc + 1) (.int (qI 4) :: st) k n) : qZ g p l e R s m args below meth c Q nL S L pc (.ref (qt g 2) :: st) k n := fun H locs ls hP hS hl => va_tlen C.1 C.2.1 C.2.2.2.2.2.1.2.2.2.2.1.2.2 hS (v := qI 4) rfl d (kk H locs ls hP hS hl)
end QZB
end
section
section QZC
variable {g : qG} {p : Program} {l : Launch} {e : Env} {R : Room} {s : State} {m : MethodId} {args : Array Value} {below : List Frame} {meth : Method} {c : Code} {Q : State → Prop} {nL : Nat} {S : qS} {L L' : List (Nat × Value)} {pc : Nat} {st : List Value} {k n : Nat} {own : String} {cc : ByteArray}
/-- a thrown exception of class E lies over this frame -/
def qY (g : qG) (p : Program) (l : Launch) (e : Env) (R : Room) (s : State) (m : MethodId) (args : Array Value) (below : List Frame) (meth : Method) (c : Code) (Q : State → Prop) (nL : Nat) (S : qS) (L : List (Nat × Value)) (pc : Nat) (st : List Value) (k n : Nat) (E : String) : Prop :=
  ∀ (H : Heap) (locs : List Loc) (ls : Array Slot) (ce : Cell) (q9 : Nat), va_P (qD g) qcls (qW g S) H → va_S (qA g) s.heap H locs → lv_has ls nL L → H[q9]? = some ce → ce.vm = .none → s.vm.findClass E = some ce.cls → vx_W p l e R s m args below meth c H locs k n Q (F0 m pc ls st) q9
theorem qGood {ws : List Cond} (h : ∀ w ∈ ws, w ∈ qAW) : GoodIn qAW ws := fun w hw => ⟨h w hw, good_of_word (List.mem_filter.mp (h w hw)).2⟩
theorem qCF (C : qC g p l s m args meth c own cc nL) : CallFix p m c cc nL s args qAW own := ⟨C.1, C.2.1, C.2.2.1, C.2.2.2.1, C.2.2.2.2.1⟩
theorem z_run {st0 : List Value} {kv : Int → Option Value} {o : qO} {S' : qS} {a9 : Array Value} {rm : Room}
    (hr : ∀ (H : Heap) (locs : List Loc) (ls : Array Slot), va_P (qD g) qcls (qW g S) H → va_S (qA g) s.heap H locs → lv_has ls nL L → vx_Run p l e R s m args below meth c H locs k n rm.cells rm.slots (F0 m pc ls st0) st (qQc g kv o S' a9) (qXc g o S') (qA g))
    (kx : ∀ E, o = .inl E → qY g p l e R s m args below meth c Q nL S' L pc st (k + rm.cells) (n + rm.slots) E)
    (kr : ∀ r, o = .inr r → qZ g p l e R s m args below meth c Q nL S' L (pc + 3) ((kv r).toList ++ st) (k + rm.cells) (n + rm.slots)) : qZ g p l e R s m args below meth c Q nL S L pc st0 k n := by
  intro H locs ls hP hS hl T hT X
  rcases hr H locs ls hP hS hl T hT X with ⟨v, st₀, t, T', L9, h0, X', hL, e1, e2, ⟨r, ho, hv, hP1, hF⟩, stp⟩ | ⟨q, st₀, t, T', L9, E, ce, h0, X', hL, e1, e2, ⟨ho, hP1, hF⟩, hce, hcv, hcl, stp⟩
  · obtain ⟨-, -, k3⟩ := vx_keep h0 e1 hS (fun q _ h => h) (fun q h => h) hL hF
    cases hv
    obtain ⟨t2, a1, b1⟩ := kr r ho T'.heap (locs ++ L9) ls (by rw [e1]; exact hP1) k3 hl T' rfl X'
    exact ⟨t2, stp t2 a1, b1⟩
  · obtain ⟨-, -, k3⟩ := vx_keep h0 e1 hS (fun q _ h => h) (fun q h => h) hL hF
    obtain ⟨t2, a1, b1⟩ := kx E ho T'.heap (locs ++ L9) ls ce q (by rw [e1]; exact hP1) k3 hl (by rw [e1]; exact hce) hcv hcl T' rfl X'
    exact ⟨t2, stp.trans a1, b1⟩
/-- not caught here: the method throws it -/
theorem z_thr {kv : Int → Option Value} {o : qO} {S' : qS} {rm : Room} {E : String} (C : qC g p l s m args meth c own cc nL) (hT : ∀ x ∈ c.exceptionTable.toList, False) (hk : k ≤ rm.cells) (hn : n ≤ rm.slots) (hm : some ((Sum.inl E : qO), S) = some (o, S')) :
    qY g p l e R s m args below meth c (qQ g below kv o S' args s rm) nL S L pc st k n E := by
  intro H locs ls ce q9 hP hS hl hce hcv hcl
  cases hm
  exact vx_out (fun x hx => (hT x hx).elim) C.2.2.2.2.2.2.2.1 hce hcv hcl (fun t ht _ => ⟨rfl, by rw [ht]; exact hP, hS.F ht⟩) hS.2.2 hk hn
theorem z_iret {o : qO} {S' : qS} {rm : Room} {x : Int} (C : qC g p l s m args meth c own cc nL) (hr : meth.sig.returnType = some .int) (hk : k ≤ rm.cells) (hn : n ≤ rm.slots) (hm : some ((Sum.inr x : qO), S) = some (o, S')) (d : decode cc pc = .ok (.ireturn, 1)) :
    qZ g p l e R s m args below meth c (qQ g below qkI o S' args s rm) nL S L pc [.int (qI x)] k n := by
  intro H locs ls hP hS hl
  cases hm
  exact vx_ret (W.widen (k := rm.cells) (n := rm.slots) hk hn (W.iret C.1 C.2.1 hr (fun t ht hW => ⟨x, rfl, rfl, by rw [ht]; exact hP, hS.F ht⟩) hS.2.2 d (hlocks := C.2.2.2.2.2.2.2.1)))
theorem z_zret {o : qO} {S' : qS} {rm : Room} {x : Int} (C : qC g p l s m args meth c own cc nL) (hr : meth.sig.returnType = some .boolean) (h01 : x = 0 ∨ x = 1) (hk : k ≤ rm.cells) (hn : n ≤ rm.slots) (hm : some ((Sum.inr x : qO), S) = some (o, S')) (d : decode cc pc = .ok (.ireturn, 1)) :
    qZ g p l e R s m args below meth c (qQ g below qkI o S' args s rm) nL S L pc [.int (qI x)] k n := by
  intro H locs ls hP hS hl
  cases hm
  exact vx_ret (W.widen (k := rm.cells) (n := rm.slots) hk hn (W.zret C.1 C.2.1 hr (by rcases h01 with rfl | rfl <;> rfl) (fun t ht hW => ⟨x, rfl, rfl, by rw [ht]; exact hP, hS.F ht⟩) hS.2.2 d (hlocks := C.2.2.2.2.2.2.2.1)))
theorem z_lret {o : qO} {S' : qS} {rm : Room} {x : Int} (C : qC g p l s m args meth c own cc nL) (hr : meth.sig.returnType = some .long) (hk : k ≤ rm.cells) (hn : n ≤ rm.slots) (hm : some ((Sum.inr x : qO), S) = some (o, S')) (d : decode cc pc = .ok (.lreturn, 1)) :
    qZ g p l e R s m args below meth c (qQ g below qkL o S' args s rm) nL S L pc [.long (qL x)] k n := by
  intro H locs ls hP hS hl
  cases hm
  exact vx_ret (W.widen (k := rm.cells) (n := rm.slots) hk hn (W.lret C.1 C.2.1 hr (fun t ht hW => ⟨x, rfl, rfl, by rw [ht]; exact hP, hS.F ht⟩) hS.2.2 d (hlocks := C.2.2.2.2.2.2.2.1)))
theorem z_vret {o : qO} {S' : qS} {rm : Room} (C : qC g p l s m args meth c own cc nL) (hr : meth.sig.returnType = none) (hk : k ≤ rm.cells) (hn : n ≤ rm.slots) (hm : some ((Sum.inr 0 : qO), S) = some (o, S')) (d : decode cc pc = .ok (.return_, 1)) :
    qZ g p l e R s m args below meth c (qQ g below qkV o S' args s rm) nL S L pc [] k n := by
  intro H locs ls hP hS hl
  cases hm
  exact vx_ret (W.widen (k := rm.cells) (n := rm.slots) hk hn (W.vret C.1 C.2.1 hr (fun t ht hW => ⟨0, rfl, rfl, by rw [ht]; exact hP, hS.F ht⟩) hS.2.2 d (hlocks := C.2.2.2.2.2.2.2.1)))
theorem qPre {av : List Value} {H : Heap} {locs : List Loc} (C : qC g p l s m args meth c own cc nL) (hP : va_P (qD g) qcls (qW g S) H) (hS : va_S (qA g) s.heap H locs) : ∀ U : State, U.heap = H → s.WarmedH U.vm → qPc g av S av.toArray U :=
  fun U hU hW => ⟨rfl, by rw [hU]; exact hP, qAmb_warm hU hW hS C.2.2.2.2.2.1⟩
theorem z_callV {st0 : List Value} {y : MethodName} {Cn : String} {bytes : ByteArray} {maxL ci i n9 q N : Nat} {ret : Option FieldType} {rm : Room} {kv : Int → Option Value} {As fs : List Value} {T : u_T} {S' : qS} {o : qO} (C : qC g p l s m args meth c own cc nL)
    (hM : qM l g y (.code y bytes maxL ret) rm kv (.ref (qad g q) :: As) S o S') (hst : st0 = As.reverse ++ .ref (qad g q) :: st) (hq : q < 128) (hcell : qcell g q (S q) = .inr (ci, fs)) (hc : qcls[ci]? = some (Cn, T, N)) (hw : ∀ w ∈ wsV own i Cn y [.code y bytes maxL ret], w ∈ qAW)
    (hd : y.cls = Cn ∧ y.cls ≠ "java/lang/invoke/MethodHandle" ∧ y.cls ≠ "java/lang/invoke/VarHandle" ∧ (parseMethodDescriptor y.desc).map (fun d => d.parameters.length) = some n9) (hn : As.length = n9)
    (hR : rm.frames + 1 ≤ R.frames ∧ 8 + (maxL + 11) + rm.locals ≤ R.locals) (hcs : k + rm.cells ≤ R.cells ∧ n + rm.slots ≤ R.slots) (hcat : (st.map fun v => v.category).sum ≤ 8) (d : decode cc pc = .ok (.invokevirtual i, 3))
    (kx : ∀ E, o = .inl E → qY g p l e R s m args below meth c Q nL S' L pc st (k + rm.cells) (n + rm.slots) E) (kr : ∀ r, o = .inr r → qZ g p l e R s m args below meth c Q nL S' L (pc + 3) ((kv r).toList ++ st) (k + rm.cells) (n + rm.slots)) : qZ g p l e R s m args below meth c Q nL S L pc st0 k n := by
  refine z_run (a9 := (Value.ref (qad g q) :: As).toArray) (fun H locs ls hP hS hl => ?_) kx kr
  exact vx_runV (qCF C) hM (cwV n9 C.2.2.2.2.1 (qGood (ws := wsV own i Cn y (.code y bytes maxL ret :: qAW)) (fun w h => by
      rcases List.mem_append.mp h with h | h
      · exact hw w (List.mem_append_left _ h)
      · rcases List.mem_cons.mp h with rfl | h
        · exact hw _ (List.mem_append_right _ List.mem_cons_self)
        · exact h)) rfl rfl rfl hd hR) ⟨qPc_blind, va_recv C.2.2.2.2.2.1.1 hP (q0 := q) hc (by rw [qW_get hq, hcell]), qPre C hP hS⟩ rfl hn hl.1 hst (lv_room hcat) d hcs
theorem z_callS {st0 : List Value} {y : MethodName} {bytes : ByteArray} {maxL i n9 : Nat} {ret : Option FieldType} {rm : Room} {kv : Int → Option Value} {As : List Value} {S' : qS} {o : qO} (C : qC g p l s m args meth c own cc nL)
    (hM : qM l g y (.code y bytes maxL ret) rm kv As S o S') (hst : st0 = As.reverse ++ st) (hw : ∀ w ∈ va_wsS own i y [.code y bytes maxL ret], w ∈ qAW)
    (hd : y.cls ≠ "java/lang/invoke/MethodHandle" ∧ y.cls ≠ "java/lang/invoke/VarHandle" ∧ (parseMethodDescriptor y.desc).map (fun d => d.parameters.length) = some n9) (hn : As.length = n9)
    (hR : rm.frames + 1 ≤ R.frames ∧ 8 + (maxL + 11) + rm.locals ≤ R.locals) (hcs : k + rm.cells ≤ R.cells ∧ n + rm.slots ≤ R.slots) (hcat : (st.map fun v => v.category).sum ≤ 8) (d : decode cc pc = .ok (.invokestatic i, 3))
    (kx : ∀ E, o = .inl E → qY g p l e R s m args below meth c Q nL S' L pc st (k + rm.cells) (n + rm.slots) E) (kr : ∀ r, o = .inr r → qZ g p l e R s m args below meth c Q nL S' L (pc + 3) ((kv r).toList ++ st) (k + rm.cells) (n + rm.slots)) : qZ g p l e R s m args below meth c Q nL S L pc st0 k n := by
  refine z_run (a9 := As.toArray) (fun H locs ls hP hS hl => ?_) kx kr
  exact vx_runS (qCF C) hM (va_cwS n9 C.2.2.2.2.1 (qGood (ws := va_wsS own i y (.code y bytes maxL ret :: qAW)) (fun w h => by
      rcases List.mem_append.mp h with h | h
      · exact hw w (List.mem_append_left _ h)
      · rcases List.mem_cons.mp h with rfl | h
        · exact hw _ (List.mem_append_right _ List.mem_cons_self)
        · exact h)) rfl rfl rfl hd hR) ⟨qPc_blind, qPre C hP hS⟩ rfl hn hl.1 hst (lv_room hcat) d hcs
theorem z_callSN {st0 : List Value} {y : MethodName} {host : String} {bytes : ByteArray} {maxL i n9 : Nat} {ret : Option FieldType} {rm : Room} {kv : Int → Option Value} {As : List Value} {S' : qS} {o : qO} (C : qC g p l s m args meth c own cc nL)
    (hM : qM l g y (.code y bytes maxL ret) rm kv As S o S') (hst : st0 = As.reverse ++ st) (hw : ∀ w ∈ ([.static y, .initialized y.cls, .code y bytes maxL ret] : List Cond), w ∈ qAW) (hwn : Cond.methodLinkNest own i y host ∈ qNW)
    (hd : y.cls ≠ "java/lang/invoke/MethodHandle" ∧ y.cls ≠ "java/lang/invoke/VarHandle" ∧ (parseMethodDescriptor y.desc).map (fun d => d.parameters.length) = some n9) (hn : As.length = n9)
    (hR : rm.frames + 1 ≤ R.frames ∧ 8 + (maxL + 11) + rm.locals ≤ R.locals) (hcs : k + rm.cells ≤ R.cells ∧ n + rm.slots ≤ R.slots) (hcat : (st.map fun v => v.category).sum ≤ 8) (d : decode cc pc = .ok (.invokestatic i, 3))
    (kx : ∀ E, o = .inl E → qY g p l e R s m args below meth c Q nL S' L pc st (k + rm.cells) (n + rm.slots) E) (kr : ∀ r, o = .inr r → qZ g p l e R s m args below meth c Q nL S' L (pc + 3) ((kv r).toList ++ st) (k + rm.cells) (n + rm.slots)) : qZ g p l e R s m args below meth c Q nL S L pc st0 k n := by
  refine z_run (a9 := As.toArray) (fun H locs ls hP hS hl => ?_) kx kr
  exact vx_runSN (qCF C) hM ⟨va_cnB n9 C.2.2.2.2.1 (qGood (ws := .code y bytes maxL ret :: qAW) (fun w h => by
      rcases List.mem_cons.mp h with rfl | h
      · exact hw _ (List.mem_cons_of_mem _ (List.mem_cons_of_mem _ List.mem_cons_self))
      · exact h)) rfl rfl rfl (C.2.2.2.2.2.1.2.2.1 _ hwn) (C.2.2.2.2.1 _ (hw _ (List.mem_cons_of_mem _ List.mem_cons_self))) hd hR, C.2.2.2.2.1 _ (hw _ List.mem_cons_self), trivial⟩ ⟨qPc_blind, qPre C hP hS⟩ rfl hn hl.1 hst (lv_room hcat) d hcs
/-- throw new E("text") -/
theorem qXw {ic : Nat} {cls : String} {names : List String} (C : qC g p l s m args meth c own cc nL) (hww : ∀ w ∈ vx_atS own ic cls names, w ∈ qAW ∨ w ∈ qNW) : (∀ w ∈ vx_atS own ic cls names, w.before args s = true) ∧ ∀ w ∈ vx_atS own ic cls names, vx_ot w = true := by
  refine ⟨fun w hw => ?_, fun w hw => ?_⟩
  · rcases hww w hw with h | h
    · exact C.2.2.2.2.1 w h
    · exact va_Nw.use (qNw_ot (List.mem_filter.mp h).2) (C.2.2.2.2.2.1.2.2.1 w h)
  · unfold vx_ot
    rcases hww w hw with h | h
    · rw [(List.mem_filter.mp h).2, Bool.or_true]
    · rw [qNw_ot (List.mem_filter.mp h).2, Bool.true_or]
theorem qAW_ot {w : Cond} (h : w ∈ qAW) : vx_ot w = true := by unfold vx_ot; rw [(List.mem_filter.mp h).2, Bool.or_true]
theorem z_throwS {kv : Int → Option Value} {o : qO} {S' : qS} {rm : Room} {ik is ic : Nat} {cls text : String} {names : List String} (C : qC g p l s m args meth c RX3 cc nL) (hT : ∀ x ∈ c.exceptionTable.toList, False)
    (hww : ∀ w ∈ vx_atS RX3 ic cls names, w ∈ qAW ∨ w ∈ qNW) (hk9 : Cond.classLink RX3 ik cls ∈ qAW) (hini : Cond.initialized cls ∈ qAW) (hstr : (is, text) ∈ qStr) (hcls : Bundle.fit cls = true) (hnames : ∀ n ∈ names, Bundle.fit n = true)
    (hR : names.length + 3 < R.frames ∧ (st.map fun v => v.category).sum + (13 * (names.length + 1) + 43) ≤ R.locals) (hcs : k + 1 ≤ R.cells ∧ n + 6 ≤ R.slots) (hk : k + 1 ≤ rm.cells) (hn : n + 6 ≤ rm.slots) (hm : some ((Sum.inl cls : qO), S) = some (o, S'))
    (d0 : decode cc pc = .ok (.new ik, 3)) (d3 : decode cc (pc + 3) = .ok (.dup, 1)) (d4 : decode cc (pc + 4) = .ok (.ldc is, 2)) (d6 : decode cc (pc + 6) = .ok (.invokespecial ic, 3)) (d9 : decode cc (pc + 9) = .ok (.athrow, 1)) :
    qZ g p l e R s m args below meth c (qQ g below kv o S' args s rm) nL S L pc st k n := by
  intro H locs ls hP hS hl
  cases hm
  have hX := qXw C hww
  refine vx_throwS C.1 C.2.1 C.2.2.2.2.2.2.2.2 C.2.2.2.1 hcls hnames (C.2.2.2.2.1 _ hk9) (C.2.2.2.2.1 _ hini) (C.2.2.2.2.2.1.2.2.2.2.2.2.1 _ hstr) hX.1 (fun w hw => ?_) C.2.2.2.2.2.1.2.2.2.2.2.1.1 C.2.2.2.2.2.1.2.2.2.2.2.1.2 hS (hl.1.trans C.2.2.1.symm) d0 d3 d4 d6 d9 (fun x hx => (hT x hx).elim) hR.1 hR.2 hcs.1 hcs.2 C.2.2.2.2.2.2.2.1 (fun t _ h1 h2 => ⟨rfl, hP.kept (fun k q hk => h2 q.1 (hP k q hk).lt), Nat.le_trans hS.1 h1, fun q h3 h4 => (h2 q (Nat.lt_of_lt_of_le h3 hS.1)).trans (hS.2.1 q h3 h4)⟩) hS.2.2 hk hn
  rcases List.mem_cons.mp hw with rfl | hw
  · exact qAW_ot hk9
  · rcases List.mem_cons.mp hw with rfl | hw
    · exact qAW_ot hini
    · exact hX.2 w hw
theorem z_throwSW {kv : Int → Option Value} {o : qO} {S' : qS} {rm : Room} {ik is ic : Nat} {cls text : String} {names : List String} (C : qC g p l s m args meth c RX3 cc nL) (hT : ∀ x ∈ c.exceptionTable.toList, False)
    (hww : ∀ w ∈ vx_atS RX3 ic cls names, w ∈ qAW ∨ w ∈ qNW) (hk9 : Cond.classLink RX3 ik cls ∈ qAW) (hini : Cond.initialized cls ∈ qAW) (hstr : (is, text) ∈ qStr) (hcls : Bundle.fit cls = true) (hnames : ∀ n ∈ names, Bundle.fit n = true)
    (hR : names.length + 3 < R.frames ∧ (st.map fun v => v.category).sum + (13 * (names.length + 1) + 43) ≤ R.locals) (hcs : k + 1 ≤ R.cells ∧ n + 6 ≤ R.slots) (hk : k + 1 ≤ rm.cells) (hn : n + 6 ≤ rm.slots) (hm : some ((Sum.inl cls : qO), S) = some (o, S'))
    (d0 : decode cc pc = .ok (.new ik, 3)) (d3 : decode cc (pc + 3) = .ok (.dup, 1)) (d4 : decode cc (pc + 4) = .ok (.ldc_w is, 3)) (d7 : decode cc (pc + 7) = .ok (.invokespecial ic, 3)) (d10 : decode cc (pc + 10) = .ok (.athrow, 1)) :
    qZ g p l e R s m args below meth c (qQ g below kv o S' args s rm) nL S L pc st k n := by
  intro H locs ls hP hS hl
  cases hm
  have hX := qXw C hww
  refine vx_throwSW C.1 C.2.1 C.2.2.2.2.2.2.2.2 C.2.2.2.1 hcls hnames (C.2.2.2.2.1 _ hk9) (C.2.2.2.2.1 _ hini) (C.2.2.2.2.2.1.2.2.2.2.2.2.1 _ hstr) hX.1 (fun w hw => ?_) C.2.2.2.2.2.1.2.2.2.2.2.1.1 C.2.2.2.2.2.1.2.2.2.2.2.1.2 hS (hl.1.trans C.2.2.1.symm) d0 d3 d4 d7 d10 (fun x hx => (hT x hx).elim) hR.1 hR.2 hcs.1 hcs.2 C.2.2.2.2.2.2.2.1 (fun t _ h1 h2 => ⟨rfl, hP.kept (fun k q hk => h2 q.1 (hP k q hk).lt), Nat.le_trans hS.1 h1, fun q h3 h4 => (h2 q (Nat.lt_of_lt_of_le h3 hS.1)).trans (hS.2.1 q h3 h4)⟩) hS.2.2 hk hn
  rcases List.mem_cons.mp hw with rfl | hw
  · exact qAW_ot hk9
  · rcases List.mem_cons.mp hw with rfl | hw
    · exact qAW_ot hini
    · exact hX.2 w hw
/-! Math's own -/
def qmax (x y : Int) : Int := if x < y then y else x
def qmin (x y : Int) : Int := if y < x then y else x
def qabs (x : Int) : Int := if 0 ≤ x then x else 0 - x
theorem z_mmax {i : Nat} {x y : Int} (C : qC g p l s m args meth c own cc nL) (hw : ∀ w ∈ ([.methodLink own i Lib.Math.max.name, .static Lib.Math.max.name, .initialized "java/lang/Math", .code Lib.Math.max.name Lib.Math.max.code 2 (some .int)] : List Cond), w ∈ qAW) (hR : 1 ≤ R.frames ∧ (st.map fun v => v.category).sum + 13 ≤ R.locals) (hcs : k ≤ R.cells ∧ n ≤ R.slots) (h : qR x ∧ qR y) (d : decode cc pc = .ok (.invokestatic i, 3)) (kk : qZ g p l e R s m args below meth c Q nL S L (pc + 3) (.int (qI (qmax x y)) :: st) k n) : qZ g p l e R s m args below meth c Q nL S L pc (.int (qI y) :: .int (qI x) :: st) k n := by
  intro H locs ls hP hS hl
  have f : ∀ w ∈ ([.methodLink own i Lib.Math.max.name, .static Lib.Math.max.name, .initialized "java/lang/Math", .code Lib.Math.max.name Lib.Math.max.code 2 (some .int)] : List Cond), w.before args s = true := fun w hw9 => C.2.2.2.2.1 w (hw w hw9)
  refine va_mmax C.1 C.2.1 (C.2.2.1.trans hl.1.symm) C.2.2.2.1 (f _ List.mem_cons_self) (f _ (List.mem_cons_of_mem _ List.mem_cons_self)) (f _ (List.mem_cons_of_mem _ (List.mem_cons_of_mem _ List.mem_cons_self))) (f _ (List.mem_cons_of_mem _ (List.mem_cons_of_mem _ (List.mem_cons_of_mem _ List.mem_cons_self)))) hR.1 hR.2 hcs.1 hcs.2 d ?_
  have e : (if qI x < qI y then qI y else qI x) = qI (qmax x y) := by
    unfold qmax
    by_cases hxy : x < y
    · rw [if_pos ((qI_lt h.1 h.2).mpr hxy), if_pos hxy]
    · rw [if_neg (fun z => hxy ((qI_lt h.1 h.2).mp z)), if_neg hxy]
  rw [e]
  exact kk H locs ls hP hS hl
theorem z_mmin {i : Nat} {x y : Int} (C : qC g p l s m args meth c own cc nL) (hw : ∀ w ∈ ([.methodLink own i Lib.Math.min.name, .static Lib.Math.min.name, .initialized "java/lang/Math", .code Lib.Math.min.name Lib.Math.min.code 2 (some .int)] : List Cond), w ∈ qAW) (hR : 1 ≤ R.frames ∧ (st.map fun v => v.category).sum + 13 ≤ R.locals) (hcs : k ≤ R.cells ∧ n ≤ R.slots) (h : qR x ∧ qR y) (d : decode cc pc = .ok (.invokestatic i, 3)) (kk : qZ g p l e R s m args below meth c Q nL S L (pc + 3) (.int (qI (qmin x y)) :: st) k n) : qZ g p l e R s m args below meth c Q nL S L pc (.int (qI y) :: .int (qI x) :: st) k n := by
  intro H locs ls hP hS hl
  have f : ∀ w ∈ ([.methodLink own i Lib.Math.min.name, .static Lib.Math.min.name, .initialized "java/lang/Math", .code Lib.Math.min.name Lib.Math.min.code 2 (some .int)] : List Cond), w.before args s = true := fun w hw9 => C.2.2.2.2.1 w (hw w hw9)
  refine va_mmin C.1 C.2.1 (C.2.2.1.trans hl.1.symm) C.2.2.2.1 (f _ List.mem_cons_self) (f _ (List.mem_cons_of_mem _ List.mem_cons_self)) (f _ (List.mem_cons_of_mem _ (List.mem_cons_of_mem _ List.mem_cons_self))) (f _ (List.mem_cons_of_mem _ (List.mem_cons_of_mem _ (List.mem_cons_of_mem _ List.mem_cons_self)))) hR.1 hR.2 hcs.1 hcs.2 d ?_
  have e : (if qI y < qI x then qI y else qI x) = qI (qmin x y) := by
    unfold qmin
    by_cases hxy : y < x
    · rw [if_pos ((qI_lt h.2 h.1).mpr hxy), if_pos hxy]
    · rw [if_neg (fun z => hxy ((qI_lt h.2 h.1).mp z)), if_neg hxy]
  rw [e]
  exact kk H locs ls hP hS hl
theorem z_mabs {i : Nat} {x : Int} (C : qC g p l s m args meth c own cc nL) (hw : ∀ w ∈ ([.methodLink own i Lib.Math.abs.name, .static Lib.Math.abs.name, .initialized "java/lang/Math", .code Lib.Math.abs.name Lib.Math.abs.code 1 (some .int)] : List Cond), w ∈ qAW) (hR : 1 ≤ R.frames ∧ (st.map fun v => v.category).sum + 13 ≤ R.locals) (hcs : k ≤ R.cells ∧ n ≤ R.slots) (h : qR x) (d : decode cc pc = .ok (.invokestatic i, 3)) (kk : qZ g p l e R s m args below meth c Q nL S L (pc + 3) (.int (qI (qabs x)) :: st) k n) : qZ g p l e R s m args below meth c Q nL S L pc (.int (qI x) :: st) k n := by
  intro H locs ls hP hS hl
  have f : ∀ w ∈ ([.methodLink own i Lib.Math.abs.name, .static Lib.Math.abs.name, .initialized "java/lang/Math", .code Lib.Math.abs.name Lib.Math.abs.code 1 (some .int)] : List Cond), w.before args s = true := fun w hw9 => C.2.2.2.2.1 w (hw w hw9)
  refine va_mabs C.1 C.2.1 (C.2.2.1.trans hl.1.symm) C.2.2.2.1 (f _ List.mem_cons_self) (f _ (List.mem_cons_of_mem _ List.mem_cons_self)) (f _ (List.mem_cons_of_mem _ (List.mem_cons_of_mem _ List.mem_cons_self))) (f _ (List.mem_cons_of_mem _ (List.mem_cons_of_mem _ (List.mem_cons_of_mem _ List.mem_cons_self)))) hR.1 hR.2 hcs.1 hcs.2 d ?_
  have e : (if 0 ≤ qI x then qI x else 0 - qI x) = qI (qabs x) := by
    unfold qabs
    by_cases hx : 0 ≤ x
    · rw [if_pos ((qI_ge0 h).mpr hx), if_pos hx]
    · rw [if_neg (fun z => hx ((qI_ge0 h).mp z)), if_neg hx, qI_neg]
  rw [e]
  exact kk H locs ls hP hS hl
end QZC
end
