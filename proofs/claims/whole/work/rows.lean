section
-- ===== PART A: goes FIRST, ahead of the names: the tables' words, and 'selects' of the private methods out of them =====
/-- a private method of a class that the tables say can be made, by its rows of tables_1 -/
def lw_okq (q : MethodName × Nat) : Prop := (q.1.cls ≠ "java/lang/invoke/MethodHandle" ∧ q.1.cls ≠ "java/lang/invoke/VarHandle") ∧ Cond.instantiable q.1.cls q.2 ∈ tables_1 ∧ Cond.privateMethod q.1 ∈ tables_1 ∧ Cond.instanceMethod q.1 ∈ tables_1
theorem lw_p0 : lw_okq (⟨"ValveRiver", "finding", "(I)I"⟩, 9) := ⟨⟨by decide +kernel, by decide +kernel⟩, List.mem_of_getElem? (i := 16) (by decide +kernel), List.mem_of_getElem? (i := 201) (by decide +kernel), List.mem_of_getElem? (i := 202) (by decide +kernel)⟩
theorem lw_p1 : lw_okq (⟨"ValveRiver", "noWatcher", "(I)Z"⟩, 9) := ⟨⟨by decide +kernel, by decide +kernel⟩, List.mem_of_getElem? (i := 16) (by decide +kernel), List.mem_of_getElem? (i := 253) (by decide +kernel), List.mem_of_getElem? (i := 254) (by decide +kernel)⟩
theorem lw_p2 : lw_okq (⟨"ValveRiver$Watcher", "millBears", "()I"⟩, 5) := ⟨⟨by decide +kernel, by decide +kernel⟩, List.mem_of_getElem? (i := 63) (by decide +kernel), List.mem_of_getElem? (i := 261) (by decide +kernel), List.mem_of_getElem? (i := 262) (by decide +kernel)⟩
theorem lw_p3 : lw_okq (⟨"ValveRiver$Valley", "liveAll", "()V"⟩, 5) := ⟨⟨by decide +kernel, by decide +kernel⟩, List.mem_of_getElem? (i := 24) (by decide +kernel), List.mem_of_getElem? (i := 310) (by decide +kernel), List.mem_of_getElem? (i := 311) (by decide +kernel)⟩
theorem lw_p4 : lw_okq (⟨"ValveRiver", "waterTried", "()LValveRiver$Water;"⟩, 9) := ⟨⟨by decide +kernel, by decide +kernel⟩, List.mem_of_getElem? (i := 16) (by decide +kernel), List.mem_of_getElem? (i := 362) (by decide +kernel), List.mem_of_getElem? (i := 363) (by decide +kernel)⟩
theorem lw_p5 : lw_okq (⟨"ValveRiver", "isEnough", "(II)Z"⟩, 9) := ⟨⟨by decide +kernel, by decide +kernel⟩, List.mem_of_getElem? (i := 16) (by decide +kernel), List.mem_of_getElem? (i := 413) (by decide +kernel), List.mem_of_getElem? (i := 414) (by decide +kernel)⟩
theorem lw_p6 : lw_okq (⟨"ValveRiver", "noTrial", "(II)Z"⟩, 9) := ⟨⟨by decide +kernel, by decide +kernel⟩, List.mem_of_getElem? (i := 16) (by decide +kernel), List.mem_of_getElem? (i := 454) (by decide +kernel), List.mem_of_getElem? (i := 455) (by decide +kernel)⟩
theorem lw_p7 : lw_okq (⟨"ValveRiver", "mostBelieving", "(III)I"⟩, 9) := ⟨⟨by decide +kernel, by decide +kernel⟩, List.mem_of_getElem? (i := 16) (by decide +kernel), List.mem_of_getElem? (i := 458) (by decide +kernel), List.mem_of_getElem? (i := 459) (by decide +kernel)⟩
theorem lw_p8 : lw_okq (⟨"ValveRiver", "stir", "(I)V"⟩, 9) := ⟨⟨by decide +kernel, by decide +kernel⟩, List.mem_of_getElem? (i := 16) (by decide +kernel), List.mem_of_getElem? (i := 474) (by decide +kernel), List.mem_of_getElem? (i := 475) (by decide +kernel)⟩
theorem lw_p9 : lw_okq (⟨"ValveRiver", "fittingTrouble", "(III)I"⟩, 9) := ⟨⟨by decide +kernel, by decide +kernel⟩, List.mem_of_getElem? (i := 16) (by decide +kernel), List.mem_of_getElem? (i := 483) (by decide +kernel), List.mem_of_getElem? (i := 484) (by decide +kernel)⟩
theorem lw_p10 : lw_okq (⟨"ValveRiver", "sheetTrouble", "(I)I"⟩, 9) := ⟨⟨by decide +kernel, by decide +kernel⟩, List.mem_of_getElem? (i := 16) (by decide +kernel), List.mem_of_getElem? (i := 487) (by decide +kernel), List.mem_of_getElem? (i := 488) (by decide +kernel)⟩
theorem lw_p11 : lw_okq (⟨"ValveRiver", "couldBeOpened", "(ILValveRiver$Sheet;II)Z"⟩, 9) := ⟨⟨by decide +kernel, by decide +kernel⟩, List.mem_of_getElem? (i := 16) (by decide +kernel), List.mem_of_getElem? (i := 496) (by decide +kernel), List.mem_of_getElem? (i := 497) (by decide +kernel)⟩
theorem lw_p12 : lw_okq (⟨"ValveRiver", "couldBeOfKind", "(ILValveRiver$Sheet;I)Z"⟩, 9) := ⟨⟨by decide +kernel, by decide +kernel⟩, List.mem_of_getElem? (i := 16) (by decide +kernel), List.mem_of_getElem? (i := 512) (by decide +kernel), List.mem_of_getElem? (i := 513) (by decide +kernel)⟩
theorem lw_p13 : lw_okq (⟨"ValveRiver$Reader", "advance", "()V"⟩, 6) := ⟨⟨by decide +kernel, by decide +kernel⟩, List.mem_of_getElem? (i := 138) (by decide +kernel), List.mem_of_getElem? (i := 563) (by decide +kernel), List.mem_of_getElem? (i := 564) (by decide +kernel)⟩
theorem lw_p14 : lw_okq (⟨"ValveRiver$Reader", "readItem", "(LValveRiver$Valley;)V"⟩, 6) := ⟨⟨by decide +kernel, by decide +kernel⟩, List.mem_of_getElem? (i := 138) (by decide +kernel), List.mem_of_getElem? (i := 570) (by decide +kernel), List.mem_of_getElem? (i := 571) (by decide +kernel)⟩
theorem lw_p15 : lw_okq (⟨"ValveRiver$Reader", "kindNamed", "()I"⟩, 6) := ⟨⟨by decide +kernel, by decide +kernel⟩, List.mem_of_getElem? (i := 138) (by decide +kernel), List.mem_of_getElem? (i := 574) (by decide +kernel), List.mem_of_getElem? (i := 575) (by decide +kernel)⟩
def lw_privs_1 : List (MethodName × Nat) := [(⟨"ValveRiver", "finding", "(I)I"⟩, 9), (⟨"ValveRiver", "noWatcher", "(I)Z"⟩, 9), (⟨"ValveRiver$Watcher", "millBears", "()I"⟩, 5), (⟨"ValveRiver$Valley", "liveAll", "()V"⟩, 5), (⟨"ValveRiver", "waterTried", "()LValveRiver$Water;"⟩, 9), (⟨"ValveRiver", "isEnough", "(II)Z"⟩, 9), (⟨"ValveRiver", "noTrial", "(II)Z"⟩, 9), (⟨"ValveRiver", "mostBelieving", "(III)I"⟩, 9), (⟨"ValveRiver", "stir", "(I)V"⟩, 9), (⟨"ValveRiver", "fittingTrouble", "(III)I"⟩, 9), (⟨"ValveRiver", "sheetTrouble", "(I)I"⟩, 9), (⟨"ValveRiver", "couldBeOpened", "(ILValveRiver$Sheet;II)Z"⟩, 9), (⟨"ValveRiver", "couldBeOfKind", "(ILValveRiver$Sheet;I)Z"⟩, 9), (⟨"ValveRiver$Reader", "advance", "()V"⟩, 6), (⟨"ValveRiver$Reader", "readItem", "(LValveRiver$Valley;)V"⟩, 6), (⟨"ValveRiver$Reader", "kindNamed", "()I"⟩, 6)]
theorem lw_r1 : ∀ q ∈ lw_privs_1, lw_okq q := List.forall_mem_cons.mpr ⟨lw_p0, List.forall_mem_cons.mpr ⟨lw_p1, List.forall_mem_cons.mpr ⟨lw_p2, List.forall_mem_cons.mpr ⟨lw_p3, List.forall_mem_cons.mpr ⟨lw_p4, List.forall_mem_cons.mpr ⟨lw_p5, List.forall_mem_cons.mpr ⟨lw_p6, List.forall_mem_cons.mpr ⟨lw_p7, List.forall_mem_cons.mpr ⟨lw_p8, List.forall_mem_cons.mpr ⟨lw_p9, List.forall_mem_cons.mpr ⟨lw_p10, List.forall_mem_cons.mpr ⟨lw_p11, List.forall_mem_cons.mpr ⟨lw_p12, List.forall_mem_cons.mpr ⟨lw_p13, List.forall_mem_cons.mpr ⟨lw_p14, List.forall_mem_cons.mpr ⟨lw_p15, fun _ h => absurd h List.not_mem_nil⟩⟩⟩⟩⟩⟩⟩⟩⟩⟩⟩⟩⟩⟩⟩⟩
theorem lw_p16 : lw_okq (⟨"ValveRiver$Reader", "isWord", "(Ljava/lang/String;)Z"⟩, 6) := ⟨⟨by decide +kernel, by decide +kernel⟩, List.mem_of_getElem? (i := 138) (by decide +kernel), List.mem_of_getElem? (i := 588) (by decide +kernel), List.mem_of_getElem? (i := 589) (by decide +kernel)⟩
theorem lw_p17 : lw_okq (⟨"ValveRiver$Reader", "readWatcher", "(ILValveRiver$Valley;)V"⟩, 6) := ⟨⟨by decide +kernel, by decide +kernel⟩, List.mem_of_getElem? (i := 138) (by decide +kernel), List.mem_of_getElem? (i := 640) (by decide +kernel), List.mem_of_getElem? (i := 641) (by decide +kernel)⟩
theorem lw_p18 : lw_okq (⟨"ValveRiver$Reader", "faultHere", "()V"⟩, 6) := ⟨⟨by decide +kernel, by decide +kernel⟩, List.mem_of_getElem? (i := 138) (by decide +kernel), List.mem_of_getElem? (i := 645) (by decide +kernel), List.mem_of_getElem? (i := 646) (by decide +kernel)⟩
theorem lw_p19 : lw_okq (⟨"ValveRiver$Reader", "takes", "(Ljava/lang/String;)Z"⟩, 6) := ⟨⟨by decide +kernel, by decide +kernel⟩, List.mem_of_getElem? (i := 138) (by decide +kernel), List.mem_of_getElem? (i := 651) (by decide +kernel), List.mem_of_getElem? (i := 652) (by decide +kernel)⟩
theorem lw_p20 : lw_okq (⟨"ValveRiver$Reader", "takeNumber", "(I)I"⟩, 6) := ⟨⟨by decide +kernel, by decide +kernel⟩, List.mem_of_getElem? (i := 138) (by decide +kernel), List.mem_of_getElem? (i := 655) (by decide +kernel), List.mem_of_getElem? (i := 656) (by decide +kernel)⟩
theorem lw_p21 : lw_okq (⟨"ValveRiver$Reader", "numberHere", "()I"⟩, 6) := ⟨⟨by decide +kernel, by decide +kernel⟩, List.mem_of_getElem? (i := 138) (by decide +kernel), List.mem_of_getElem? (i := 659) (by decide +kernel), List.mem_of_getElem? (i := 660) (by decide +kernel)⟩
theorem lw_p22 : lw_okq (⟨"ValveRiver$Reader", "readInto", "([II)V"⟩, 6) := ⟨⟨by decide +kernel, by decide +kernel⟩, List.mem_of_getElem? (i := 138) (by decide +kernel), List.mem_of_getElem? (i := 671) (by decide +kernel), List.mem_of_getElem? (i := 672) (by decide +kernel)⟩
theorem lw_p23 : lw_okq (⟨"ValveRiver$Reader", "readSteady", "(LValveRiver$Water;)V"⟩, 6) := ⟨⟨by decide +kernel, by decide +kernel⟩, List.mem_of_getElem? (i := 138) (by decide +kernel), List.mem_of_getElem? (i := 677) (by decide +kernel), List.mem_of_getElem? (i := 678) (by decide +kernel)⟩
theorem lw_p24 : lw_okq (⟨"ValveRiverModel", "becomes", "(II)I"⟩, 22) := ⟨⟨by decide +kernel, by decide +kernel⟩, List.mem_of_getElem? (i := 759) (by decide +kernel), List.mem_of_getElem? (i := 844) (by decide +kernel), List.mem_of_getElem? (i := 845) (by decide +kernel)⟩
theorem lw_p25 : lw_okq (⟨"ValveRiverModel", "finds", "(I)I"⟩, 22) := ⟨⟨by decide +kernel, by decide +kernel⟩, List.mem_of_getElem? (i := 759) (by decide +kernel), List.mem_of_getElem? (i := 849) (by decide +kernel), List.mem_of_getElem? (i := 850) (by decide +kernel)⟩
theorem lw_p26 : lw_okq (⟨"ValveRiverModel", "openings", "()I"⟩, 22) := ⟨⟨by decide +kernel, by decide +kernel⟩, List.mem_of_getElem? (i := 759) (by decide +kernel), List.mem_of_getElem? (i := 877) (by decide +kernel), List.mem_of_getElem? (i := 878) (by decide +kernel)⟩
theorem lw_p27 : lw_okq (⟨"ValveRiverModel", "opensAll", "(I)V"⟩, 22) := ⟨⟨by decide +kernel, by decide +kernel⟩, List.mem_of_getElem? (i := 759) (by decide +kernel), List.mem_of_getElem? (i := 881) (by decide +kernel), List.mem_of_getElem? (i := 882) (by decide +kernel)⟩
theorem lw_p28 : lw_okq (⟨"ValveRiverModel", "adds", "(II)I"⟩, 22) := ⟨⟨by decide +kernel, by decide +kernel⟩, List.mem_of_getElem? (i := 759) (by decide +kernel), List.mem_of_getElem? (i := 894) (by decide +kernel), List.mem_of_getElem? (i := 895) (by decide +kernel)⟩
theorem lw_p29 : lw_okq (⟨"ValveRiverModel", "isWatcher", "(I)Z"⟩, 22) := ⟨⟨by decide +kernel, by decide +kernel⟩, List.mem_of_getElem? (i := 759) (by decide +kernel), List.mem_of_getElem? (i := 905) (by decide +kernel), List.mem_of_getElem? (i := 906) (by decide +kernel)⟩
theorem lw_p30 : lw_okq (⟨"ValveRiverModel", "its", "(II)I"⟩, 22) := ⟨⟨by decide +kernel, by decide +kernel⟩, List.mem_of_getElem? (i := 759) (by decide +kernel), List.mem_of_getElem? (i := 909) (by decide +kernel), List.mem_of_getElem? (i := 910) (by decide +kernel)⟩
theorem lw_p31 : lw_okq (⟨"ValveRiverModel", "bears", "(I)I"⟩, 22) := ⟨⟨by decide +kernel, by decide +kernel⟩, List.mem_of_getElem? (i := 759) (by decide +kernel), List.mem_of_getElem? (i := 913) (by decide +kernel), List.mem_of_getElem? (i := 914) (by decide +kernel)⟩
def lw_privs_2 : List (MethodName × Nat) := [(⟨"ValveRiver$Reader", "isWord", "(Ljava/lang/String;)Z"⟩, 6), (⟨"ValveRiver$Reader", "readWatcher", "(ILValveRiver$Valley;)V"⟩, 6), (⟨"ValveRiver$Reader", "faultHere", "()V"⟩, 6), (⟨"ValveRiver$Reader", "takes", "(Ljava/lang/String;)Z"⟩, 6), (⟨"ValveRiver$Reader", "takeNumber", "(I)I"⟩, 6), (⟨"ValveRiver$Reader", "numberHere", "()I"⟩, 6), (⟨"ValveRiver$Reader", "readInto", "([II)V"⟩, 6), (⟨"ValveRiver$Reader", "readSteady", "(LValveRiver$Water;)V"⟩, 6), (⟨"ValveRiverModel", "becomes", "(II)I"⟩, 22), (⟨"ValveRiverModel", "finds", "(I)I"⟩, 22), (⟨"ValveRiverModel", "openings", "()I"⟩, 22), (⟨"ValveRiverModel", "opensAll", "(I)V"⟩, 22), (⟨"ValveRiverModel", "adds", "(II)I"⟩, 22), (⟨"ValveRiverModel", "isWatcher", "(I)Z"⟩, 22), (⟨"ValveRiverModel", "its", "(II)I"⟩, 22), (⟨"ValveRiverModel", "bears", "(I)I"⟩, 22)]
theorem lw_r2 : ∀ q ∈ lw_privs_2, lw_okq q := List.forall_mem_cons.mpr ⟨lw_p16, List.forall_mem_cons.mpr ⟨lw_p17, List.forall_mem_cons.mpr ⟨lw_p18, List.forall_mem_cons.mpr ⟨lw_p19, List.forall_mem_cons.mpr ⟨lw_p20, List.forall_mem_cons.mpr ⟨lw_p21, List.forall_mem_cons.mpr ⟨lw_p22, List.forall_mem_cons.mpr ⟨lw_p23, List.forall_mem_cons.mpr ⟨lw_p24, List.forall_mem_cons.mpr ⟨lw_p25, List.forall_mem_cons.mpr ⟨lw_p26, List.forall_mem_cons.mpr ⟨lw_p27, List.forall_mem_cons.mpr ⟨lw_p28, List.forall_mem_cons.mpr ⟨lw_p29, List.forall_mem_cons.mpr ⟨lw_p30, List.forall_mem_cons.mpr ⟨lw_p31, fun _ h => absurd h List.not_mem_nil⟩⟩⟩⟩⟩⟩⟩⟩⟩⟩⟩⟩⟩⟩⟩⟩
theorem lw_p32 : lw_okq (⟨"ValveRiverModel", "doubts", "(I)I"⟩, 22) := ⟨⟨by decide +kernel, by decide +kernel⟩, List.mem_of_getElem? (i := 759) (by decide +kernel), List.mem_of_getElem? (i := 917) (by decide +kernel), List.mem_of_getElem? (i := 918) (by decide +kernel)⟩
theorem lw_p33 : lw_okq (⟨"ValveRiverModel", "trusts", "(I)I"⟩, 22) := ⟨⟨by decide +kernel, by decide +kernel⟩, List.mem_of_getElem? (i := 759) (by decide +kernel), List.mem_of_getElem? (i := 921) (by decide +kernel), List.mem_of_getElem? (i := 922) (by decide +kernel)⟩
theorem lw_p34 : lw_okq (⟨"ValveRiverModel", "goesOn", "(I)V"⟩, 22) := ⟨⟨by decide +kernel, by decide +kernel⟩, List.mem_of_getElem? (i := 759) (by decide +kernel), List.mem_of_getElem? (i := 940) (by decide +kernel), List.mem_of_getElem? (i := 941) (by decide +kernel)⟩
theorem lw_p35 : lw_okq (⟨"ValveRiverModel", "hour", "()V"⟩, 22) := ⟨⟨by decide +kernel, by decide +kernel⟩, List.mem_of_getElem? (i := 759) (by decide +kernel), List.mem_of_getElem? (i := 944) (by decide +kernel), List.mem_of_getElem? (i := 945) (by decide +kernel)⟩
theorem lw_p36 : lw_okq (⟨"ValveRiverModel", "flows", "()V"⟩, 22) := ⟨⟨by decide +kernel, by decide +kernel⟩, List.mem_of_getElem? (i := 759) (by decide +kernel), List.mem_of_getElem? (i := 948) (by decide +kernel), List.mem_of_getElem? (i := 949) (by decide +kernel)⟩
theorem lw_p37 : lw_okq (⟨"ValveRiverModel", "sees", "(I)V"⟩, 22) := ⟨⟨by decide +kernel, by decide +kernel⟩, List.mem_of_getElem? (i := 759) (by decide +kernel), List.mem_of_getElem? (i := 953) (by decide +kernel), List.mem_of_getElem? (i := 954) (by decide +kernel)⟩
theorem lw_p38 : lw_okq (⟨"ValveRiverModel", "there", "(I)I"⟩, 22) := ⟨⟨by decide +kernel, by decide +kernel⟩, List.mem_of_getElem? (i := 759) (by decide +kernel), List.mem_of_getElem? (i := 957) (by decide +kernel), List.mem_of_getElem? (i := 958) (by decide +kernel)⟩
theorem lw_p39 : lw_okq (⟨"ValveRiverModel", "knowing", "()I"⟩, 22) := ⟨⟨by decide +kernel, by decide +kernel⟩, List.mem_of_getElem? (i := 759) (by decide +kernel), List.mem_of_getElem? (i := 964) (by decide +kernel), List.mem_of_getElem? (i := 965) (by decide +kernel)⟩
theorem lw_p40 : lw_okq (⟨"ValveRiverModel", "levels", "()I"⟩, 22) := ⟨⟨by decide +kernel, by decide +kernel⟩, List.mem_of_getElem? (i := 759) (by decide +kernel), List.mem_of_getElem? (i := 972) (by decide +kernel), List.mem_of_getElem? (i := 973) (by decide +kernel)⟩
theorem lw_p41 : lw_okq (⟨"ValveRiverModel", "wanting", "()I"⟩, 22) := ⟨⟨by decide +kernel, by decide +kernel⟩, List.mem_of_getElem? (i := 759) (by decide +kernel), List.mem_of_getElem? (i := 976) (by decide +kernel), List.mem_of_getElem? (i := 977) (by decide +kernel)⟩
theorem lw_p42 : lw_okq (⟨"ValveRiverModel", "beliefs", "()I"⟩, 22) := ⟨⟨by decide +kernel, by decide +kernel⟩, List.mem_of_getElem? (i := 759) (by decide +kernel), List.mem_of_getElem? (i := 980) (by decide +kernel), List.mem_of_getElem? (i := 981) (by decide +kernel)⟩
theorem lw_p43 : lw_okq (⟨"ValveRiverModel", "behind", "(II)I"⟩, 22) := ⟨⟨by decide +kernel, by decide +kernel⟩, List.mem_of_getElem? (i := 759) (by decide +kernel), List.mem_of_getElem? (i := 989) (by decide +kernel), List.mem_of_getElem? (i := 990) (by decide +kernel)⟩
theorem lw_p44 : lw_okq (⟨"ValveRiverModel", "laysAside", "()V"⟩, 22) := ⟨⟨by decide +kernel, by decide +kernel⟩, List.mem_of_getElem? (i := 759) (by decide +kernel), List.mem_of_getElem? (i := 993) (by decide +kernel), List.mem_of_getElem? (i := 994) (by decide +kernel)⟩
theorem lw_p45 : lw_okq (⟨"ValveRiverModel", "takesBack", "(I)I"⟩, 22) := ⟨⟨by decide +kernel, by decide +kernel⟩, List.mem_of_getElem? (i := 759) (by decide +kernel), List.mem_of_getElem? (i := 997) (by decide +kernel), List.mem_of_getElem? (i := 998) (by decide +kernel)⟩
theorem lw_p46 : lw_okq (⟨"ValveRiverModel", "until", "(IIZ)I"⟩, 22) := ⟨⟨by decide +kernel, by decide +kernel⟩, List.mem_of_getElem? (i := 759) (by decide +kernel), List.mem_of_getElem? (i := 1010) (by decide +kernel), List.mem_of_getElem? (i := 1011) (by decide +kernel)⟩
theorem lw_p47 : lw_okq (⟨"ValveRiverModel", "orNone", "(I)I"⟩, 22) := ⟨⟨by decide +kernel, by decide +kernel⟩, List.mem_of_getElem? (i := 759) (by decide +kernel), List.mem_of_getElem? (i := 1014) (by decide +kernel), List.mem_of_getElem? (i := 1015) (by decide +kernel)⟩
def lw_privs_3 : List (MethodName × Nat) := [(⟨"ValveRiverModel", "doubts", "(I)I"⟩, 22), (⟨"ValveRiverModel", "trusts", "(I)I"⟩, 22), (⟨"ValveRiverModel", "goesOn", "(I)V"⟩, 22), (⟨"ValveRiverModel", "hour", "()V"⟩, 22), (⟨"ValveRiverModel", "flows", "()V"⟩, 22), (⟨"ValveRiverModel", "sees", "(I)V"⟩, 22), (⟨"ValveRiverModel", "there", "(I)I"⟩, 22), (⟨"ValveRiverModel", "knowing", "()I"⟩, 22), (⟨"ValveRiverModel", "levels", "()I"⟩, 22), (⟨"ValveRiverModel", "wanting", "()I"⟩, 22), (⟨"ValveRiverModel", "beliefs", "()I"⟩, 22), (⟨"ValveRiverModel", "behind", "(II)I"⟩, 22), (⟨"ValveRiverModel", "laysAside", "()V"⟩, 22), (⟨"ValveRiverModel", "takesBack", "(I)I"⟩, 22), (⟨"ValveRiverModel", "until", "(IIZ)I"⟩, 22), (⟨"ValveRiverModel", "orNone", "(I)I"⟩, 22)]
theorem lw_r3 : ∀ q ∈ lw_privs_3, lw_okq q := List.forall_mem_cons.mpr ⟨lw_p32, List.forall_mem_cons.mpr ⟨lw_p33, List.forall_mem_cons.mpr ⟨lw_p34, List.forall_mem_cons.mpr ⟨lw_p35, List.forall_mem_cons.mpr ⟨lw_p36, List.forall_mem_cons.mpr ⟨lw_p37, List.forall_mem_cons.mpr ⟨lw_p38, List.forall_mem_cons.mpr ⟨lw_p39, List.forall_mem_cons.mpr ⟨lw_p40, List.forall_mem_cons.mpr ⟨lw_p41, List.forall_mem_cons.mpr ⟨lw_p42, List.forall_mem_cons.mpr ⟨lw_p43, List.forall_mem_cons.mpr ⟨lw_p44, List.forall_mem_cons.mpr ⟨lw_p45, List.forall_mem_cons.mpr ⟨lw_p46, List.forall_mem_cons.mpr ⟨lw_p47, fun _ h => absurd h List.not_mem_nil⟩⟩⟩⟩⟩⟩⟩⟩⟩⟩⟩⟩⟩⟩⟩⟩
theorem lw_p48 : lw_okq (⟨"ValveRiverModel", "leastOf", "(III)I"⟩, 22) := ⟨⟨by decide +kernel, by decide +kernel⟩, List.mem_of_getElem? (i := 759) (by decide +kernel), List.mem_of_getElem? (i := 1031) (by decide +kernel), List.mem_of_getElem? (i := 1032) (by decide +kernel)⟩
theorem lw_p49 : lw_okq (⟨"ValveRiverModel", "mostBelief", "(III)I"⟩, 22) := ⟨⟨by decide +kernel, by decide +kernel⟩, List.mem_of_getElem? (i := 759) (by decide +kernel), List.mem_of_getElem? (i := 1067) (by decide +kernel), List.mem_of_getElem? (i := 1068) (by decide +kernel)⟩
theorem lw_p50 : lw_okq (⟨"ValveRiverModel", "wrongOpened", "(III)I"⟩, 22) := ⟨⟨by decide +kernel, by decide +kernel⟩, List.mem_of_getElem? (i := 759) (by decide +kernel), List.mem_of_getElem? (i := 1087) (by decide +kernel), List.mem_of_getElem? (i := 1088) (by decide +kernel)⟩
theorem lw_p51 : lw_okq (⟨"ValveRiverModel", "wrong", "(I)I"⟩, 22) := ⟨⟨by decide +kernel, by decide +kernel⟩, List.mem_of_getElem? (i := 759) (by decide +kernel), List.mem_of_getElem? (i := 1091) (by decide +kernel), List.mem_of_getElem? (i := 1092) (by decide +kernel)⟩
theorem lw_p52 : lw_okq (⟨"ValveRiverModel", "findOpened", "(III)V"⟩, 22) := ⟨⟨by decide +kernel, by decide +kernel⟩, List.mem_of_getElem? (i := 759) (by decide +kernel), List.mem_of_getElem? (i := 1099) (by decide +kernel), List.mem_of_getElem? (i := 1100) (by decide +kernel)⟩
theorem lw_p53 : lw_okq (⟨"ValveRiverModel", "isTold", "(II)Z"⟩, 22) := ⟨⟨by decide +kernel, by decide +kernel⟩, List.mem_of_getElem? (i := 759) (by decide +kernel), List.mem_of_getElem? (i := 1103) (by decide +kernel), List.mem_of_getElem? (i := 1104) (by decide +kernel)⟩
theorem lw_p54 : lw_okq (⟨"ValveRiverModel", "draw", "()I"⟩, 22) := ⟨⟨by decide +kernel, by decide +kernel⟩, List.mem_of_getElem? (i := 759) (by decide +kernel), List.mem_of_getElem? (i := 1119) (by decide +kernel), List.mem_of_getElem? (i := 1120) (by decide +kernel)⟩
theorem lw_p55 : lw_okq (⟨"ValveRiverModel", "saves", "()V"⟩, 22) := ⟨⟨by decide +kernel, by decide +kernel⟩, List.mem_of_getElem? (i := 759) (by decide +kernel), List.mem_of_getElem? (i := 1144) (by decide +kernel), List.mem_of_getElem? (i := 1145) (by decide +kernel)⟩
theorem lw_p56 : lw_okq (⟨"ValveRiverModel", "token", "()V"⟩, 22) := ⟨⟨by decide +kernel, by decide +kernel⟩, List.mem_of_getElem? (i := 759) (by decide +kernel), List.mem_of_getElem? (i := 1148) (by decide +kernel), List.mem_of_getElem? (i := 1149) (by decide +kernel)⟩
theorem lw_p57 : lw_okq (⟨"ValveRiverModel", "byteAt", "(I)I"⟩, 22) := ⟨⟨by decide +kernel, by decide +kernel⟩, List.mem_of_getElem? (i := 759) (by decide +kernel), List.mem_of_getElem? (i := 1152) (by decide +kernel), List.mem_of_getElem? (i := 1153) (by decide +kernel)⟩
theorem lw_p58 : lw_okq (⟨"ValveRiverModel", "item", "()V"⟩, 22) := ⟨⟨by decide +kernel, by decide +kernel⟩, List.mem_of_getElem? (i := 759) (by decide +kernel), List.mem_of_getElem? (i := 1166) (by decide +kernel), List.mem_of_getElem? (i := 1167) (by decide +kernel)⟩
theorem lw_p59 : lw_okq (⟨"ValveRiverModel", "kindHere", "()I"⟩, 22) := ⟨⟨by decide +kernel, by decide +kernel⟩, List.mem_of_getElem? (i := 759) (by decide +kernel), List.mem_of_getElem? (i := 1170) (by decide +kernel), List.mem_of_getElem? (i := 1171) (by decide +kernel)⟩
theorem lw_p60 : lw_okq (⟨"ValveRiverModel", "word", "()J"⟩, 22) := ⟨⟨by decide +kernel, by decide +kernel⟩, List.mem_of_getElem? (i := 759) (by decide +kernel), List.mem_of_getElem? (i := 1174) (by decide +kernel), List.mem_of_getElem? (i := 1175) (by decide +kernel)⟩
theorem lw_p61 : lw_okq (⟨"ValveRiverModel", "watcherItem", "(I)V"⟩, 22) := ⟨⟨by decide +kernel, by decide +kernel⟩, List.mem_of_getElem? (i := 759) (by decide +kernel), List.mem_of_getElem? (i := 1187) (by decide +kernel), List.mem_of_getElem? (i := 1188) (by decide +kernel)⟩
theorem lw_p62 : lw_okq (⟨"ValveRiverModel", "must", "(Z)V"⟩, 22) := ⟨⟨by decide +kernel, by decide +kernel⟩, List.mem_of_getElem? (i := 759) (by decide +kernel), List.mem_of_getElem? (i := 1191) (by decide +kernel), List.mem_of_getElem? (i := 1192) (by decide +kernel)⟩
theorem lw_p63 : lw_okq (⟨"ValveRiverModel", "perhaps", "(JII)V"⟩, 22) := ⟨⟨by decide +kernel, by decide +kernel⟩, List.mem_of_getElem? (i := 759) (by decide +kernel), List.mem_of_getElem? (i := 1196) (by decide +kernel), List.mem_of_getElem? (i := 1197) (by decide +kernel)⟩
def lw_privs_4 : List (MethodName × Nat) := [(⟨"ValveRiverModel", "leastOf", "(III)I"⟩, 22), (⟨"ValveRiverModel", "mostBelief", "(III)I"⟩, 22), (⟨"ValveRiverModel", "wrongOpened", "(III)I"⟩, 22), (⟨"ValveRiverModel", "wrong", "(I)I"⟩, 22), (⟨"ValveRiverModel", "findOpened", "(III)V"⟩, 22), (⟨"ValveRiverModel", "isTold", "(II)Z"⟩, 22), (⟨"ValveRiverModel", "draw", "()I"⟩, 22), (⟨"ValveRiverModel", "saves", "()V"⟩, 22), (⟨"ValveRiverModel", "token", "()V"⟩, 22), (⟨"ValveRiverModel", "byteAt", "(I)I"⟩, 22), (⟨"ValveRiverModel", "item", "()V"⟩, 22), (⟨"ValveRiverModel", "kindHere", "()I"⟩, 22), (⟨"ValveRiverModel", "word", "()J"⟩, 22), (⟨"ValveRiverModel", "watcherItem", "(I)V"⟩, 22), (⟨"ValveRiverModel", "must", "(Z)V"⟩, 22), (⟨"ValveRiverModel", "perhaps", "(JII)V"⟩, 22)]
theorem lw_r4 : ∀ q ∈ lw_privs_4, lw_okq q := List.forall_mem_cons.mpr ⟨lw_p48, List.forall_mem_cons.mpr ⟨lw_p49, List.forall_mem_cons.mpr ⟨lw_p50, List.forall_mem_cons.mpr ⟨lw_p51, List.forall_mem_cons.mpr ⟨lw_p52, List.forall_mem_cons.mpr ⟨lw_p53, List.forall_mem_cons.mpr ⟨lw_p54, List.forall_mem_cons.mpr ⟨lw_p55, List.forall_mem_cons.mpr ⟨lw_p56, List.forall_mem_cons.mpr ⟨lw_p57, List.forall_mem_cons.mpr ⟨lw_p58, List.forall_mem_cons.mpr ⟨lw_p59, List.forall_mem_cons.mpr ⟨lw_p60, List.forall_mem_cons.mpr ⟨lw_p61, List.forall_mem_cons.mpr ⟨lw_p62, List.forall_mem_cons.mpr ⟨lw_p63, fun _ h => absurd h List.not_mem_nil⟩⟩⟩⟩⟩⟩⟩⟩⟩⟩⟩⟩⟩⟩⟩⟩
theorem lw_p64 : lw_okq (⟨"ValveRiverModel", "number", "(II)V"⟩, 22) := ⟨⟨by decide +kernel, by decide +kernel⟩, List.mem_of_getElem? (i := 759) (by decide +kernel), List.mem_of_getElem? (i := 1200) (by decide +kernel), List.mem_of_getElem? (i := 1201) (by decide +kernel)⟩
theorem lw_p65 : lw_okq (⟨"ValveRiverModel", "rowItem", "(III)V"⟩, 22) := ⟨⟨by decide +kernel, by decide +kernel⟩, List.mem_of_getElem? (i := 759) (by decide +kernel), List.mem_of_getElem? (i := 1207) (by decide +kernel), List.mem_of_getElem? (i := 1208) (by decide +kernel)⟩
theorem lw_p66 : lw_okq (⟨"ValveRiverModel", "putsBack", "()V"⟩, 22) := ⟨⟨by decide +kernel, by decide +kernel⟩, List.mem_of_getElem? (i := 759) (by decide +kernel), List.mem_of_getElem? (i := 1213) (by decide +kernel), List.mem_of_getElem? (i := 1214) (by decide +kernel)⟩
theorem lw_p67 : lw_okq (⟨"ValveRiverModel", "heldSpots", "()I"⟩, 22) := ⟨⟨by decide +kernel, by decide +kernel⟩, List.mem_of_getElem? (i := 759) (by decide +kernel), List.mem_of_getElem? (i := 1273) (by decide +kernel), List.mem_of_getElem? (i := 1274) (by decide +kernel)⟩
def lw_privs_5 : List (MethodName × Nat) := [(⟨"ValveRiverModel", "number", "(II)V"⟩, 22), (⟨"ValveRiverModel", "rowItem", "(III)V"⟩, 22), (⟨"ValveRiverModel", "putsBack", "()V"⟩, 22), (⟨"ValveRiverModel", "heldSpots", "()I"⟩, 22)]
theorem lw_r5 : ∀ q ∈ lw_privs_5, lw_okq q := List.forall_mem_cons.mpr ⟨lw_p64, List.forall_mem_cons.mpr ⟨lw_p65, List.forall_mem_cons.mpr ⟨lw_p66, List.forall_mem_cons.mpr ⟨lw_p67, fun _ h => absurd h List.not_mem_nil⟩⟩⟩⟩
def lw_privs : List (MethodName × Nat) := lw_privs_1 ++ (lw_privs_2 ++ (lw_privs_3 ++ (lw_privs_4 ++ (lw_privs_5))))
def lw_tbl : List Cond := k2_sels lw_privs ++ tables_1
theorem lw_privs_ok : ∀ q ∈ lw_privs, lw_okq q := by
  show ∀ q ∈ lw_privs_1 ++ (lw_privs_2 ++ (lw_privs_3 ++ (lw_privs_4 ++ (lw_privs_5)))), lw_okq q
  exact List.forall_mem_append.mpr ⟨lw_r1, List.forall_mem_append.mpr ⟨lw_r2, List.forall_mem_append.mpr ⟨lw_r3, List.forall_mem_append.mpr ⟨lw_r4, lw_r5⟩⟩⟩⟩
end
section

def RX0 : String := "ValveRiver$Reader"
def TX0 : u_T := fun k => match k with
  | 0 => ("ValveRiver$Reader", "tape", "[I", true)
  | 1 => ("ValveRiver$Reader", "length", "I", false)
  | 2 => ("ValveRiver$Reader", "fault", "I", false)
  | 3 => ("ValveRiver$Reader", "token", "I", false)
  | 4 => ("ValveRiver$Reader", "start", "I", false)
  | _ => ("ValveRiver$Reader", "end", "I", false)
def tyX0 : Nat → FieldType := fun k => match k with
  | 0 => .array .int
  | 1 => .int
  | 2 => .int
  | 3 => .int
  | 4 => .int
  | _ => .int
theorem nmX0 : ∀ a, a < 6 → ∀ b, b < 6 → a ≠ b → (TX0 a).2.1 ≠ (TX0 b).2.1 := by decide +kernel
theorem tyX0_ok : ∀ k, k < 6 → parseFieldDescriptor (TX0 k).2.2.1 = some (tyX0 k) := by decide +kernel
abbrev cX0_init : ByteArray := prog_2_method_1_code
def yX0_init : MethodName := ⟨RX0, "<init>", "()V"⟩
abbrev cX0_put : ByteArray := prog_2_method_2_code
def yX0_put : MethodName := ⟨RX0, "put", "(I)V"⟩
abbrev cX0_hasFault : ByteArray := prog_2_method_3_code
def yX0_hasFault : MethodName := ⟨RX0, "hasFault", "()Z"⟩
abbrev cX0_read : ByteArray := prog_2_method_4_code
def yX0_read : MethodName := ⟨RX0, "read", "(LValveRiver$Valley;)I"⟩
abbrev cX0_readItem : ByteArray := prog_2_method_5_code
def yX0_readItem : MethodName := ⟨RX0, "readItem", "(LValveRiver$Valley;)V"⟩
abbrev cX0_readWatcher : ByteArray := prog_2_method_6_code
def yX0_readWatcher : MethodName := ⟨RX0, "readWatcher", "(ILValveRiver$Valley;)V"⟩
abbrev cX0_readInto : ByteArray := prog_2_method_7_code
def yX0_readInto : MethodName := ⟨RX0, "readInto", "([II)V"⟩
abbrev cX0_readSteady : ByteArray := prog_2_method_8_code
def yX0_readSteady : MethodName := ⟨RX0, "readSteady", "(LValveRiver$Water;)V"⟩
abbrev cX0_kindNamed : ByteArray := prog_2_method_9_code
def yX0_kindNamed : MethodName := ⟨RX0, "kindNamed", "()I"⟩
abbrev cX0_nameOf : ByteArray := prog_2_method_10_code
def yX0_nameOf : MethodName := ⟨RX0, "nameOf", "(I)Ljava/lang/String;"⟩
abbrev cX0_isWord : ByteArray := prog_2_method_11_code
def yX0_isWord : MethodName := ⟨RX0, "isWord", "(Ljava/lang/String;)Z"⟩
abbrev cX0_takes : ByteArray := prog_2_method_12_code
def yX0_takes : MethodName := ⟨RX0, "takes", "(Ljava/lang/String;)Z"⟩
abbrev cX0_takeNumber : ByteArray := prog_2_method_13_code
def yX0_takeNumber : MethodName := ⟨RX0, "takeNumber", "(I)I"⟩
abbrev cX0_numberHere : ByteArray := prog_2_method_14_code
def yX0_numberHere : MethodName := ⟨RX0, "numberHere", "()I"⟩
abbrev cX0_faultHere : ByteArray := prog_2_method_15_code
def yX0_faultHere : MethodName := ⟨RX0, "faultHere", "()V"⟩
abbrev cX0_advance : ByteArray := prog_2_method_16_code
def yX0_advance : MethodName := ⟨RX0, "advance", "()V"⟩
abbrev cX0_tokenOf : ByteArray := prog_2_method_17_code
def yX0_tokenOf : MethodName := ⟨RX0, "tokenOf", "(I)I"⟩
def RX1 : String := "ValveRiver$Sheet"
def TX1 : u_T := fun k => match k with
  | 0 => ("ValveRiver$Sheet", "numbers", "[I", true)
  | 1 => ("ValveRiver$Sheet", "bits", "I", false)
  | _ => ("ValveRiver$Sheet", "size", "I", false)
def tyX1 : Nat → FieldType := fun k => match k with
  | 0 => .array .int
  | 1 => .int
  | _ => .int
theorem nmX1 : ∀ a, a < 3 → ∀ b, b < 3 → a ≠ b → (TX1 a).2.1 ≠ (TX1 b).2.1 := by decide +kernel
theorem tyX1_ok : ∀ k, k < 3 → parseFieldDescriptor (TX1 k).2.2.1 = some (tyX1 k) := by decide +kernel
abbrev cX1_init : ByteArray := prog_3_method_1_code
def yX1_init : MethodName := ⟨RX1, "<init>", "()V"⟩
abbrev cX1_isMissing : ByteArray := prog_3_method_2_code
def yX1_isMissing : MethodName := ⟨RX1, "isMissing", "()Z"⟩
abbrev cX1_lay : ByteArray := prog_3_method_3_code
def yX1_lay : MethodName := ⟨RX1, "lay", "(II)V"⟩
abbrev cX1_put : ByteArray := prog_3_method_4_code
def yX1_put : MethodName := ⟨RX1, "put", "(II)V"⟩
abbrev cX1_has : ByteArray := prog_3_method_5_code
def yX1_has : MethodName := ⟨RX1, "has", "(II)Z"⟩
abbrev cX1_allows : ByteArray := prog_3_method_6_code
def yX1_allows : MethodName := ⟨RX1, "allows", "(II)Z"⟩
def RX2 : String := "ValveRiver$Valley"
def TX2 : u_T := fun k => match k with
  | 0 => ("ValveRiver$Valley", "water", "LValveRiver$Water;", true)
  | 1 => ("ValveRiver$Valley", "watchers", "[LValveRiver$Watcher;", true)
  | 2 => ("ValveRiver$Valley", "spots", "[I", true)
  | 3 => ("ValveRiver$Valley", "settled", "I", false)
  | _ => ("ValveRiver$Valley", "z", "I", false)
def tyX2 : Nat → FieldType := fun k => match k with
  | 0 => .object "ValveRiver$Water"
  | 1 => .array (.object "ValveRiver$Watcher")
  | 2 => .array .int
  | 3 => .int
  | _ => .int
theorem nmX2 : ∀ a, a < 5 → ∀ b, b < 5 → a ≠ b → (TX2 a).2.1 ≠ (TX2 b).2.1 := by decide +kernel
theorem tyX2_ok : ∀ k, k < 5 → parseFieldDescriptor (TX2 k).2.2.1 = some (tyX2 k) := by decide +kernel
abbrev cX2_init : ByteArray := prog_4_method_1_code
def yX2_init : MethodName := ⟨RX2, "<init>", "()V"⟩
abbrev cX2_become : ByteArray := prog_4_method_2_code
def yX2_become : MethodName := ⟨RX2, "become", "(LValveRiver$Valley;)V"⟩
abbrev cX2_isFull : ByteArray := prog_4_method_3_code
def yX2_isFull : MethodName := ⟨RX2, "isFull", "()Z"⟩
abbrev cX2_settle : ByteArray := prog_4_method_4_code
def yX2_settle : MethodName := ⟨RX2, "settle", "(II)I"⟩
abbrev cX2_pass : ByteArray := prog_4_method_5_code
def yX2_pass : MethodName := ⟨RX2, "pass", "(I)V"⟩
abbrev cX2_passShut : ByteArray := prog_4_method_6_code
def yX2_passShut : MethodName := ⟨RX2, "passShut", "()V"⟩
abbrev cX2_liveAll : ByteArray := prog_4_method_7_code
def yX2_liveAll : MethodName := ⟨RX2, "liveAll", "()V"⟩
abbrev cX2_staysHidden : ByteArray := prog_4_method_8_code
def yX2_staysHidden : MethodName := ⟨RX2, "staysHidden", "(II)Z"⟩
abbrev cX2_knowing : ByteArray := prog_4_method_9_code
def yX2_knowing : MethodName := ⟨RX2, "knowing", "()I"⟩
abbrev cX2_lacking : ByteArray := prog_4_method_10_code
def yX2_lacking : MethodName := ⟨RX2, "lacking", "()I"⟩
abbrev cX2_beliefsTogether : ByteArray := prog_4_method_11_code
def yX2_beliefsTogether : MethodName := ⟨RX2, "beliefsTogether", "()I"⟩
abbrev cX2_spotsHolding : ByteArray := prog_4_method_12_code
def yX2_spotsHolding : MethodName := ⟨RX2, "spotsHolding", "()I"⟩
abbrev cX2_draw : ByteArray := prog_4_method_13_code
def yX2_draw : MethodName := ⟨RX2, "draw", "()I"⟩
def RX3 : String := "ValveRiver$Watcher"
def TX3 : u_T := fun k => match k with
  | 0 => ("ValveRiver$Watcher", "kind", "I", false)
  | 1 => ("ValveRiver$Watcher", "cell", "I", false)
  | 2 => ("ValveRiver$Watcher", "want", "I", false)
  | 3 => ("ValveRiver$Watcher", "belief", "I", false)
  | _ => ("ValveRiver$Watcher", "thirst", "I", false)
def tyX3 : Nat → FieldType := fun k => match k with
  | 0 => .int
  | 1 => .int
  | 2 => .int
  | 3 => .int
  | _ => .int
theorem nmX3 : ∀ a, a < 5 → ∀ b, b < 5 → a ≠ b → (TX3 a).2.1 ≠ (TX3 b).2.1 := by decide +kernel
theorem tyX3_ok : ∀ k, k < 5 → parseFieldDescriptor (TX3 k).2.2.1 = some (tyX3 k) := by decide +kernel
abbrev cX3_init : ByteArray := prog_5_method_1_code
def yX3_init : MethodName := ⟨RX3, "<init>", "()V"⟩
abbrev cX3_begin : ByteArray := prog_5_method_2_code
def yX3_begin : MethodName := ⟨RX3, "begin", "(II)V"⟩
abbrev cX3_become : ByteArray := prog_5_method_3_code
def yX3_become : MethodName := ⟨RX3, "become", "(LValveRiver$Watcher;)V"⟩
abbrev cX3_set : ByteArray := prog_5_method_4_code
def yX3_set : MethodName := ⟨RX3, "set", "(II)I"⟩
abbrev cX3_knows : ByteArray := prog_5_method_5_code
def yX3_knows : MethodName := ⟨RX3, "knows", "()Z"⟩
abbrev cX3_lacks : ByteArray := prog_5_method_6_code
def yX3_lacks : MethodName := ⟨RX3, "lacks", "(I)Z"⟩
abbrev cX3_live : ByteArray := prog_5_method_7_code
def yX3_live : MethodName := ⟨RX3, "live", "(II)V"⟩
abbrev cX3_bears : ByteArray := prog_5_method_8_code
def yX3_bears : MethodName := ⟨RX3, "bears", "()I"⟩
abbrev cX3_millBears : ByteArray := prog_5_method_9_code
def yX3_millBears : MethodName := ⟨RX3, "millBears", "()I"⟩
abbrev cX3_doubts : ByteArray := prog_5_method_10_code
def yX3_doubts : MethodName := ⟨RX3, "doubts", "()I"⟩
abbrev cX3_trusts : ByteArray := prog_5_method_11_code
def yX3_trusts : MethodName := ⟨RX3, "trusts", "()I"⟩
abbrev cX3_isUnder : ByteArray := prog_5_method_12_code
def yX3_isUnder : MethodName := ⟨RX3, "isUnder", "(I)Z"⟩
abbrev cX3_kindAbove : ByteArray := prog_5_method_13_code
def yX3_kindAbove : MethodName := ⟨RX3, "kindAbove", "(I)I"⟩
def RX4 : String := "ValveRiver$Water"
def TX4 : u_T := fun k => match k with
  | 0 => ("ValveRiver$Water", "levels", "[I", true)
  | 1 => ("ValveRiver$Water", "before", "[I", true)
  | 2 => ("ValveRiver$Water", "openings", "[I", true)
  | 3 => ("ValveRiver$Water", "sea", "I", false)
  | _ => ("ValveRiver$Water", "hour", "I", false)
def tyX4 : Nat → FieldType := fun k => match k with
  | 0 => .array .int
  | 1 => .array .int
  | 2 => .array .int
  | 3 => .int
  | _ => .int
theorem nmX4 : ∀ a, a < 5 → ∀ b, b < 5 → a ≠ b → (TX4 a).2.1 ≠ (TX4 b).2.1 := by decide +kernel
theorem tyX4_ok : ∀ k, k < 5 → parseFieldDescriptor (TX4 k).2.2.1 = some (tyX4 k) := by decide +kernel
abbrev cX4_init : ByteArray := prog_6_method_1_code
def yX4_init : MethodName := ⟨RX4, "<init>", "()V"⟩
abbrev cX4_become : ByteArray := prog_6_method_2_code
def yX4_become : MethodName := ⟨RX4, "become", "(LValveRiver$Water;)V"⟩
abbrev cX4_openAll : ByteArray := prog_6_method_3_code
def yX4_openAll : MethodName := ⟨RX4, "openAll", "(I)V"⟩
abbrev cX4_run : ByteArray := prog_6_method_4_code
def yX4_run : MethodName := ⟨RX4, "run", "(I)V"⟩
abbrev cX4_flow : ByteArray := prog_6_method_5_code
def yX4_flow : MethodName := ⟨RX4, "flow", "(I)V"⟩
abbrev cX4_levelsTogether : ByteArray := prog_6_method_6_code
def yX4_levelsTogether : MethodName := ⟨RX4, "levelsTogether", "()I"⟩
abbrev cX4_openingsTogether : ByteArray := prog_6_method_7_code
def yX4_openingsTogether : MethodName := ⟨RX4, "openingsTogether", "()I"⟩
abbrev cX4_hoursOpen : ByteArray := prog_6_method_8_code
def yX4_hoursOpen : MethodName := ⟨RX4, "hoursOpen", "()I"⟩
def RX5 : String := "ValveRiver"
def TX5 : u_T := fun k => match k with
  | 0 => ("ValveRiver", "valley", "LValveRiver$Valley;", true)
  | 1 => ("ValveRiver", "kept", "LValveRiver$Valley;", true)
  | 2 => ("ValveRiver", "trial", "LValveRiver$Valley;", true)
  | 3 => ("ValveRiver", "asleep", "LValveRiver$Valley;", true)
  | 4 => ("ValveRiver", "stirred", "[I", true)
  | 5 => ("ValveRiver", "sheets", "[LValveRiver$Sheet;", true)
  | 6 => ("ValveRiver", "reader", "LValveRiver$Reader;", true)
  | 7 => ("ValveRiver", "findings", "[I", true)
  | _ => ("ValveRiver", "isKept", "Z", false)
def tyX5 : Nat → FieldType := fun k => match k with
  | 0 => .object "ValveRiver$Valley"
  | 1 => .object "ValveRiver$Valley"
  | 2 => .object "ValveRiver$Valley"
  | 3 => .object "ValveRiver$Valley"
  | 4 => .array .int
  | 5 => .array (.object "ValveRiver$Sheet")
  | 6 => .object "ValveRiver$Reader"
  | 7 => .array .int
  | _ => .boolean
theorem nmX5 : ∀ a, a < 9 → ∀ b, b < 9 → a ≠ b → (TX5 a).2.1 ≠ (TX5 b).2.1 := by decide +kernel
theorem tyX5_ok : ∀ k, k < 9 → parseFieldDescriptor (TX5 k).2.2.1 = some (tyX5 k) := by decide +kernel
abbrev cX5_init : ByteArray := prog_1_method_1_code
def yX5_init : MethodName := ⟨RX5, "<init>", "()V"⟩
abbrev cX5_level : ByteArray := prog_1_method_2_code
def yX5_level : MethodName := ⟨RX5, "level", "(II)I"⟩
abbrev cX5_stands : ByteArray := prog_1_method_3_code
def yX5_stands : MethodName := ⟨RX5, "stands", "(I)I"⟩
abbrev cX5_plan : ByteArray := prog_1_method_4_code
def yX5_plan : MethodName := ⟨RX5, "plan", "(II)I"⟩
abbrev cX5_opening : ByteArray := prog_1_method_5_code
def yX5_opening : MethodName := ⟨RX5, "opening", "(I)I"⟩
abbrev cX5_steady : ByteArray := prog_1_method_6_code
def yX5_steady : MethodName := ⟨RX5, "steady", "(I)I"⟩
abbrev cX5_watcher : ByteArray := prog_1_method_7_code
def yX5_watcher : MethodName := ⟨RX5, "watcher", "(II)I"⟩
abbrev cX5_of : ByteArray := prog_1_method_8_code
def yX5_of : MethodName := ⟨RX5, "of", "(II)I"⟩
abbrev cX5_change : ByteArray := prog_1_method_9_code
def yX5_change : MethodName := ⟨RX5, "change", "(III)I"⟩
abbrev cX5_go : ByteArray := prog_1_method_10_code
def yX5_go : MethodName := ⟨RX5, "go", "(I)I"⟩
abbrev cX5_now : ByteArray := prog_1_method_11_code
def yX5_now : MethodName := ⟨RX5, "now", "(I)I"⟩
abbrev cX5_ahead : ByteArray := prog_1_method_12_code
def yX5_ahead : MethodName := ⟨RX5, "ahead", "(II)I"⟩
abbrev cX5_belief : ByteArray := prog_1_method_13_code
def yX5_belief : MethodName := ⟨RX5, "belief", "(III)I"⟩
abbrev cX5_when : ByteArray := prog_1_method_14_code
def yX5_when : MethodName := ⟨RX5, "when", "(I)I"⟩
abbrev cX5_first : ByteArray := prog_1_method_15_code
def yX5_first : MethodName := ⟨RX5, "first", "()I"⟩
abbrev cX5_reaches : ByteArray := prog_1_method_16_code
def yX5_reaches : MethodName := ⟨RX5, "reaches", "(II)I"⟩
abbrev cX5_range : ByteArray := prog_1_method_17_code
def yX5_range : MethodName := ⟨RX5, "range", "(III)I"⟩
abbrev cX5_enough : ByteArray := prog_1_method_18_code
def yX5_enough : MethodName := ⟨RX5, "enough", "(I)I"⟩
abbrev cX5_hide : ByteArray := prog_1_method_19_code
def yX5_hide : MethodName := ⟨RX5, "hide", "(II)I"⟩
abbrev cX5_safe : ByteArray := prog_1_method_20_code
def yX5_safe : MethodName := ⟨RX5, "safe", "(II)I"⟩
abbrev cX5_sleep : ByteArray := prog_1_method_21_code
def yX5_sleep : MethodName := ⟨RX5, "sleep", "(I)I"⟩
abbrev cX5_turns : ByteArray := prog_1_method_22_code
def yX5_turns : MethodName := ⟨RX5, "turns", "()I"⟩
abbrev cX5_seat : ByteArray := prog_1_method_23_code
def yX5_seat : MethodName := ⟨RX5, "seat", "(II)I"⟩
abbrev cX5_kindFor : ByteArray := prog_1_method_24_code
def yX5_kindFor : MethodName := ⟨RX5, "kindFor", "(II)I"⟩
abbrev cX5_wantFor : ByteArray := prog_1_method_25_code
def yX5_wantFor : MethodName := ⟨RX5, "wantFor", "(II)I"⟩
abbrev cX5_watch : ByteArray := prog_1_method_26_code
def yX5_watch : MethodName := ⟨RX5, "watch", "(I)I"⟩
abbrev cX5_fits : ByteArray := prog_1_method_27_code
def yX5_fits : MethodName := ⟨RX5, "fits", "(III)I"⟩
abbrev cX5_opened : ByteArray := prog_1_method_28_code
def yX5_opened : MethodName := ⟨RX5, "opened", "(III)I"⟩
abbrev cX5_kinds : ByteArray := prog_1_method_29_code
def yX5_kinds : MethodName := ⟨RX5, "kinds", "(II)I"⟩
abbrev cX5_nights : ByteArray := prog_1_method_30_code
def yX5_nights : MethodName := ⟨RX5, "nights", "(I)I"⟩
abbrev cX5_odds : ByteArray := prog_1_method_31_code
def yX5_odds : MethodName := ⟨RX5, "odds", "(II)J"⟩
abbrev cX5_seed : ByteArray := prog_1_method_32_code
def yX5_seed : MethodName := ⟨RX5, "seed", "(I)I"⟩
abbrev cX5_feed : ByteArray := prog_1_method_33_code
def yX5_feed : MethodName := ⟨RX5, "feed", "(II)I"⟩
abbrev cX5_wipe : ByteArray := prog_1_method_34_code
def yX5_wipe : MethodName := ⟨RX5, "wipe", "()I"⟩
abbrev cX5_text : ByteArray := prog_1_method_35_code
def yX5_text : MethodName := ⟨RX5, "text", "()I"⟩
abbrev cX5_hold : ByteArray := prog_1_method_36_code
def yX5_hold : MethodName := ⟨RX5, "hold", "(II)I"⟩
abbrev cX5_as : ByteArray := prog_1_method_37_code
def yX5_as : MethodName := ⟨RX5, "as", "(II)I"⟩
abbrev cX5_sheet : ByteArray := prog_1_method_38_code
def yX5_sheet : MethodName := ⟨RX5, "sheet", "(III)I"⟩
abbrev cX5_write : ByteArray := prog_1_method_39_code
def yX5_write : MethodName := ⟨RX5, "write", "(III)I"⟩
abbrev cX5_copy : ByteArray := prog_1_method_40_code
def yX5_copy : MethodName := ⟨RX5, "copy", "(IIIII)I"⟩
abbrev cX5_load : ByteArray := prog_1_method_41_code
def yX5_load : MethodName := ⟨RX5, "load", "(I)I"⟩
abbrev cX5_judge : ByteArray := prog_1_method_42_code
def yX5_judge : MethodName := ⟨RX5, "judge", "(I)I"⟩
abbrev cX5_image : ByteArray := prog_1_method_43_code
def yX5_image : MethodName := ⟨RX5, "image", "()I"⟩
abbrev cX5_undo : ByteArray := prog_1_method_44_code
def yX5_undo : MethodName := ⟨RX5, "undo", "()I"⟩
abbrev cX5_tear : ByteArray := prog_1_method_45_code
def yX5_tear : MethodName := ⟨RX5, "tear", "()I"⟩
abbrev cX5_count : ByteArray := prog_1_method_46_code
def yX5_count : MethodName := ⟨RX5, "count", "(I)I"⟩
abbrev cX5_status : ByteArray := prog_1_method_47_code
def yX5_status : MethodName := ⟨RX5, "status", "(I)I"⟩
abbrev cX5_outside : ByteArray := prog_1_method_48_code
def yX5_outside : MethodName := ⟨RX5, "outside", "(II)Z"⟩
abbrev cX5_together : ByteArray := prog_1_method_49_code
def yX5_together : MethodName := ⟨RX5, "together", "([I)I"⟩
abbrev cX5_finding : ByteArray := prog_1_method_50_code
def yX5_finding : MethodName := ⟨RX5, "finding", "(I)I"⟩
abbrev cX5_noWatcher : ByteArray := prog_1_method_51_code
def yX5_noWatcher : MethodName := ⟨RX5, "noWatcher", "(I)Z"⟩
abbrev cX5_noTrial : ByteArray := prog_1_method_52_code
def yX5_noTrial : MethodName := ⟨RX5, "noTrial", "(II)Z"⟩
abbrev cX5_mostOf : ByteArray := prog_1_method_53_code
def yX5_mostOf : MethodName := ⟨RX5, "mostOf", "(I)I"⟩
abbrev cX5_waterTried : ByteArray := prog_1_method_54_code
def yX5_waterTried : MethodName := ⟨RX5, "waterTried", "()LValveRiver$Water;"⟩
abbrev cX5_isEnough : ByteArray := prog_1_method_55_code
def yX5_isEnough : MethodName := ⟨RX5, "isEnough", "(II)Z"⟩
abbrev cX5_mostBelieving : ByteArray := prog_1_method_56_code
def yX5_mostBelieving : MethodName := ⟨RX5, "mostBelieving", "(III)I"⟩
abbrev cX5_stir : ByteArray := prog_1_method_57_code
def yX5_stir : MethodName := ⟨RX5, "stir", "(I)V"⟩
abbrev cX5_sheetTrouble : ByteArray := prog_1_method_58_code
def yX5_sheetTrouble : MethodName := ⟨RX5, "sheetTrouble", "(I)I"⟩
abbrev cX5_fittingTrouble : ByteArray := prog_1_method_59_code
def yX5_fittingTrouble : MethodName := ⟨RX5, "fittingTrouble", "(III)I"⟩
abbrev cX5_couldBeOpened : ByteArray := prog_1_method_60_code
def yX5_couldBeOpened : MethodName := ⟨RX5, "couldBeOpened", "(ILValveRiver$Sheet;II)Z"⟩
abbrev cX5_couldBeOfKind : ByteArray := prog_1_method_61_code
def yX5_couldBeOfKind : MethodName := ⟨RX5, "couldBeOfKind", "(ILValveRiver$Sheet;I)Z"⟩
abbrev cX5_commonDivisor : ByteArray := prog_1_method_62_code
def yX5_commonDivisor : MethodName := ⟨RX5, "commonDivisor", "(I)I"⟩
abbrev cX5_power : ByteArray := prog_1_method_63_code
def yX5_power : MethodName := ⟨RX5, "power", "(II)J"⟩
def RX6 : String := "ValveRiverModel"
def TX6 : u_T := fun k => match k with
  | 0 => ("ValveRiverModel", "s", "[I", true)
  | 1 => ("ValveRiverModel", "keptS", "[I", true)
  | 2 => ("ValveRiverModel", "other", "[I", true)
  | 3 => ("ValveRiverModel", "aside", "[I", true)
  | 4 => ("ValveRiverModel", "statuses", "[I", true)
  | 5 => ("ValveRiverModel", "isKept", "Z", false)
  | 6 => ("ValveRiverModel", "isShut", "Z", false)
  | 7 => ("ValveRiverModel", "was", "[I", true)
  | 8 => ("ValveRiverModel", "greatest", "I", false)
  | 9 => ("ValveRiverModel", "changes", "[I", true)
  | 10 => ("ValveRiverModel", "leastOpened", "I", false)
  | 11 => ("ValveRiverModel", "manyOpened", "I", false)
  | 12 => ("ValveRiverModel", "tape", "[I", true)
  | 13 => ("ValveRiverModel", "taped", "I", false)
  | 14 => ("ValveRiverModel", "from", "I", false)
  | 15 => ("ValveRiverModel", "to", "I", false)
  | 16 => ("ValveRiverModel", "value", "I", false)
  | 17 => ("ValveRiverModel", "isWrong", "Z", false)
  | 18 => ("ValveRiverModel", "bitsOf", "[I", true)
  | 19 => ("ValveRiverModel", "sizeOf", "[I", true)
  | 20 => ("ValveRiverModel", "numbers", "[I", true)
  | _ => ("ValveRiverModel", "moved", "[I", true)
def tyX6 : Nat → FieldType := fun k => match k with
  | 0 => .array .int
  | 1 => .array .int
  | 2 => .array .int
  | 3 => .array .int
  | 4 => .array .int
  | 5 => .boolean
  | 6 => .boolean
  | 7 => .array .int
  | 8 => .int
  | 9 => .array .int
  | 10 => .int
  | 11 => .int
  | 12 => .array .int
  | 13 => .int
  | 14 => .int
  | 15 => .int
  | 16 => .int
  | 17 => .boolean
  | 18 => .array .int
  | 19 => .array .int
  | 20 => .array .int
  | _ => .array .int
theorem nmX6 : ∀ a, a < 22 → ∀ b, b < 22 → a ≠ b → (TX6 a).2.1 ≠ (TX6 b).2.1 := by decide +kernel
theorem tyX6_ok : ∀ k, k < 22 → parseFieldDescriptor (TX6 k).2.2.1 = some (tyX6 k) := by decide +kernel
abbrev cX6_init : ByteArray := prog_8_method_1_code
def yX6_init : MethodName := ⟨RX6, "<init>", "()V"⟩
abbrev cX6_in : ByteArray := prog_8_method_2_code
def yX6_in : MethodName := ⟨RX6, "in", "(JJJ)Z"⟩
abbrev cX6_finds : ByteArray := prog_8_method_3_code
def yX6_finds : MethodName := ⟨RX6, "finds", "(I)I"⟩
abbrev cX6_saves : ByteArray := prog_8_method_4_code
def yX6_saves : MethodName := ⟨RX6, "saves", "()V"⟩
abbrev cX6_putsBack : ByteArray := prog_8_method_5_code
def yX6_putsBack : MethodName := ⟨RX6, "putsBack", "()V"⟩
abbrev cX6_laysAside : ByteArray := prog_8_method_6_code
def yX6_laysAside : MethodName := ⟨RX6, "laysAside", "()V"⟩
abbrev cX6_takesBack : ByteArray := prog_8_method_7_code
def yX6_takesBack : MethodName := ⟨RX6, "takesBack", "(I)I"⟩
abbrev cX6_becomes : ByteArray := prog_8_method_8_code
def yX6_becomes : MethodName := ⟨RX6, "becomes", "(II)I"⟩
abbrev cX6_isCell : ByteArray := prog_8_method_9_code
def yX6_isCell : MethodName := ⟨RX6, "isCell", "(I)Z"⟩
abbrev cX6_isHour : ByteArray := prog_8_method_10_code
def yX6_isHour : MethodName := ⟨RX6, "isHour", "(I)Z"⟩
abbrev cX6_isOpening : ByteArray := prog_8_method_11_code
def yX6_isOpening : MethodName := ⟨RX6, "isOpening", "(I)Z"⟩
abbrev cX6_isWatcher : ByteArray := prog_8_method_12_code
def yX6_isWatcher : MethodName := ⟨RX6, "isWatcher", "(I)Z"⟩
abbrev cX6_isKind : ByteArray := prog_8_method_13_code
def yX6_isKind : MethodName := ⟨RX6, "isKind", "(I)Z"⟩
abbrev cX6_place : ByteArray := prog_8_method_14_code
def yX6_place : MethodName := ⟨RX6, "place", "(II)I"⟩
abbrev cX6_its : ByteArray := prog_8_method_15_code
def yX6_its : MethodName := ⟨RX6, "its", "(II)I"⟩
abbrev cX6_there : ByteArray := prog_8_method_16_code
def yX6_there : MethodName := ⟨RX6, "there", "(I)I"⟩
abbrev cX6_level : ByteArray := prog_8_method_17_code
def yX6_level : MethodName := ⟨RX6, "level", "(II)I"⟩
abbrev cX6_stands : ByteArray := prog_8_method_18_code
def yX6_stands : MethodName := ⟨RX6, "stands", "(I)I"⟩
abbrev cX6_plan : ByteArray := prog_8_method_19_code
def yX6_plan : MethodName := ⟨RX6, "plan", "(II)I"⟩
abbrev cX6_opening : ByteArray := prog_8_method_20_code
def yX6_opening : MethodName := ⟨RX6, "opening", "(I)I"⟩
abbrev cX6_openings : ByteArray := prog_8_method_21_code
def yX6_openings : MethodName := ⟨RX6, "openings", "()I"⟩
abbrev cX6_opensAll : ByteArray := prog_8_method_22_code
def yX6_opensAll : MethodName := ⟨RX6, "opensAll", "(I)V"⟩
abbrev cX6_steady : ByteArray := prog_8_method_23_code
def yX6_steady : MethodName := ⟨RX6, "steady", "(I)I"⟩
abbrev cX6_adds : ByteArray := prog_8_method_24_code
def yX6_adds : MethodName := ⟨RX6, "adds", "(II)I"⟩
abbrev cX6_watcher : ByteArray := prog_8_method_25_code
def yX6_watcher : MethodName := ⟨RX6, "watcher", "(II)I"⟩
abbrev cX6_bears : ByteArray := prog_8_method_26_code
def yX6_bears : MethodName := ⟨RX6, "bears", "(I)I"⟩
abbrev cX6_doubts : ByteArray := prog_8_method_27_code
def yX6_doubts : MethodName := ⟨RX6, "doubts", "(I)I"⟩
abbrev cX6_trusts : ByteArray := prog_8_method_28_code
def yX6_trusts : MethodName := ⟨RX6, "trusts", "(I)I"⟩
abbrev cX6_of : ByteArray := prog_8_method_29_code
def yX6_of : MethodName := ⟨RX6, "of", "(II)I"⟩
abbrev cX6_most : ByteArray := prog_8_method_30_code
def yX6_most : MethodName := ⟨RX6, "most", "(I)I"⟩
abbrev cX6_change : ByteArray := prog_8_method_31_code
def yX6_change : MethodName := ⟨RX6, "change", "(III)I"⟩
abbrev cX6_flows : ByteArray := prog_8_method_32_code
def yX6_flows : MethodName := ⟨RX6, "flows", "()V"⟩
abbrev cX6_distance : ByteArray := prog_8_method_33_code
def yX6_distance : MethodName := ⟨RX6, "distance", "(II)I"⟩
abbrev cX6_sees : ByteArray := prog_8_method_34_code
def yX6_sees : MethodName := ⟨RX6, "sees", "(I)V"⟩
abbrev cX6_hour : ByteArray := prog_8_method_35_code
def yX6_hour : MethodName := ⟨RX6, "hour", "()V"⟩
abbrev cX6_goesOn : ByteArray := prog_8_method_36_code
def yX6_goesOn : MethodName := ⟨RX6, "goesOn", "(I)V"⟩
abbrev cX6_knowing : ByteArray := prog_8_method_37_code
def yX6_knowing : MethodName := ⟨RX6, "knowing", "()I"⟩
abbrev cX6_wanting : ByteArray := prog_8_method_38_code
def yX6_wanting : MethodName := ⟨RX6, "wanting", "()I"⟩
abbrev cX6_go : ByteArray := prog_8_method_39_code
def yX6_go : MethodName := ⟨RX6, "go", "(I)I"⟩
abbrev cX6_levels : ByteArray := prog_8_method_40_code
def yX6_levels : MethodName := ⟨RX6, "levels", "()I"⟩
abbrev cX6_beliefs : ByteArray := prog_8_method_41_code
def yX6_beliefs : MethodName := ⟨RX6, "beliefs", "()I"⟩
abbrev cX6_now : ByteArray := prog_8_method_42_code
def yX6_now : MethodName := ⟨RX6, "now", "(I)I"⟩
abbrev cX6_behind : ByteArray := prog_8_method_43_code
def yX6_behind : MethodName := ⟨RX6, "behind", "(II)I"⟩
abbrev cX6_ahead : ByteArray := prog_8_method_44_code
def yX6_ahead : MethodName := ⟨RX6, "ahead", "(II)I"⟩
abbrev cX6_belief : ByteArray := prog_8_method_45_code
def yX6_belief : MethodName := ⟨RX6, "belief", "(III)I"⟩
abbrev cX6_until : ByteArray := prog_8_method_46_code
def yX6_until : MethodName := ⟨RX6, "until", "(IIZ)I"⟩
abbrev cX6_orNone : ByteArray := prog_8_method_47_code
def yX6_orNone : MethodName := ⟨RX6, "orNone", "(I)I"⟩
abbrev cX6_when : ByteArray := prog_8_method_48_code
def yX6_when : MethodName := ⟨RX6, "when", "(I)I"⟩
abbrev cX6_first : ByteArray := prog_8_method_49_code
def yX6_first : MethodName := ⟨RX6, "first", "()I"⟩
abbrev cX6_reaches : ByteArray := prog_8_method_50_code
def yX6_reaches : MethodName := ⟨RX6, "reaches", "(II)I"⟩
abbrev cX6_leastOf : ByteArray := prog_8_method_51_code
def yX6_leastOf : MethodName := ⟨RX6, "leastOf", "(III)I"⟩
abbrev cX6_range : ByteArray := prog_8_method_52_code
def yX6_range : MethodName := ⟨RX6, "range", "(III)I"⟩
abbrev cX6_enough : ByteArray := prog_8_method_53_code
def yX6_enough : MethodName := ⟨RX6, "enough", "(I)I"⟩
abbrev cX6_isSoon : ByteArray := prog_8_method_54_code
def yX6_isSoon : MethodName := ⟨RX6, "isSoon", "(I)Z"⟩
abbrev cX6_ones : ByteArray := prog_8_method_55_code
def yX6_ones : MethodName := ⟨RX6, "ones", "(I)I"⟩
abbrev cX6_hide : ByteArray := prog_8_method_56_code
def yX6_hide : MethodName := ⟨RX6, "hide", "(II)I"⟩
abbrev cX6_safe : ByteArray := prog_8_method_57_code
def yX6_safe : MethodName := ⟨RX6, "safe", "(II)I"⟩
abbrev cX6_sleep : ByteArray := prog_8_method_58_code
def yX6_sleep : MethodName := ⟨RX6, "sleep", "(I)I"⟩
abbrev cX6_turns : ByteArray := prog_8_method_59_code
def yX6_turns : MethodName := ⟨RX6, "turns", "()I"⟩
abbrev cX6_mostBelief : ByteArray := prog_8_method_60_code
def yX6_mostBelief : MethodName := ⟨RX6, "mostBelief", "(III)I"⟩
abbrev cX6_seat : ByteArray := prog_8_method_61_code
def yX6_seat : MethodName := ⟨RX6, "seat", "(II)I"⟩
abbrev cX6_kindFor : ByteArray := prog_8_method_62_code
def yX6_kindFor : MethodName := ⟨RX6, "kindFor", "(II)I"⟩
abbrev cX6_wantFor : ByteArray := prog_8_method_63_code
def yX6_wantFor : MethodName := ⟨RX6, "wantFor", "(II)I"⟩
abbrev cX6_watch : ByteArray := prog_8_method_64_code
def yX6_watch : MethodName := ⟨RX6, "watch", "(I)I"⟩
abbrev cX6_isTold : ByteArray := prog_8_method_65_code
def yX6_isTold : MethodName := ⟨RX6, "isTold", "(II)Z"⟩
abbrev cX6_findOpened : ByteArray := prog_8_method_66_code
def yX6_findOpened : MethodName := ⟨RX6, "findOpened", "(III)V"⟩
abbrev cX6_wrongOpened : ByteArray := prog_8_method_67_code
def yX6_wrongOpened : MethodName := ⟨RX6, "wrongOpened", "(III)I"⟩
abbrev cX6_fits : ByteArray := prog_8_method_68_code
def yX6_fits : MethodName := ⟨RX6, "fits", "(III)I"⟩
abbrev cX6_opened : ByteArray := prog_8_method_69_code
def yX6_opened : MethodName := ⟨RX6, "opened", "(III)I"⟩
abbrev cX6_kinds : ByteArray := prog_8_method_70_code
def yX6_kinds : MethodName := ⟨RX6, "kinds", "(II)I"⟩
abbrev cX6_draw : ByteArray := prog_8_method_71_code
def yX6_draw : MethodName := ⟨RX6, "draw", "()I"⟩
abbrev cX6_nights : ByteArray := prog_8_method_72_code
def yX6_nights : MethodName := ⟨RX6, "nights", "(I)I"⟩
abbrev cX6_odds : ByteArray := prog_8_method_73_code
def yX6_odds : MethodName := ⟨RX6, "odds", "(II)J"⟩
abbrev cX6_seed : ByteArray := prog_8_method_74_code
def yX6_seed : MethodName := ⟨RX6, "seed", "(I)I"⟩
abbrev cX6_feed : ByteArray := prog_8_method_75_code
def yX6_feed : MethodName := ⟨RX6, "feed", "(II)I"⟩
abbrev cX6_wipe : ByteArray := prog_8_method_76_code
def yX6_wipe : MethodName := ⟨RX6, "wipe", "()I"⟩
abbrev cX6_byteAt : ByteArray := prog_8_method_77_code
def yX6_byteAt : MethodName := ⟨RX6, "byteAt", "(I)I"⟩
abbrev cX6_isLetter : ByteArray := prog_8_method_78_code
def yX6_isLetter : MethodName := ⟨RX6, "isLetter", "(I)Z"⟩
abbrev cX6_isDigit : ByteArray := prog_8_method_79_code
def yX6_isDigit : MethodName := ⟨RX6, "isDigit", "(I)Z"⟩
abbrev cX6_token : ByteArray := prog_8_method_80_code
def yX6_token : MethodName := ⟨RX6, "token", "()V"⟩
abbrev cX6_must : ByteArray := prog_8_method_81_code
def yX6_must : MethodName := ⟨RX6, "must", "(Z)V"⟩
abbrev cX6_word : ByteArray := prog_8_method_82_code
def yX6_word : MethodName := ⟨RX6, "word", "()J"⟩
abbrev cX6_number : ByteArray := prog_8_method_83_code
def yX6_number : MethodName := ⟨RX6, "number", "(II)V"⟩
abbrev cX6_kindHere : ByteArray := prog_8_method_84_code
def yX6_kindHere : MethodName := ⟨RX6, "kindHere", "()I"⟩
abbrev cX6_perhaps : ByteArray := prog_8_method_85_code
def yX6_perhaps : MethodName := ⟨RX6, "perhaps", "(JII)V"⟩
abbrev cX6_watcherItem : ByteArray := prog_8_method_86_code
def yX6_watcherItem : MethodName := ⟨RX6, "watcherItem", "(I)V"⟩
abbrev cX6_rowItem : ByteArray := prog_8_method_87_code
def yX6_rowItem : MethodName := ⟨RX6, "rowItem", "(III)V"⟩
abbrev cX6_item : ByteArray := prog_8_method_88_code
def yX6_item : MethodName := ⟨RX6, "item", "()V"⟩
abbrev cX6_text : ByteArray := prog_8_method_89_code
def yX6_text : MethodName := ⟨RX6, "text", "()I"⟩
abbrev cX6_isSpot : ByteArray := prog_8_method_90_code
def yX6_isSpot : MethodName := ⟨RX6, "isSpot", "(I)Z"⟩
abbrev cX6_hold : ByteArray := prog_8_method_91_code
def yX6_hold : MethodName := ⟨RX6, "hold", "(II)I"⟩
abbrev cX6_above : ByteArray := prog_8_method_92_code
def yX6_above : MethodName := ⟨RX6, "above", "(I)I"⟩
abbrev cX6_as : ByteArray := prog_8_method_93_code
def yX6_as : MethodName := ⟨RX6, "as", "(II)I"⟩
abbrev cX6_isOne : ByteArray := prog_8_method_94_code
def yX6_isOne : MethodName := ⟨RX6, "isOne", "(I)Z"⟩
abbrev cX6_sheet : ByteArray := prog_8_method_95_code
def yX6_sheet : MethodName := ⟨RX6, "sheet", "(III)I"⟩
abbrev cX6_narrowed : ByteArray := prog_8_method_96_code
def yX6_narrowed : MethodName := ⟨RX6, "narrowed", "(II)I"⟩
abbrev cX6_wrong : ByteArray := prog_8_method_97_code
def yX6_wrong : MethodName := ⟨RX6, "wrong", "(I)I"⟩
abbrev cX6_write : ByteArray := prog_8_method_98_code
def yX6_write : MethodName := ⟨RX6, "write", "(III)I"⟩
abbrev cX6_copy : ByteArray := prog_8_method_99_code
def yX6_copy : MethodName := ⟨RX6, "copy", "(IIIII)I"⟩
abbrev cX6_load : ByteArray := prog_8_method_100_code
def yX6_load : MethodName := ⟨RX6, "load", "(I)I"⟩
abbrev cX6_judge : ByteArray := prog_8_method_101_code
def yX6_judge : MethodName := ⟨RX6, "judge", "(I)I"⟩
abbrev cX6_image : ByteArray := prog_8_method_102_code
def yX6_image : MethodName := ⟨RX6, "image", "()I"⟩
abbrev cX6_undo : ByteArray := prog_8_method_103_code
def yX6_undo : MethodName := ⟨RX6, "undo", "()I"⟩
abbrev cX6_tear : ByteArray := prog_8_method_104_code
def yX6_tear : MethodName := ⟨RX6, "tear", "()I"⟩
abbrev cX6_heldSpots : ByteArray := prog_8_method_105_code
def yX6_heldSpots : MethodName := ⟨RX6, "heldSpots", "()I"⟩
abbrev cX6_count : ByteArray := prog_8_method_106_code
def yX6_count : MethodName := ⟨RX6, "count", "(I)I"⟩
abbrev cX6_status : ByteArray := prog_8_method_107_code
def yX6_status : MethodName := ⟨RX6, "status", "(I)I"⟩
def RJ6 : String := "java/lang/Integer"
def TJ6 : u_T := fun k => match k with
  | _ => ("", "", "", false)
def tyJ6 : Nat → FieldType := fun k => match k with
  | _ => .int
theorem nmJ6 : ∀ a, a < 0 → ∀ b, b < 0 → a ≠ b → (TJ6 a).2.1 ≠ (TJ6 b).2.1 := by decide +kernel
theorem tyJ6_ok : ∀ k, k < 0 → parseFieldDescriptor (TJ6 k).2.2.1 = some (tyJ6 k) := by decide +kernel
abbrev cJ6_numberOfTrailingZeros_0f7a4 : ByteArray := prog_9_method_48_code
def yJ6_numberOfTrailingZeros_0f7a4 : MethodName := ⟨RJ6, "numberOfTrailingZeros", "(I)I"⟩
abbrev cJ6_bitCount_0f7a4 : ByteArray := prog_9_method_49_code
def yJ6_bitCount_0f7a4 : MethodName := ⟨RJ6, "bitCount", "(I)I"⟩
def RJ9 : String := "java/lang/Math"
def TJ9 : u_T := fun k => match k with
  | _ => ("", "", "", false)
def tyJ9 : Nat → FieldType := fun k => match k with
  | _ => .int
theorem nmJ9 : ∀ a, a < 0 → ∀ b, b < 0 → a ≠ b → (TJ9 a).2.1 ≠ (TJ9 b).2.1 := by decide +kernel
theorem tyJ9_ok : ∀ k, k < 0 → parseFieldDescriptor (TJ9 k).2.2.1 = some (tyJ9 k) := by decide +kernel
abbrev cJ9_abs_0f7a4 : ByteArray := prog_10_method_59_code
def yJ9_abs_0f7a4 : MethodName := ⟨RJ9, "abs", "(I)I"⟩
abbrev cJ9_max_7cf53 : ByteArray := prog_10_method_65_code
def yJ9_max_7cf53 : MethodName := ⟨RJ9, "max", "(II)I"⟩
abbrev cJ9_min_7cf53 : ByteArray := prog_10_method_69_code
def yJ9_min_7cf53 : MethodName := ⟨RJ9, "min", "(II)I"⟩
def RJ0 : String := "java/lang/String"
def TJ0 : u_T := fun k => match k with
  | _ => ("", "", "", false)
def tyJ0 : Nat → FieldType := fun k => match k with
  | _ => .int
theorem nmJ0 : ∀ a, a < 0 → ∀ b, b < 0 → a ≠ b → (TJ0 a).2.1 ≠ (TJ0 b).2.1 := by decide +kernel
theorem tyJ0_ok : ∀ k, k < 0 → parseFieldDescriptor (TJ0 k).2.2.1 = some (tyJ0 k) := by decide +kernel
abbrev cJ0_length_8abf5 : ByteArray := prog_11_method_54_code
def yJ0_length_8abf5 : MethodName := ⟨RJ0, "length", "()I"⟩
abbrev cJ0_charAt_5068e : ByteArray := prog_11_method_56_code
def yJ0_charAt_5068e : MethodName := ⟨RJ0, "charAt", "(I)C"⟩
abbrev cJ0_coder_7d493 : ByteArray := prog_11_method_152_code
def yJ0_coder_7d493 : MethodName := ⟨RJ0, "coder", "()B"⟩
abbrev cJ0_isLatin1_aae02 : ByteArray := prog_11_method_154_code
def yJ0_isLatin1_aae02 : MethodName := ⟨RJ0, "isLatin1", "()Z"⟩
abbrev cJ0_checkIndex_df160 : ByteArray := prog_11_method_155_code
def yJ0_checkIndex_df160 : MethodName := ⟨RJ0, "checkIndex", "(II)V"⟩
def RJ1 : String := "java/lang/StringLatin1"
def TJ1 : u_T := fun k => match k with
  | _ => ("", "", "", false)
def tyJ1 : Nat → FieldType := fun k => match k with
  | _ => .int
theorem nmJ1 : ∀ a, a < 0 → ∀ b, b < 0 → a ≠ b → (TJ1 a).2.1 ≠ (TJ1 b).2.1 := by decide +kernel
theorem tyJ1_ok : ∀ k, k < 0 → parseFieldDescriptor (TJ1 k).2.2.1 = some (tyJ1 k) := by decide +kernel
abbrev cJ1_charAt_3b067 : ByteArray := prog_12_method_2_code
def yJ1_charAt_3b067 : MethodName := ⟨RJ1, "charAt", "([BI)C"⟩
def RJ2 : String := "java/lang/StringUTF16"
def TJ2 : u_T := fun k => match k with
  | _ => ("", "", "", false)
def tyJ2 : Nat → FieldType := fun k => match k with
  | _ => .int
theorem nmJ2 : ∀ a, a < 0 → ∀ b, b < 0 → a ≠ b → (TJ2 a).2.1 ≠ (TJ2 b).2.1 := by decide +kernel
theorem tyJ2_ok : ∀ k, k < 0 → parseFieldDescriptor (TJ2 k).2.2.1 = some (tyJ2 k) := by decide +kernel
abbrev cJ2_getChar_3b067 : ByteArray := prog_13_method_5_code
def yJ2_getChar_3b067 : MethodName := ⟨RJ2, "getChar", "([BI)C"⟩
abbrev cJ2_length_9d52b : ByteArray := prog_13_method_6_code
def yJ2_length_9d52b : MethodName := ⟨RJ2, "length", "([B)I"⟩
abbrev cJ2_charAt_3b067 : ByteArray := prog_13_method_83_code
def yJ2_charAt_3b067 : MethodName := ⟨RJ2, "charAt", "([BI)C"⟩
abbrev cJ2_checkIndex_2214a : ByteArray := prog_13_method_91_code
def yJ2_checkIndex_2214a : MethodName := ⟨RJ2, "checkIndex", "(I[B)V"⟩
def RJ10 : String := "java/lang/System"
def TJ10 : u_T := fun k => match k with
  | _ => ("", "", "", false)
def tyJ10 : Nat → FieldType := fun k => match k with
  | _ => .int
theorem nmJ10 : ∀ a, a < 0 → ∀ b, b < 0 → a ≠ b → (TJ10 a).2.1 ≠ (TJ10 b).2.1 := by decide +kernel
theorem tyJ10_ok : ∀ k, k < 0 → parseFieldDescriptor (TJ10 k).2.2.1 = some (tyJ10 k) := by decide +kernel
def RJ3 : String := "jdk/internal/util/Preconditions"
def TJ3 : u_T := fun k => match k with
  | _ => ("", "", "", false)
def tyJ3 : Nat → FieldType := fun k => match k with
  | _ => .int
theorem nmJ3 : ∀ a, a < 0 → ∀ b, b < 0 → a ≠ b → (TJ3 a).2.1 ≠ (TJ3 b).2.1 := by decide +kernel
theorem tyJ3_ok : ∀ k, k < 0 → parseFieldDescriptor (TJ3 k).2.2.1 = some (tyJ3 k) := by decide +kernel
abbrev cJ3_checkIndex_8e157 : ByteArray := prog_15_method_11_code
def yJ3_checkIndex_8e157 : MethodName := ⟨RJ3, "checkIndex", "(IILjava/util/function/BiFunction;)I"⟩
def RL : String := "ValveRiverLaw"
abbrev cL_law : ByteArray := code
def yL_law : MethodName := ⟨RL, "law", "([I)Z"⟩
abbrev vwCl : List vw_C := [(RX0, TX0, 6), (RX1, TX1, 3), (RX2, TX2, 5), (RX3, TX3, 5), (RX4, TX4, 5), (RX5, TX5, 9), (RX6, TX6, 22)]
end
section
theorem dX0_init_0 : decode cX0_init 0 = .ok (.aload_n 0, 1) := by decide +kernel
theorem dX0_init_1 : decode cX0_init 1 = .ok (.invokespecial 3, 3) := by decide +kernel
theorem dX0_init_4 : decode cX0_init 4 = .ok (.aload_n 0, 1) := by decide +kernel
theorem dX0_init_5 : decode cX0_init 5 = .ok (.bipush 120, 2) := by decide +kernel
theorem dX0_init_7 : decode cX0_init 7 = .ok (.newarray .int, 2) := by decide +kernel
theorem dX0_init_9 : decode cX0_init 9 = .ok (.putfield 9, 3) := by decide +kernel
theorem dX0_init_12 : decode cX0_init 12 = .ok (.aload_n 0, 1) := by decide +kernel
theorem dX0_init_13 : decode cX0_init 13 = .ok (.iconst 0, 1) := by decide +kernel
theorem dX0_init_14 : decode cX0_init 14 = .ok (.putfield 15, 3) := by decide +kernel
theorem dX0_init_17 : decode cX0_init 17 = .ok (.aload_n 0, 1) := by decide +kernel
theorem dX0_init_18 : decode cX0_init 18 = .ok (.iconst (-1), 1) := by decide +kernel
theorem dX0_init_19 : decode cX0_init 19 = .ok (.putfield 19, 3) := by decide +kernel
theorem dX0_init_22 : decode cX0_init 22 = .ok (.aload_n 0, 1) := by decide +kernel
theorem dX0_init_23 : decode cX0_init 23 = .ok (.iconst 0, 1) := by decide +kernel
theorem dX0_init_24 : decode cX0_init 24 = .ok (.putfield 22, 3) := by decide +kernel
theorem dX0_init_27 : decode cX0_init 27 = .ok (.aload_n 0, 1) := by decide +kernel
theorem dX0_init_28 : decode cX0_init 28 = .ok (.iconst 0, 1) := by decide +kernel
theorem dX0_init_29 : decode cX0_init 29 = .ok (.putfield 25, 3) := by decide +kernel
theorem dX0_init_32 : decode cX0_init 32 = .ok (.aload_n 0, 1) := by decide +kernel
theorem dX0_init_33 : decode cX0_init 33 = .ok (.iconst 0, 1) := by decide +kernel
theorem dX0_init_34 : decode cX0_init 34 = .ok (.putfield 28, 3) := by decide +kernel
theorem dX0_init_37 : decode cX0_init 37 = .ok (.return_, 1) := by decide +kernel
theorem dX0_put_0 : decode cX0_put 0 = .ok (.aload_n 0, 1) := by decide +kernel
theorem dX0_put_1 : decode cX0_put 1 = .ok (.getfield 9, 3) := by decide +kernel
theorem dX0_put_4 : decode cX0_put 4 = .ok (.aload_n 0, 1) := by decide +kernel
theorem dX0_put_5 : decode cX0_put 5 = .ok (.getfield 15, 3) := by decide +kernel
theorem dX0_put_8 : decode cX0_put 8 = .ok (.iload_n 1, 1) := by decide +kernel
theorem dX0_put_9 : decode cX0_put 9 = .ok (.iastore, 1) := by decide +kernel
theorem dX0_put_10 : decode cX0_put 10 = .ok (.aload_n 0, 1) := by decide +kernel
theorem dX0_put_11 : decode cX0_put 11 = .ok (.dup, 1) := by decide +kernel
theorem dX0_put_12 : decode cX0_put 12 = .ok (.getfield 15, 3) := by decide +kernel
theorem dX0_put_15 : decode cX0_put 15 = .ok (.iconst 1, 1) := by decide +kernel
theorem dX0_put_16 : decode cX0_put 16 = .ok (.iadd, 1) := by decide +kernel
theorem dX0_put_17 : decode cX0_put 17 = .ok (.putfield 15, 3) := by decide +kernel
theorem dX0_put_20 : decode cX0_put 20 = .ok (.return_, 1) := by decide +kernel
theorem dX0_hasFault_0 : decode cX0_hasFault 0 = .ok (.aload_n 0, 1) := by decide +kernel
theorem dX0_hasFault_1 : decode cX0_hasFault 1 = .ok (.getfield 19, 3) := by decide +kernel
theorem dX0_hasFault_4 : decode cX0_hasFault 4 = .ok (.iconst (-1), 1) := by decide +kernel
theorem dX0_hasFault_5 : decode cX0_hasFault 5 = .ok (.if_icmp .eq 7, 3) := by decide +kernel
theorem dX0_hasFault_8 : decode cX0_hasFault 8 = .ok (.iconst 1, 1) := by decide +kernel
theorem dX0_hasFault_9 : decode cX0_hasFault 9 = .ok (.goto 4, 3) := by decide +kernel
theorem dX0_hasFault_12 : decode cX0_hasFault 12 = .ok (.iconst 0, 1) := by decide +kernel
theorem dX0_hasFault_13 : decode cX0_hasFault 13 = .ok (.ireturn, 1) := by decide +kernel
theorem dX0_read_0 : decode cX0_read 0 = .ok (.aload_n 0, 1) := by decide +kernel
theorem dX0_read_1 : decode cX0_read 1 = .ok (.iconst (-1), 1) := by decide +kernel
theorem dX0_read_2 : decode cX0_read 2 = .ok (.putfield 19, 3) := by decide +kernel
theorem dX0_read_5 : decode cX0_read 5 = .ok (.aload_n 0, 1) := by decide +kernel
theorem dX0_read_6 : decode cX0_read 6 = .ok (.iconst 0, 1) := by decide +kernel
theorem dX0_read_7 : decode cX0_read 7 = .ok (.putfield 28, 3) := by decide +kernel
theorem dX0_read_10 : decode cX0_read 10 = .ok (.aload_n 0, 1) := by decide +kernel
theorem dX0_read_11 : decode cX0_read 11 = .ok (.invokevirtual 31, 3) := by decide +kernel
theorem dX0_read_14 : decode cX0_read 14 = .ok (.iconst 1, 1) := by decide +kernel
theorem dX0_read_15 : decode cX0_read 15 = .ok (.istore_n 2, 1) := by decide +kernel
theorem dX0_read_16 : decode cX0_read 16 = .ok (.iload_n 2, 1) := by decide +kernel
theorem dX0_read_17 : decode cX0_read 17 = .ok (.bipush 120, 2) := by decide +kernel
theorem dX0_read_19 : decode cX0_read 19 = .ok (.if_icmp .gt 48, 3) := by decide +kernel
theorem dX0_read_22 : decode cX0_read 22 = .ok (.aload_n 0, 1) := by decide +kernel
theorem dX0_read_23 : decode cX0_read 23 = .ok (.aload_n 1, 1) := by decide +kernel
theorem dX0_read_24 : decode cX0_read 24 = .ok (.invokevirtual 34, 3) := by decide +kernel
theorem dX0_read_27 : decode cX0_read 27 = .ok (.aload_n 0, 1) := by decide +kernel
theorem dX0_read_28 : decode cX0_read 28 = .ok (.invokevirtual 38, 3) := by decide +kernel
theorem dX0_read_31 : decode cX0_read 31 = .ok (.ifCond .ne 10, 3) := by decide +kernel
theorem dX0_read_34 : decode cX0_read 34 = .ok (.aload_n 0, 1) := by decide +kernel
theorem dX0_read_35 : decode cX0_read 35 = .ok (.getfield 22, 3) := by decide +kernel
theorem dX0_read_38 : decode cX0_read 38 = .ok (.ifCond .ne 5, 3) := by decide +kernel
theorem dX0_read_41 : decode cX0_read 41 = .ok (.iload_n 2, 1) := by decide +kernel
theorem dX0_read_42 : decode cX0_read 42 = .ok (.ireturn, 1) := by decide +kernel
theorem dX0_read_43 : decode cX0_read 43 = .ok (.aload_n 0, 1) := by decide +kernel
theorem dX0_read_44 : decode cX0_read 44 = .ok (.getfield 22, 3) := by decide +kernel
theorem dX0_read_47 : decode cX0_read 47 = .ok (.iconst 3, 1) := by decide +kernel
theorem dX0_read_48 : decode cX0_read 48 = .ok (.if_icmp .eq 9, 3) := by decide +kernel
theorem dX0_read_51 : decode cX0_read 51 = .ok (.aload_n 0, 1) := by decide +kernel
theorem dX0_read_52 : decode cX0_read 52 = .ok (.invokevirtual 42, 3) := by decide +kernel
theorem dX0_read_55 : decode cX0_read 55 = .ok (.iload_n 2, 1) := by decide +kernel
theorem dX0_read_56 : decode cX0_read 56 = .ok (.ireturn, 1) := by decide +kernel
theorem dX0_read_57 : decode cX0_read 57 = .ok (.aload_n 0, 1) := by decide +kernel
theorem dX0_read_58 : decode cX0_read 58 = .ok (.invokevirtual 31, 3) := by decide +kernel
theorem dX0_read_61 : decode cX0_read 61 = .ok (.iinc 2 1, 3) := by decide +kernel
theorem dX0_read_64 : decode cX0_read 64 = .ok (.goto (-48), 3) := by decide +kernel
theorem dX0_read_67 : decode cX0_read 67 = .ok (.bipush 120, 2) := by decide +kernel
theorem dX0_read_69 : decode cX0_read 69 = .ok (.ireturn, 1) := by decide +kernel
theorem dX0_readItem_0 : decode cX0_readItem 0 = .ok (.aload_n 0, 1) := by decide +kernel
theorem dX0_readItem_1 : decode cX0_readItem 1 = .ok (.invokevirtual 45, 3) := by decide +kernel
theorem dX0_readItem_4 : decode cX0_readItem 4 = .ok (.istore_n 2, 1) := by decide +kernel
theorem dX0_readItem_5 : decode cX0_readItem 5 = .ok (.iload_n 2, 1) := by decide +kernel
theorem dX0_readItem_6 : decode cX0_readItem 6 = .ok (.iconst (-1), 1) := by decide +kernel
theorem dX0_readItem_7 : decode cX0_readItem 7 = .ok (.if_icmp .eq 12, 3) := by decide +kernel
theorem dX0_readItem_10 : decode cX0_readItem 10 = .ok (.aload_n 0, 1) := by decide +kernel
theorem dX0_readItem_11 : decode cX0_readItem 11 = .ok (.iload_n 2, 1) := by decide +kernel
theorem dX0_readItem_12 : decode cX0_readItem 12 = .ok (.aload_n 1, 1) := by decide +kernel
theorem dX0_readItem_13 : decode cX0_readItem 13 = .ok (.invokevirtual 49, 3) := by decide +kernel
theorem dX0_readItem_16 : decode cX0_readItem 16 = .ok (.goto 78, 3) := by decide +kernel
theorem dX0_readItem_19 : decode cX0_readItem 19 = .ok (.aload_n 0, 1) := by decide +kernel
theorem dX0_readItem_20 : decode cX0_readItem 20 = .ok (.ldc 53, 2) := by decide +kernel
theorem dX0_readItem_22 : decode cX0_readItem 22 = .ok (.invokevirtual 55, 3) := by decide +kernel
theorem dX0_readItem_25 : decode cX0_readItem 25 = .ok (.ifCond .eq 20, 3) := by decide +kernel
theorem dX0_readItem_28 : decode cX0_readItem 28 = .ok (.aload_n 0, 1) := by decide +kernel
theorem dX0_readItem_29 : decode cX0_readItem 29 = .ok (.aload_n 1, 1) := by decide +kernel
theorem dX0_readItem_30 : decode cX0_readItem 30 = .ok (.getfield 59, 3) := by decide +kernel
theorem dX0_readItem_33 : decode cX0_readItem 33 = .ok (.getfield 65, 3) := by decide +kernel
theorem dX0_readItem_36 : decode cX0_readItem 36 = .ok (.sipush 9999, 3) := by decide +kernel
theorem dX0_readItem_39 : decode cX0_readItem 39 = .ok (.invokevirtual 70, 3) := by decide +kernel
theorem dX0_readItem_42 : decode cX0_readItem 42 = .ok (.goto 52, 3) := by decide +kernel
theorem dX0_readItem_45 : decode cX0_readItem 45 = .ok (.aload_n 0, 1) := by decide +kernel
theorem dX0_readItem_46 : decode cX0_readItem 46 = .ok (.ldc 74, 2) := by decide +kernel
theorem dX0_readItem_48 : decode cX0_readItem 48 = .ok (.invokevirtual 55, 3) := by decide +kernel
theorem dX0_readItem_51 : decode cX0_readItem 51 = .ok (.ifCond .eq 19, 3) := by decide +kernel
theorem dX0_readItem_54 : decode cX0_readItem 54 = .ok (.aload_n 0, 1) := by decide +kernel
theorem dX0_readItem_55 : decode cX0_readItem 55 = .ok (.aload_n 1, 1) := by decide +kernel
theorem dX0_readItem_56 : decode cX0_readItem 56 = .ok (.getfield 59, 3) := by decide +kernel
theorem dX0_readItem_59 : decode cX0_readItem 59 = .ok (.getfield 76, 3) := by decide +kernel
theorem dX0_readItem_62 : decode cX0_readItem 62 = .ok (.bipush 99, 2) := by decide +kernel
theorem dX0_readItem_64 : decode cX0_readItem 64 = .ok (.invokevirtual 70, 3) := by decide +kernel
theorem dX0_readItem_67 : decode cX0_readItem 67 = .ok (.goto 27, 3) := by decide +kernel
theorem dX0_readItem_70 : decode cX0_readItem 70 = .ok (.aload_n 0, 1) := by decide +kernel
theorem dX0_readItem_71 : decode cX0_readItem 71 = .ok (.ldc 79, 2) := by decide +kernel
theorem dX0_readItem_73 : decode cX0_readItem 73 = .ok (.invokevirtual 55, 3) := by decide +kernel
theorem dX0_readItem_76 : decode cX0_readItem 76 = .ok (.ifCond .eq 14, 3) := by decide +kernel
theorem dX0_readItem_79 : decode cX0_readItem 79 = .ok (.aload_n 0, 1) := by decide +kernel
theorem dX0_readItem_80 : decode cX0_readItem 80 = .ok (.aload_n 1, 1) := by decide +kernel
theorem dX0_readItem_81 : decode cX0_readItem 81 = .ok (.getfield 59, 3) := by decide +kernel
theorem dX0_readItem_84 : decode cX0_readItem 84 = .ok (.invokevirtual 81, 3) := by decide +kernel
theorem dX0_readItem_87 : decode cX0_readItem 87 = .ok (.goto 7, 3) := by decide +kernel
theorem dX0_readItem_90 : decode cX0_readItem 90 = .ok (.aload_n 0, 1) := by decide +kernel
theorem dX0_readItem_91 : decode cX0_readItem 91 = .ok (.invokevirtual 42, 3) := by decide +kernel
theorem dX0_readItem_94 : decode cX0_readItem 94 = .ok (.return_, 1) := by decide +kernel
theorem dX0_readWatcher_0 : decode cX0_readWatcher 0 = .ok (.aload_n 2, 1) := by decide +kernel
theorem dX0_readWatcher_1 : decode cX0_readWatcher 1 = .ok (.invokevirtual 85, 3) := by decide +kernel
theorem dX0_readWatcher_4 : decode cX0_readWatcher 4 = .ok (.ifCond .eq 8, 3) := by decide +kernel
theorem dX0_readWatcher_7 : decode cX0_readWatcher 7 = .ok (.aload_n 0, 1) := by decide +kernel
theorem dX0_readWatcher_8 : decode cX0_readWatcher 8 = .ok (.invokevirtual 42, 3) := by decide +kernel
theorem dX0_readWatcher_11 : decode cX0_readWatcher 11 = .ok (.return_, 1) := by decide +kernel
theorem dX0_readWatcher_12 : decode cX0_readWatcher 12 = .ok (.aload_n 0, 1) := by decide +kernel
theorem dX0_readWatcher_13 : decode cX0_readWatcher 13 = .ok (.invokevirtual 31, 3) := by decide +kernel
theorem dX0_readWatcher_16 : decode cX0_readWatcher 16 = .ok (.aload_n 2, 1) := by decide +kernel
theorem dX0_readWatcher_17 : decode cX0_readWatcher 17 = .ok (.getfield 88, 3) := by decide +kernel
theorem dX0_readWatcher_20 : decode cX0_readWatcher 20 = .ok (.aload_n 2, 1) := by decide +kernel
theorem dX0_readWatcher_21 : decode cX0_readWatcher 21 = .ok (.iload_n 1, 1) := by decide +kernel
theorem dX0_readWatcher_22 : decode cX0_readWatcher 22 = .ok (.iconst 0, 1) := by decide +kernel
theorem dX0_readWatcher_23 : decode cX0_readWatcher 23 = .ok (.invokevirtual 92, 3) := by decide +kernel
theorem dX0_readWatcher_26 : decode cX0_readWatcher 26 = .ok (.aaload, 1) := by decide +kernel
theorem dX0_readWatcher_27 : decode cX0_readWatcher 27 = .ok (.astore_n 3, 1) := by decide +kernel
theorem dX0_readWatcher_28 : decode cX0_readWatcher 28 = .ok (.aload_n 0, 1) := by decide +kernel
theorem dX0_readWatcher_29 : decode cX0_readWatcher 29 = .ok (.ldc 96, 2) := by decide +kernel
theorem dX0_readWatcher_31 : decode cX0_readWatcher 31 = .ok (.invokevirtual 55, 3) := by decide +kernel
theorem dX0_readWatcher_34 : decode cX0_readWatcher 34 = .ok (.ifCond .eq 13, 3) := by decide +kernel
theorem dX0_readWatcher_37 : decode cX0_readWatcher 37 = .ok (.aload_n 3, 1) := by decide +kernel
theorem dX0_readWatcher_38 : decode cX0_readWatcher 38 = .ok (.aload_n 0, 1) := by decide +kernel
theorem dX0_readWatcher_39 : decode cX0_readWatcher 39 = .ok (.bipush 11, 2) := by decide +kernel
theorem dX0_readWatcher_41 : decode cX0_readWatcher 41 = .ok (.invokevirtual 98, 3) := by decide +kernel
theorem dX0_readWatcher_44 : decode cX0_readWatcher 44 = .ok (.putfield 102, 3) := by decide +kernel
theorem dX0_readWatcher_47 : decode cX0_readWatcher 47 = .ok (.aload_n 0, 1) := by decide +kernel
theorem dX0_readWatcher_48 : decode cX0_readWatcher 48 = .ok (.invokevirtual 38, 3) := by decide +kernel
theorem dX0_readWatcher_51 : decode cX0_readWatcher 51 = .ok (.ifCond .ne 23, 3) := by decide +kernel
theorem dX0_readWatcher_54 : decode cX0_readWatcher 54 = .ok (.aload_n 0, 1) := by decide +kernel
theorem dX0_readWatcher_55 : decode cX0_readWatcher 55 = .ok (.ldc 107, 2) := by decide +kernel
theorem dX0_readWatcher_57 : decode cX0_readWatcher 57 = .ok (.invokevirtual 55, 3) := by decide +kernel
theorem dX0_readWatcher_60 : decode cX0_readWatcher 60 = .ok (.ifCond .eq 14, 3) := by decide +kernel
theorem dX0_readWatcher_63 : decode cX0_readWatcher 63 = .ok (.aload_n 3, 1) := by decide +kernel
theorem dX0_readWatcher_64 : decode cX0_readWatcher 64 = .ok (.aload_n 0, 1) := by decide +kernel
theorem dX0_readWatcher_65 : decode cX0_readWatcher 65 = .ok (.sipush 999, 3) := by decide +kernel
theorem dX0_readWatcher_68 : decode cX0_readWatcher 68 = .ok (.invokevirtual 98, 3) := by decide +kernel
theorem dX0_readWatcher_71 : decode cX0_readWatcher 71 = .ok (.putfield 109, 3) := by decide +kernel
theorem dX0_readWatcher_74 : decode cX0_readWatcher 74 = .ok (.aload_n 0, 1) := by decide +kernel
theorem dX0_readWatcher_75 : decode cX0_readWatcher 75 = .ok (.invokevirtual 38, 3) := by decide +kernel
theorem dX0_readWatcher_78 : decode cX0_readWatcher 78 = .ok (.ifCond .ne 22, 3) := by decide +kernel
theorem dX0_readWatcher_81 : decode cX0_readWatcher 81 = .ok (.aload_n 0, 1) := by decide +kernel
theorem dX0_readWatcher_82 : decode cX0_readWatcher 82 = .ok (.ldc 112, 2) := by decide +kernel
theorem dX0_readWatcher_84 : decode cX0_readWatcher 84 = .ok (.invokevirtual 55, 3) := by decide +kernel
theorem dX0_readWatcher_87 : decode cX0_readWatcher 87 = .ok (.ifCond .eq 13, 3) := by decide +kernel
theorem dX0_readWatcher_90 : decode cX0_readWatcher 90 = .ok (.aload_n 3, 1) := by decide +kernel
theorem dX0_readWatcher_91 : decode cX0_readWatcher 91 = .ok (.aload_n 0, 1) := by decide +kernel
theorem dX0_readWatcher_92 : decode cX0_readWatcher 92 = .ok (.bipush 99, 2) := by decide +kernel
theorem dX0_readWatcher_94 : decode cX0_readWatcher 94 = .ok (.invokevirtual 98, 3) := by decide +kernel
theorem dX0_readWatcher_97 : decode cX0_readWatcher 97 = .ok (.putfield 114, 3) := by decide +kernel
theorem dX0_readWatcher_100 : decode cX0_readWatcher 100 = .ok (.return_, 1) := by decide +kernel
theorem dX0_readInto_0 : decode cX0_readInto 0 = .ok (.aload_n 0, 1) := by decide +kernel
theorem dX0_readInto_1 : decode cX0_readInto 1 = .ok (.aload_n 1, 1) := by decide +kernel
theorem dX0_readInto_2 : decode cX0_readInto 2 = .ok (.arraylength, 1) := by decide +kernel
theorem dX0_readInto_3 : decode cX0_readInto 3 = .ok (.iconst 1, 1) := by decide +kernel
theorem dX0_readInto_4 : decode cX0_readInto 4 = .ok (.isub, 1) := by decide +kernel
theorem dX0_readInto_5 : decode cX0_readInto 5 = .ok (.invokevirtual 98, 3) := by decide +kernel
theorem dX0_readInto_8 : decode cX0_readInto 8 = .ok (.istore_n 3, 1) := by decide +kernel
theorem dX0_readInto_9 : decode cX0_readInto 9 = .ok (.aload_n 0, 1) := by decide +kernel
theorem dX0_readInto_10 : decode cX0_readInto 10 = .ok (.invokevirtual 38, 3) := by decide +kernel
theorem dX0_readInto_13 : decode cX0_readInto 13 = .ok (.ifCond .eq 4, 3) := by decide +kernel
theorem dX0_readInto_16 : decode cX0_readInto 16 = .ok (.return_, 1) := by decide +kernel
theorem dX0_readInto_17 : decode cX0_readInto 17 = .ok (.aload_n 0, 1) := by decide +kernel
theorem dX0_readInto_18 : decode cX0_readInto 18 = .ok (.iload_n 2, 1) := by decide +kernel
theorem dX0_readInto_19 : decode cX0_readInto 19 = .ok (.invokevirtual 98, 3) := by decide +kernel
theorem dX0_readInto_22 : decode cX0_readInto 22 = .ok (.istore 4, 2) := by decide +kernel
theorem dX0_readInto_24 : decode cX0_readInto 24 = .ok (.aload_n 0, 1) := by decide +kernel
theorem dX0_readInto_25 : decode cX0_readInto 25 = .ok (.invokevirtual 38, 3) := by decide +kernel
theorem dX0_readInto_28 : decode cX0_readInto 28 = .ok (.ifCond .ne 8, 3) := by decide +kernel
theorem dX0_readInto_31 : decode cX0_readInto 31 = .ok (.aload_n 1, 1) := by decide +kernel
theorem dX0_readInto_32 : decode cX0_readInto 32 = .ok (.iload_n 3, 1) := by decide +kernel
theorem dX0_readInto_33 : decode cX0_readInto 33 = .ok (.iload 4, 2) := by decide +kernel
theorem dX0_readInto_35 : decode cX0_readInto 35 = .ok (.iastore, 1) := by decide +kernel
theorem dX0_readInto_36 : decode cX0_readInto 36 = .ok (.return_, 1) := by decide +kernel
theorem dX0_readSteady_0 : decode cX0_readSteady 0 = .ok (.aload_n 0, 1) := by decide +kernel
theorem dX0_readSteady_1 : decode cX0_readSteady 1 = .ok (.bipush 99, 2) := by decide +kernel
theorem dX0_readSteady_3 : decode cX0_readSteady 3 = .ok (.invokevirtual 98, 3) := by decide +kernel
theorem dX0_readSteady_6 : decode cX0_readSteady 6 = .ok (.istore_n 2, 1) := by decide +kernel
theorem dX0_readSteady_7 : decode cX0_readSteady 7 = .ok (.aload_n 0, 1) := by decide +kernel
theorem dX0_readSteady_8 : decode cX0_readSteady 8 = .ok (.invokevirtual 38, 3) := by decide +kernel
theorem dX0_readSteady_11 : decode cX0_readSteady 11 = .ok (.ifCond .ne 8, 3) := by decide +kernel
theorem dX0_readSteady_14 : decode cX0_readSteady 14 = .ok (.aload_n 1, 1) := by decide +kernel
theorem dX0_readSteady_15 : decode cX0_readSteady 15 = .ok (.iload_n 2, 1) := by decide +kernel
theorem dX0_readSteady_16 : decode cX0_readSteady 16 = .ok (.invokevirtual 117, 3) := by decide +kernel
theorem dX0_readSteady_19 : decode cX0_readSteady 19 = .ok (.return_, 1) := by decide +kernel
theorem dX0_kindNamed_0 : decode cX0_kindNamed 0 = .ok (.iconst 0, 1) := by decide +kernel
theorem dX0_kindNamed_1 : decode cX0_kindNamed 1 = .ok (.istore_n 1, 1) := by decide +kernel
theorem dX0_kindNamed_2 : decode cX0_kindNamed 2 = .ok (.iload_n 1, 1) := by decide +kernel
theorem dX0_kindNamed_3 : decode cX0_kindNamed 3 = .ok (.bipush 7, 2) := by decide +kernel
theorem dX0_kindNamed_5 : decode cX0_kindNamed 5 = .ok (.if_icmp .ge 22, 3) := by decide +kernel
theorem dX0_kindNamed_8 : decode cX0_kindNamed 8 = .ok (.aload_n 0, 1) := by decide +kernel
theorem dX0_kindNamed_9 : decode cX0_kindNamed 9 = .ok (.iload_n 1, 1) := by decide +kernel
theorem dX0_kindNamed_10 : decode cX0_kindNamed 10 = .ok (.invokestatic 121, 3) := by decide +kernel
theorem dX0_kindNamed_13 : decode cX0_kindNamed 13 = .ok (.invokevirtual 125, 3) := by decide +kernel
theorem dX0_kindNamed_16 : decode cX0_kindNamed 16 = .ok (.ifCond .eq 5, 3) := by decide +kernel
theorem dX0_kindNamed_19 : decode cX0_kindNamed 19 = .ok (.iload_n 1, 1) := by decide +kernel
theorem dX0_kindNamed_20 : decode cX0_kindNamed 20 = .ok (.ireturn, 1) := by decide +kernel
theorem dX0_kindNamed_21 : decode cX0_kindNamed 21 = .ok (.iinc 1 1, 3) := by decide +kernel
theorem dX0_kindNamed_24 : decode cX0_kindNamed 24 = .ok (.goto (-22), 3) := by decide +kernel
theorem dX0_kindNamed_27 : decode cX0_kindNamed 27 = .ok (.iconst (-1), 1) := by decide +kernel
theorem dX0_kindNamed_28 : decode cX0_kindNamed 28 = .ok (.ireturn, 1) := by decide +kernel
theorem dX0_nameOf_0 : decode cX0_nameOf 0 = .ok (.iload_n 0, 1) := by decide +kernel
theorem dX0_nameOf_1 : decode cX0_nameOf 1 = .ok (.tableswitch 57 1 6 #[39, 42, 45, 48, 51, 54], 39) := by decide +kernel
theorem dX0_nameOf_40 : decode cX0_nameOf 40 = .ok (.ldc 128, 2) := by decide +kernel
theorem dX0_nameOf_42 : decode cX0_nameOf 42 = .ok (.areturn, 1) := by decide +kernel
theorem dX0_nameOf_43 : decode cX0_nameOf 43 = .ok (.ldc 130, 2) := by decide +kernel
theorem dX0_nameOf_45 : decode cX0_nameOf 45 = .ok (.areturn, 1) := by decide +kernel
theorem dX0_nameOf_46 : decode cX0_nameOf 46 = .ok (.ldc 132, 2) := by decide +kernel
theorem dX0_nameOf_48 : decode cX0_nameOf 48 = .ok (.areturn, 1) := by decide +kernel
theorem dX0_nameOf_49 : decode cX0_nameOf 49 = .ok (.ldc 134, 2) := by decide +kernel
theorem dX0_nameOf_51 : decode cX0_nameOf 51 = .ok (.areturn, 1) := by decide +kernel
theorem dX0_nameOf_52 : decode cX0_nameOf 52 = .ok (.ldc 136, 2) := by decide +kernel
theorem dX0_nameOf_54 : decode cX0_nameOf 54 = .ok (.areturn, 1) := by decide +kernel
theorem dX0_nameOf_55 : decode cX0_nameOf 55 = .ok (.ldc 138, 2) := by decide +kernel
theorem dX0_nameOf_57 : decode cX0_nameOf 57 = .ok (.areturn, 1) := by decide +kernel
theorem dX0_nameOf_58 : decode cX0_nameOf 58 = .ok (.ldc 140, 2) := by decide +kernel
theorem dX0_nameOf_60 : decode cX0_nameOf 60 = .ok (.areturn, 1) := by decide +kernel
theorem dX0_isWord_0 : decode cX0_isWord 0 = .ok (.aload_n 0, 1) := by decide +kernel
theorem dX0_isWord_1 : decode cX0_isWord 1 = .ok (.getfield 22, 3) := by decide +kernel
theorem dX0_isWord_4 : decode cX0_isWord 4 = .ok (.iconst 1, 1) := by decide +kernel
theorem dX0_isWord_5 : decode cX0_isWord 5 = .ok (.if_icmp .ne 19, 3) := by decide +kernel
theorem dX0_isWord_8 : decode cX0_isWord 8 = .ok (.aload_n 0, 1) := by decide +kernel
theorem dX0_isWord_9 : decode cX0_isWord 9 = .ok (.getfield 28, 3) := by decide +kernel
theorem dX0_isWord_12 : decode cX0_isWord 12 = .ok (.aload_n 0, 1) := by decide +kernel
theorem dX0_isWord_13 : decode cX0_isWord 13 = .ok (.getfield 25, 3) := by decide +kernel
theorem dX0_isWord_16 : decode cX0_isWord 16 = .ok (.isub, 1) := by decide +kernel
theorem dX0_isWord_17 : decode cX0_isWord 17 = .ok (.aload_n 1, 1) := by decide +kernel
theorem dX0_isWord_18 : decode cX0_isWord 18 = .ok (.invokevirtual 142, 3) := by decide +kernel
theorem dX0_isWord_21 : decode cX0_isWord 21 = .ok (.if_icmp .eq 5, 3) := by decide +kernel
theorem dX0_isWord_24 : decode cX0_isWord 24 = .ok (.iconst 0, 1) := by decide +kernel
theorem dX0_isWord_25 : decode cX0_isWord 25 = .ok (.ireturn, 1) := by decide +kernel
theorem dX0_isWord_26 : decode cX0_isWord 26 = .ok (.iconst 0, 1) := by decide +kernel
theorem dX0_isWord_27 : decode cX0_isWord 27 = .ok (.istore_n 2, 1) := by decide +kernel
theorem dX0_isWord_28 : decode cX0_isWord 28 = .ok (.iload_n 2, 1) := by decide +kernel
theorem dX0_isWord_29 : decode cX0_isWord 29 = .ok (.aload_n 1, 1) := by decide +kernel
theorem dX0_isWord_30 : decode cX0_isWord 30 = .ok (.invokevirtual 142, 3) := by decide +kernel
theorem dX0_isWord_33 : decode cX0_isWord 33 = .ok (.if_icmp .ge 30, 3) := by decide +kernel
theorem dX0_isWord_36 : decode cX0_isWord 36 = .ok (.aload_n 0, 1) := by decide +kernel
theorem dX0_isWord_37 : decode cX0_isWord 37 = .ok (.getfield 9, 3) := by decide +kernel
theorem dX0_isWord_40 : decode cX0_isWord 40 = .ok (.aload_n 0, 1) := by decide +kernel
theorem dX0_isWord_41 : decode cX0_isWord 41 = .ok (.getfield 25, 3) := by decide +kernel
theorem dX0_isWord_44 : decode cX0_isWord 44 = .ok (.iload_n 2, 1) := by decide +kernel
theorem dX0_isWord_45 : decode cX0_isWord 45 = .ok (.iadd, 1) := by decide +kernel
theorem dX0_isWord_46 : decode cX0_isWord 46 = .ok (.iaload, 1) := by decide +kernel
theorem dX0_isWord_47 : decode cX0_isWord 47 = .ok (.aload_n 1, 1) := by decide +kernel
theorem dX0_isWord_48 : decode cX0_isWord 48 = .ok (.iload_n 2, 1) := by decide +kernel
theorem dX0_isWord_49 : decode cX0_isWord 49 = .ok (.invokevirtual 146, 3) := by decide +kernel
theorem dX0_isWord_52 : decode cX0_isWord 52 = .ok (.if_icmp .eq 5, 3) := by decide +kernel
theorem dX0_isWord_55 : decode cX0_isWord 55 = .ok (.iconst 0, 1) := by decide +kernel
theorem dX0_isWord_56 : decode cX0_isWord 56 = .ok (.ireturn, 1) := by decide +kernel
theorem dX0_isWord_57 : decode cX0_isWord 57 = .ok (.iinc 2 1, 3) := by decide +kernel
theorem dX0_isWord_60 : decode cX0_isWord 60 = .ok (.goto (-32), 3) := by decide +kernel
theorem dX0_isWord_63 : decode cX0_isWord 63 = .ok (.iconst 1, 1) := by decide +kernel
theorem dX0_isWord_64 : decode cX0_isWord 64 = .ok (.ireturn, 1) := by decide +kernel
theorem dX0_takes_0 : decode cX0_takes 0 = .ok (.aload_n 0, 1) := by decide +kernel
theorem dX0_takes_1 : decode cX0_takes 1 = .ok (.aload_n 1, 1) := by decide +kernel
theorem dX0_takes_2 : decode cX0_takes 2 = .ok (.invokevirtual 125, 3) := by decide +kernel
theorem dX0_takes_5 : decode cX0_takes 5 = .ok (.istore_n 2, 1) := by decide +kernel
theorem dX0_takes_6 : decode cX0_takes 6 = .ok (.iload_n 2, 1) := by decide +kernel
theorem dX0_takes_7 : decode cX0_takes 7 = .ok (.ifCond .eq 7, 3) := by decide +kernel
theorem dX0_takes_10 : decode cX0_takes 10 = .ok (.aload_n 0, 1) := by decide +kernel
theorem dX0_takes_11 : decode cX0_takes 11 = .ok (.invokevirtual 31, 3) := by decide +kernel
theorem dX0_takes_14 : decode cX0_takes 14 = .ok (.iload_n 2, 1) := by decide +kernel
theorem dX0_takes_15 : decode cX0_takes 15 = .ok (.ireturn, 1) := by decide +kernel
theorem dX0_takeNumber_0 : decode cX0_takeNumber 0 = .ok (.aload_n 0, 1) := by decide +kernel
theorem dX0_takeNumber_1 : decode cX0_takeNumber 1 = .ok (.getfield 22, 3) := by decide +kernel
theorem dX0_takeNumber_4 : decode cX0_takeNumber 4 = .ok (.iconst 2, 1) := by decide +kernel
theorem dX0_takeNumber_5 : decode cX0_takeNumber 5 = .ok (.if_icmp .ne 10, 3) := by decide +kernel
theorem dX0_takeNumber_8 : decode cX0_takeNumber 8 = .ok (.aload_n 0, 1) := by decide +kernel
theorem dX0_takeNumber_9 : decode cX0_takeNumber 9 = .ok (.invokevirtual 150, 3) := by decide +kernel
theorem dX0_takeNumber_12 : decode cX0_takeNumber 12 = .ok (.goto 6, 3) := by decide +kernel
theorem dX0_takeNumber_15 : decode cX0_takeNumber 15 = .ok (.sipush 10000, 3) := by decide +kernel
theorem dX0_takeNumber_18 : decode cX0_takeNumber 18 = .ok (.istore_n 2, 1) := by decide +kernel
theorem dX0_takeNumber_19 : decode cX0_takeNumber 19 = .ok (.iload_n 2, 1) := by decide +kernel
theorem dX0_takeNumber_20 : decode cX0_takeNumber 20 = .ok (.iload_n 1, 1) := by decide +kernel
theorem dX0_takeNumber_21 : decode cX0_takeNumber 21 = .ok (.if_icmp .le 9, 3) := by decide +kernel
theorem dX0_takeNumber_24 : decode cX0_takeNumber 24 = .ok (.aload_n 0, 1) := by decide +kernel
theorem dX0_takeNumber_25 : decode cX0_takeNumber 25 = .ok (.invokevirtual 42, 3) := by decide +kernel
theorem dX0_takeNumber_28 : decode cX0_takeNumber 28 = .ok (.iconst 0, 1) := by decide +kernel
theorem dX0_takeNumber_29 : decode cX0_takeNumber 29 = .ok (.ireturn, 1) := by decide +kernel
theorem dX0_takeNumber_30 : decode cX0_takeNumber 30 = .ok (.aload_n 0, 1) := by decide +kernel
theorem dX0_takeNumber_31 : decode cX0_takeNumber 31 = .ok (.invokevirtual 31, 3) := by decide +kernel
theorem dX0_takeNumber_34 : decode cX0_takeNumber 34 = .ok (.iload_n 2, 1) := by decide +kernel
theorem dX0_takeNumber_35 : decode cX0_takeNumber 35 = .ok (.ireturn, 1) := by decide +kernel
theorem dX0_numberHere_0 : decode cX0_numberHere 0 = .ok (.iconst 0, 1) := by decide +kernel
theorem dX0_numberHere_1 : decode cX0_numberHere 1 = .ok (.istore_n 1, 1) := by decide +kernel
theorem dX0_numberHere_2 : decode cX0_numberHere 2 = .ok (.aload_n 0, 1) := by decide +kernel
theorem dX0_numberHere_3 : decode cX0_numberHere 3 = .ok (.getfield 25, 3) := by decide +kernel
theorem dX0_numberHere_6 : decode cX0_numberHere 6 = .ok (.istore_n 2, 1) := by decide +kernel
theorem dX0_numberHere_7 : decode cX0_numberHere 7 = .ok (.iload_n 2, 1) := by decide +kernel
theorem dX0_numberHere_8 : decode cX0_numberHere 8 = .ok (.aload_n 0, 1) := by decide +kernel
theorem dX0_numberHere_9 : decode cX0_numberHere 9 = .ok (.getfield 28, 3) := by decide +kernel
theorem dX0_numberHere_12 : decode cX0_numberHere 12 = .ok (.if_icmp .ge 30, 3) := by decide +kernel
theorem dX0_numberHere_15 : decode cX0_numberHere 15 = .ok (.sipush 10000, 3) := by decide +kernel
theorem dX0_numberHere_18 : decode cX0_numberHere 18 = .ok (.bipush 10, 2) := by decide +kernel
theorem dX0_numberHere_20 : decode cX0_numberHere 20 = .ok (.iload_n 1, 1) := by decide +kernel
theorem dX0_numberHere_21 : decode cX0_numberHere 21 = .ok (.imul, 1) := by decide +kernel
theorem dX0_numberHere_22 : decode cX0_numberHere 22 = .ok (.aload_n 0, 1) := by decide +kernel
theorem dX0_numberHere_23 : decode cX0_numberHere 23 = .ok (.getfield 9, 3) := by decide +kernel
theorem dX0_numberHere_26 : decode cX0_numberHere 26 = .ok (.iload_n 2, 1) := by decide +kernel
theorem dX0_numberHere_27 : decode cX0_numberHere 27 = .ok (.iaload, 1) := by decide +kernel
theorem dX0_numberHere_28 : decode cX0_numberHere 28 = .ok (.iadd, 1) := by decide +kernel
theorem dX0_numberHere_29 : decode cX0_numberHere 29 = .ok (.bipush 48, 2) := by decide +kernel
theorem dX0_numberHere_31 : decode cX0_numberHere 31 = .ok (.isub, 1) := by decide +kernel
theorem dX0_numberHere_32 : decode cX0_numberHere 32 = .ok (.invokestatic 153, 3) := by decide +kernel
theorem dX0_numberHere_35 : decode cX0_numberHere 35 = .ok (.istore_n 1, 1) := by decide +kernel
theorem dX0_numberHere_36 : decode cX0_numberHere 36 = .ok (.iinc 2 1, 3) := by decide +kernel
theorem dX0_numberHere_39 : decode cX0_numberHere 39 = .ok (.goto (-32), 3) := by decide +kernel
theorem dX0_numberHere_42 : decode cX0_numberHere 42 = .ok (.iload_n 1, 1) := by decide +kernel
theorem dX0_numberHere_43 : decode cX0_numberHere 43 = .ok (.ireturn, 1) := by decide +kernel
theorem dX0_faultHere_0 : decode cX0_faultHere 0 = .ok (.aload_n 0, 1) := by decide +kernel
theorem dX0_faultHere_1 : decode cX0_faultHere 1 = .ok (.aload_n 0, 1) := by decide +kernel
theorem dX0_faultHere_2 : decode cX0_faultHere 2 = .ok (.getfield 25, 3) := by decide +kernel
theorem dX0_faultHere_5 : decode cX0_faultHere 5 = .ok (.putfield 19, 3) := by decide +kernel
theorem dX0_faultHere_8 : decode cX0_faultHere 8 = .ok (.return_, 1) := by decide +kernel
theorem dX0_advance_0 : decode cX0_advance 0 = .ok (.aload_n 0, 1) := by decide +kernel
theorem dX0_advance_1 : decode cX0_advance 1 = .ok (.aload_n 0, 1) := by decide +kernel
theorem dX0_advance_2 : decode cX0_advance 2 = .ok (.getfield 28, 3) := by decide +kernel
theorem dX0_advance_5 : decode cX0_advance 5 = .ok (.putfield 25, 3) := by decide +kernel
theorem dX0_advance_8 : decode cX0_advance 8 = .ok (.aload_n 0, 1) := by decide +kernel
theorem dX0_advance_9 : decode cX0_advance 9 = .ok (.getfield 25, 3) := by decide +kernel
theorem dX0_advance_12 : decode cX0_advance 12 = .ok (.aload_n 0, 1) := by decide +kernel
theorem dX0_advance_13 : decode cX0_advance 13 = .ok (.getfield 15, 3) := by decide +kernel
theorem dX0_advance_16 : decode cX0_advance 16 = .ok (.if_icmp .ge 30, 3) := by decide +kernel
theorem dX0_advance_19 : decode cX0_advance 19 = .ok (.aload_n 0, 1) := by decide +kernel
theorem dX0_advance_20 : decode cX0_advance 20 = .ok (.getfield 9, 3) := by decide +kernel
theorem dX0_advance_23 : decode cX0_advance 23 = .ok (.aload_n 0, 1) := by decide +kernel
theorem dX0_advance_24 : decode cX0_advance 24 = .ok (.getfield 25, 3) := by decide +kernel
theorem dX0_advance_27 : decode cX0_advance 27 = .ok (.iaload, 1) := by decide +kernel
theorem dX0_advance_28 : decode cX0_advance 28 = .ok (.bipush 32, 2) := by decide +kernel
theorem dX0_advance_30 : decode cX0_advance 30 = .ok (.if_icmp .ne 16, 3) := by decide +kernel
theorem dX0_advance_33 : decode cX0_advance 33 = .ok (.aload_n 0, 1) := by decide +kernel
theorem dX0_advance_34 : decode cX0_advance 34 = .ok (.dup, 1) := by decide +kernel
theorem dX0_advance_35 : decode cX0_advance 35 = .ok (.getfield 25, 3) := by decide +kernel
theorem dX0_advance_38 : decode cX0_advance 38 = .ok (.iconst 1, 1) := by decide +kernel
theorem dX0_advance_39 : decode cX0_advance 39 = .ok (.iadd, 1) := by decide +kernel
theorem dX0_advance_40 : decode cX0_advance 40 = .ok (.putfield 25, 3) := by decide +kernel
theorem dX0_advance_43 : decode cX0_advance 43 = .ok (.goto (-35), 3) := by decide +kernel
theorem dX0_advance_46 : decode cX0_advance 46 = .ok (.aload_n 0, 1) := by decide +kernel
theorem dX0_advance_47 : decode cX0_advance 47 = .ok (.aload_n 0, 1) := by decide +kernel
theorem dX0_advance_48 : decode cX0_advance 48 = .ok (.getfield 25, 3) := by decide +kernel
theorem dX0_advance_51 : decode cX0_advance 51 = .ok (.putfield 28, 3) := by decide +kernel
theorem dX0_advance_54 : decode cX0_advance 54 = .ok (.aload_n 0, 1) := by decide +kernel
theorem dX0_advance_55 : decode cX0_advance 55 = .ok (.getfield 25, 3) := by decide +kernel
theorem dX0_advance_58 : decode cX0_advance 58 = .ok (.aload_n 0, 1) := by decide +kernel
theorem dX0_advance_59 : decode cX0_advance 59 = .ok (.getfield 15, 3) := by decide +kernel
theorem dX0_advance_62 : decode cX0_advance 62 = .ok (.if_icmp .lt 9, 3) := by decide +kernel
theorem dX0_advance_65 : decode cX0_advance 65 = .ok (.aload_n 0, 1) := by decide +kernel
theorem dX0_advance_66 : decode cX0_advance 66 = .ok (.iconst 0, 1) := by decide +kernel
theorem dX0_advance_67 : decode cX0_advance 67 = .ok (.putfield 22, 3) := by decide +kernel
theorem dX0_advance_70 : decode cX0_advance 70 = .ok (.return_, 1) := by decide +kernel
theorem dX0_advance_71 : decode cX0_advance 71 = .ok (.aload_n 0, 1) := by decide +kernel
theorem dX0_advance_72 : decode cX0_advance 72 = .ok (.aload_n 0, 1) := by decide +kernel
theorem dX0_advance_73 : decode cX0_advance 73 = .ok (.getfield 9, 3) := by decide +kernel
theorem dX0_advance_76 : decode cX0_advance 76 = .ok (.aload_n 0, 1) := by decide +kernel
theorem dX0_advance_77 : decode cX0_advance 77 = .ok (.getfield 25, 3) := by decide +kernel
theorem dX0_advance_80 : decode cX0_advance 80 = .ok (.iaload, 1) := by decide +kernel
theorem dX0_advance_81 : decode cX0_advance 81 = .ok (.invokestatic 158, 3) := by decide +kernel
theorem dX0_advance_84 : decode cX0_advance 84 = .ok (.putfield 22, 3) := by decide +kernel
theorem dX0_advance_87 : decode cX0_advance 87 = .ok (.aload_n 0, 1) := by decide +kernel
theorem dX0_advance_88 : decode cX0_advance 88 = .ok (.dup, 1) := by decide +kernel
theorem dX0_advance_89 : decode cX0_advance 89 = .ok (.getfield 28, 3) := by decide +kernel
theorem dX0_advance_92 : decode cX0_advance 92 = .ok (.iconst 1, 1) := by decide +kernel
theorem dX0_advance_93 : decode cX0_advance 93 = .ok (.iadd, 1) := by decide +kernel
theorem dX0_advance_94 : decode cX0_advance 94 = .ok (.putfield 28, 3) := by decide +kernel
theorem dX0_advance_97 : decode cX0_advance 97 = .ok (.aload_n 0, 1) := by decide +kernel
theorem dX0_advance_98 : decode cX0_advance 98 = .ok (.getfield 28, 3) := by decide +kernel
theorem dX0_advance_101 : decode cX0_advance 101 = .ok (.aload_n 0, 1) := by decide +kernel
theorem dX0_advance_102 : decode cX0_advance 102 = .ok (.getfield 15, 3) := by decide +kernel
theorem dX0_advance_105 : decode cX0_advance 105 = .ok (.if_icmp .ge 51, 3) := by decide +kernel
theorem dX0_advance_108 : decode cX0_advance 108 = .ok (.aload_n 0, 1) := by decide +kernel
theorem dX0_advance_109 : decode cX0_advance 109 = .ok (.getfield 22, 3) := by decide +kernel
theorem dX0_advance_112 : decode cX0_advance 112 = .ok (.iconst 1, 1) := by decide +kernel
theorem dX0_advance_113 : decode cX0_advance 113 = .ok (.if_icmp .eq 11, 3) := by decide +kernel
theorem dX0_advance_116 : decode cX0_advance 116 = .ok (.aload_n 0, 1) := by decide +kernel
theorem dX0_advance_117 : decode cX0_advance 117 = .ok (.getfield 22, 3) := by decide +kernel
theorem dX0_advance_120 : decode cX0_advance 120 = .ok (.iconst 2, 1) := by decide +kernel
theorem dX0_advance_121 : decode cX0_advance 121 = .ok (.if_icmp .ne 35, 3) := by decide +kernel
theorem dX0_advance_124 : decode cX0_advance 124 = .ok (.aload_n 0, 1) := by decide +kernel
theorem dX0_advance_125 : decode cX0_advance 125 = .ok (.getfield 9, 3) := by decide +kernel
theorem dX0_advance_128 : decode cX0_advance 128 = .ok (.aload_n 0, 1) := by decide +kernel
theorem dX0_advance_129 : decode cX0_advance 129 = .ok (.getfield 28, 3) := by decide +kernel
theorem dX0_advance_132 : decode cX0_advance 132 = .ok (.iaload, 1) := by decide +kernel
theorem dX0_advance_133 : decode cX0_advance 133 = .ok (.invokestatic 158, 3) := by decide +kernel
theorem dX0_advance_136 : decode cX0_advance 136 = .ok (.aload_n 0, 1) := by decide +kernel
theorem dX0_advance_137 : decode cX0_advance 137 = .ok (.getfield 22, 3) := by decide +kernel
theorem dX0_advance_140 : decode cX0_advance 140 = .ok (.if_icmp .ne 16, 3) := by decide +kernel
theorem dX0_advance_143 : decode cX0_advance 143 = .ok (.aload_n 0, 1) := by decide +kernel
theorem dX0_advance_144 : decode cX0_advance 144 = .ok (.dup, 1) := by decide +kernel
theorem dX0_advance_145 : decode cX0_advance 145 = .ok (.getfield 28, 3) := by decide +kernel
theorem dX0_advance_148 : decode cX0_advance 148 = .ok (.iconst 1, 1) := by decide +kernel
theorem dX0_advance_149 : decode cX0_advance 149 = .ok (.iadd, 1) := by decide +kernel
theorem dX0_advance_150 : decode cX0_advance 150 = .ok (.putfield 28, 3) := by decide +kernel
theorem dX0_advance_153 : decode cX0_advance 153 = .ok (.goto (-56), 3) := by decide +kernel
theorem dX0_advance_156 : decode cX0_advance 156 = .ok (.return_, 1) := by decide +kernel
theorem dX0_tokenOf_0 : decode cX0_tokenOf 0 = .ok (.iload_n 0, 1) := by decide +kernel
theorem dX0_tokenOf_1 : decode cX0_tokenOf 1 = .ok (.bipush 97, 2) := by decide +kernel
theorem dX0_tokenOf_3 : decode cX0_tokenOf 3 = .ok (.if_icmp .lt 11, 3) := by decide +kernel
theorem dX0_tokenOf_6 : decode cX0_tokenOf 6 = .ok (.iload_n 0, 1) := by decide +kernel
theorem dX0_tokenOf_7 : decode cX0_tokenOf 7 = .ok (.bipush 122, 2) := by decide +kernel
theorem dX0_tokenOf_9 : decode cX0_tokenOf 9 = .ok (.if_icmp .gt 5, 3) := by decide +kernel
theorem dX0_tokenOf_12 : decode cX0_tokenOf 12 = .ok (.iconst 1, 1) := by decide +kernel
theorem dX0_tokenOf_13 : decode cX0_tokenOf 13 = .ok (.ireturn, 1) := by decide +kernel
theorem dX0_tokenOf_14 : decode cX0_tokenOf 14 = .ok (.iload_n 0, 1) := by decide +kernel
theorem dX0_tokenOf_15 : decode cX0_tokenOf 15 = .ok (.bipush 48, 2) := by decide +kernel
theorem dX0_tokenOf_17 : decode cX0_tokenOf 17 = .ok (.if_icmp .lt 11, 3) := by decide +kernel
theorem dX0_tokenOf_20 : decode cX0_tokenOf 20 = .ok (.iload_n 0, 1) := by decide +kernel
theorem dX0_tokenOf_21 : decode cX0_tokenOf 21 = .ok (.bipush 57, 2) := by decide +kernel
theorem dX0_tokenOf_23 : decode cX0_tokenOf 23 = .ok (.if_icmp .gt 5, 3) := by decide +kernel
theorem dX0_tokenOf_26 : decode cX0_tokenOf 26 = .ok (.iconst 2, 1) := by decide +kernel
theorem dX0_tokenOf_27 : decode cX0_tokenOf 27 = .ok (.ireturn, 1) := by decide +kernel
theorem dX0_tokenOf_28 : decode cX0_tokenOf 28 = .ok (.iload_n 0, 1) := by decide +kernel
theorem dX0_tokenOf_29 : decode cX0_tokenOf 29 = .ok (.bipush 59, 2) := by decide +kernel
theorem dX0_tokenOf_31 : decode cX0_tokenOf 31 = .ok (.if_icmp .ne 7, 3) := by decide +kernel
theorem dX0_tokenOf_34 : decode cX0_tokenOf 34 = .ok (.iconst 3, 1) := by decide +kernel
theorem dX0_tokenOf_35 : decode cX0_tokenOf 35 = .ok (.goto 4, 3) := by decide +kernel
theorem dX0_tokenOf_38 : decode cX0_tokenOf 38 = .ok (.iconst 4, 1) := by decide +kernel
theorem dX0_tokenOf_39 : decode cX0_tokenOf 39 = .ok (.ireturn, 1) := by decide +kernel
theorem dX1_init_0 : decode cX1_init 0 = .ok (.aload_n 0, 1) := by decide +kernel
theorem dX1_init_1 : decode cX1_init 1 = .ok (.invokespecial 3, 3) := by decide +kernel
theorem dX1_init_4 : decode cX1_init 4 = .ok (.aload_n 0, 1) := by decide +kernel
theorem dX1_init_5 : decode cX1_init 5 = .ok (.bipush 40, 2) := by decide +kernel
theorem dX1_init_7 : decode cX1_init 7 = .ok (.newarray .int, 2) := by decide +kernel
theorem dX1_init_9 : decode cX1_init 9 = .ok (.putfield 9, 3) := by decide +kernel
theorem dX1_init_12 : decode cX1_init 12 = .ok (.aload_n 0, 1) := by decide +kernel
theorem dX1_init_13 : decode cX1_init 13 = .ok (.iconst 0, 1) := by decide +kernel
theorem dX1_init_14 : decode cX1_init 14 = .ok (.putfield 15, 3) := by decide +kernel
theorem dX1_init_17 : decode cX1_init 17 = .ok (.aload_n 0, 1) := by decide +kernel
theorem dX1_init_18 : decode cX1_init 18 = .ok (.iconst 0, 1) := by decide +kernel
theorem dX1_init_19 : decode cX1_init 19 = .ok (.putfield 19, 3) := by decide +kernel
theorem dX1_init_22 : decode cX1_init 22 = .ok (.return_, 1) := by decide +kernel
theorem dX1_isMissing_0 : decode cX1_isMissing 0 = .ok (.aload_n 0, 1) := by decide +kernel
theorem dX1_isMissing_1 : decode cX1_isMissing 1 = .ok (.getfield 15, 3) := by decide +kernel
theorem dX1_isMissing_4 : decode cX1_isMissing 4 = .ok (.ifCond .ne 7, 3) := by decide +kernel
theorem dX1_isMissing_7 : decode cX1_isMissing 7 = .ok (.iconst 1, 1) := by decide +kernel
theorem dX1_isMissing_8 : decode cX1_isMissing 8 = .ok (.goto 4, 3) := by decide +kernel
theorem dX1_isMissing_11 : decode cX1_isMissing 11 = .ok (.iconst 0, 1) := by decide +kernel
theorem dX1_isMissing_12 : decode cX1_isMissing 12 = .ok (.ireturn, 1) := by decide +kernel
theorem dX1_lay_0 : decode cX1_lay 0 = .ok (.aload_n 0, 1) := by decide +kernel
theorem dX1_lay_1 : decode cX1_lay 1 = .ok (.iload_n 1, 1) := by decide +kernel
theorem dX1_lay_2 : decode cX1_lay 2 = .ok (.putfield 15, 3) := by decide +kernel
theorem dX1_lay_5 : decode cX1_lay 5 = .ok (.aload_n 0, 1) := by decide +kernel
theorem dX1_lay_6 : decode cX1_lay 6 = .ok (.iload_n 1, 1) := by decide +kernel
theorem dX1_lay_7 : decode cX1_lay 7 = .ok (.ifCond .ne 7, 3) := by decide +kernel
theorem dX1_lay_10 : decode cX1_lay 10 = .ok (.iconst 0, 1) := by decide +kernel
theorem dX1_lay_11 : decode cX1_lay 11 = .ok (.goto 4, 3) := by decide +kernel
theorem dX1_lay_14 : decode cX1_lay 14 = .ok (.iload_n 2, 1) := by decide +kernel
theorem dX1_lay_15 : decode cX1_lay 15 = .ok (.putfield 19, 3) := by decide +kernel
theorem dX1_lay_18 : decode cX1_lay 18 = .ok (.iconst 0, 1) := by decide +kernel
theorem dX1_lay_19 : decode cX1_lay 19 = .ok (.istore_n 3, 1) := by decide +kernel
theorem dX1_lay_20 : decode cX1_lay 20 = .ok (.iload_n 3, 1) := by decide +kernel
theorem dX1_lay_21 : decode cX1_lay 21 = .ok (.bipush 40, 2) := by decide +kernel
theorem dX1_lay_23 : decode cX1_lay 23 = .ok (.if_icmp .ge 16, 3) := by decide +kernel
theorem dX1_lay_26 : decode cX1_lay 26 = .ok (.aload_n 0, 1) := by decide +kernel
theorem dX1_lay_27 : decode cX1_lay 27 = .ok (.getfield 9, 3) := by decide +kernel
theorem dX1_lay_30 : decode cX1_lay 30 = .ok (.iload_n 3, 1) := by decide +kernel
theorem dX1_lay_31 : decode cX1_lay 31 = .ok (.iconst 0, 1) := by decide +kernel
theorem dX1_lay_32 : decode cX1_lay 32 = .ok (.iastore, 1) := by decide +kernel
theorem dX1_lay_33 : decode cX1_lay 33 = .ok (.iinc 3 1, 3) := by decide +kernel
theorem dX1_lay_36 : decode cX1_lay 36 = .ok (.goto (-16), 3) := by decide +kernel
theorem dX1_lay_39 : decode cX1_lay 39 = .ok (.return_, 1) := by decide +kernel
theorem dX1_put_0 : decode cX1_put 0 = .ok (.aload_n 0, 1) := by decide +kernel
theorem dX1_put_1 : decode cX1_put 1 = .ok (.getfield 15, 3) := by decide +kernel
theorem dX1_put_4 : decode cX1_put 4 = .ok (.lookupswitch 50 #[(8, 28), (16, 39)], 28) := by decide +kernel
theorem dX1_put_32 : decode cX1_put 32 = .ok (.aload_n 0, 1) := by decide +kernel
theorem dX1_put_33 : decode cX1_put 33 = .ok (.getfield 9, 3) := by decide +kernel
theorem dX1_put_36 : decode cX1_put 36 = .ok (.iload_n 1, 1) := by decide +kernel
theorem dX1_put_37 : decode cX1_put 37 = .ok (.iload_n 2, 1) := by decide +kernel
theorem dX1_put_38 : decode cX1_put 38 = .ok (.i2b, 1) := by decide +kernel
theorem dX1_put_39 : decode cX1_put 39 = .ok (.iastore, 1) := by decide +kernel
theorem dX1_put_40 : decode cX1_put 40 = .ok (.goto 21, 3) := by decide +kernel
theorem dX1_put_43 : decode cX1_put 43 = .ok (.aload_n 0, 1) := by decide +kernel
theorem dX1_put_44 : decode cX1_put 44 = .ok (.getfield 9, 3) := by decide +kernel
theorem dX1_put_47 : decode cX1_put 47 = .ok (.iload_n 1, 1) := by decide +kernel
theorem dX1_put_48 : decode cX1_put 48 = .ok (.iload_n 2, 1) := by decide +kernel
theorem dX1_put_49 : decode cX1_put 49 = .ok (.i2s, 1) := by decide +kernel
theorem dX1_put_50 : decode cX1_put 50 = .ok (.iastore, 1) := by decide +kernel
theorem dX1_put_51 : decode cX1_put 51 = .ok (.goto 10, 3) := by decide +kernel
theorem dX1_put_54 : decode cX1_put 54 = .ok (.aload_n 0, 1) := by decide +kernel
theorem dX1_put_55 : decode cX1_put 55 = .ok (.getfield 9, 3) := by decide +kernel
theorem dX1_put_58 : decode cX1_put 58 = .ok (.iload_n 1, 1) := by decide +kernel
theorem dX1_put_59 : decode cX1_put 59 = .ok (.iload_n 2, 1) := by decide +kernel
theorem dX1_put_60 : decode cX1_put 60 = .ok (.iastore, 1) := by decide +kernel
theorem dX1_put_61 : decode cX1_put 61 = .ok (.return_, 1) := by decide +kernel
theorem dX1_has_0 : decode cX1_has 0 = .ok (.iload_n 1, 1) := by decide +kernel
theorem dX1_has_1 : decode cX1_has 1 = .ok (.ifCond .lt 29, 3) := by decide +kernel
theorem dX1_has_4 : decode cX1_has 4 = .ok (.iload_n 2, 1) := by decide +kernel
theorem dX1_has_5 : decode cX1_has 5 = .ok (.ifCond .lt 25, 3) := by decide +kernel
theorem dX1_has_8 : decode cX1_has 8 = .ok (.iload_n 2, 1) := by decide +kernel
theorem dX1_has_9 : decode cX1_has 9 = .ok (.aload_n 0, 1) := by decide +kernel
theorem dX1_has_10 : decode cX1_has 10 = .ok (.getfield 19, 3) := by decide +kernel
theorem dX1_has_13 : decode cX1_has 13 = .ok (.if_icmp .gt 17, 3) := by decide +kernel
theorem dX1_has_16 : decode cX1_has 16 = .ok (.iload_n 1, 1) := by decide +kernel
theorem dX1_has_17 : decode cX1_has 17 = .ok (.aload_n 0, 1) := by decide +kernel
theorem dX1_has_18 : decode cX1_has 18 = .ok (.getfield 19, 3) := by decide +kernel
theorem dX1_has_21 : decode cX1_has 21 = .ok (.iload_n 2, 1) := by decide +kernel
theorem dX1_has_22 : decode cX1_has 22 = .ok (.isub, 1) := by decide +kernel
theorem dX1_has_23 : decode cX1_has 23 = .ok (.if_icmp .gt 7, 3) := by decide +kernel
theorem dX1_has_26 : decode cX1_has 26 = .ok (.iconst 1, 1) := by decide +kernel
theorem dX1_has_27 : decode cX1_has 27 = .ok (.goto 4, 3) := by decide +kernel
theorem dX1_has_30 : decode cX1_has 30 = .ok (.iconst 0, 1) := by decide +kernel
theorem dX1_has_31 : decode cX1_has 31 = .ok (.ireturn, 1) := by decide +kernel
theorem dX1_allows_0 : decode cX1_allows 0 = .ok (.aload_n 0, 1) := by decide +kernel
theorem dX1_allows_1 : decode cX1_allows 1 = .ok (.getfield 9, 3) := by decide +kernel
theorem dX1_allows_4 : decode cX1_allows 4 = .ok (.iload_n 1, 1) := by decide +kernel
theorem dX1_allows_5 : decode cX1_allows 5 = .ok (.iaload, 1) := by decide +kernel
theorem dX1_allows_6 : decode cX1_allows 6 = .ok (.iconst (-1), 1) := by decide +kernel
theorem dX1_allows_7 : decode cX1_allows 7 = .ok (.if_icmp .eq 13, 3) := by decide +kernel
theorem dX1_allows_10 : decode cX1_allows 10 = .ok (.aload_n 0, 1) := by decide +kernel
theorem dX1_allows_11 : decode cX1_allows 11 = .ok (.getfield 9, 3) := by decide +kernel
theorem dX1_allows_14 : decode cX1_allows 14 = .ok (.iload_n 1, 1) := by decide +kernel
theorem dX1_allows_15 : decode cX1_allows 15 = .ok (.iaload, 1) := by decide +kernel
theorem dX1_allows_16 : decode cX1_allows 16 = .ok (.iload_n 2, 1) := by decide +kernel
theorem dX1_allows_17 : decode cX1_allows 17 = .ok (.if_icmp .ne 7, 3) := by decide +kernel
theorem dX1_allows_20 : decode cX1_allows 20 = .ok (.iconst 1, 1) := by decide +kernel
theorem dX1_allows_21 : decode cX1_allows 21 = .ok (.goto 4, 3) := by decide +kernel
theorem dX1_allows_24 : decode cX1_allows 24 = .ok (.iconst 0, 1) := by decide +kernel
theorem dX1_allows_25 : decode cX1_allows 25 = .ok (.ireturn, 1) := by decide +kernel
theorem dX2_init_0 : decode cX2_init 0 = .ok (.aload_n 0, 1) := by decide +kernel
theorem dX2_init_1 : decode cX2_init 1 = .ok (.invokespecial 3, 3) := by decide +kernel
theorem dX2_init_4 : decode cX2_init 4 = .ok (.aload_n 0, 1) := by decide +kernel
theorem dX2_init_5 : decode cX2_init 5 = .ok (.new 9, 3) := by decide +kernel
theorem dX2_init_8 : decode cX2_init 8 = .ok (.dup, 1) := by decide +kernel
theorem dX2_init_9 : decode cX2_init 9 = .ok (.invokespecial 11, 3) := by decide +kernel
theorem dX2_init_12 : decode cX2_init 12 = .ok (.putfield 12, 3) := by decide +kernel
theorem dX2_init_15 : decode cX2_init 15 = .ok (.aload_n 0, 1) := by decide +kernel
theorem dX2_init_16 : decode cX2_init 16 = .ok (.bipush 8, 2) := by decide +kernel
theorem dX2_init_18 : decode cX2_init 18 = .ok (.anewarray 18, 3) := by decide +kernel
theorem dX2_init_21 : decode cX2_init 21 = .ok (.putfield 20, 3) := by decide +kernel
theorem dX2_init_24 : decode cX2_init 24 = .ok (.aload_n 0, 1) := by decide +kernel
theorem dX2_init_25 : decode cX2_init 25 = .ok (.bipush 10, 2) := by decide +kernel
theorem dX2_init_27 : decode cX2_init 27 = .ok (.newarray .int, 2) := by decide +kernel
theorem dX2_init_29 : decode cX2_init 29 = .ok (.putfield 24, 3) := by decide +kernel
theorem dX2_init_32 : decode cX2_init 32 = .ok (.aload_n 0, 1) := by decide +kernel
theorem dX2_init_33 : decode cX2_init 33 = .ok (.iconst 0, 1) := by decide +kernel
theorem dX2_init_34 : decode cX2_init 34 = .ok (.putfield 28, 3) := by decide +kernel
theorem dX2_init_37 : decode cX2_init 37 = .ok (.aload_n 0, 1) := by decide +kernel
theorem dX2_init_38 : decode cX2_init 38 = .ok (.iconst 1, 1) := by decide +kernel
theorem dX2_init_39 : decode cX2_init 39 = .ok (.putfield 32, 3) := by decide +kernel
theorem dX2_init_42 : decode cX2_init 42 = .ok (.iconst 0, 1) := by decide +kernel
theorem dX2_init_43 : decode cX2_init 43 = .ok (.istore_n 1, 1) := by decide +kernel
theorem dX2_init_44 : decode cX2_init 44 = .ok (.iload_n 1, 1) := by decide +kernel
theorem dX2_init_45 : decode cX2_init 45 = .ok (.bipush 8, 2) := by decide +kernel
theorem dX2_init_47 : decode cX2_init 47 = .ok (.if_icmp .ge 22, 3) := by decide +kernel
theorem dX2_init_50 : decode cX2_init 50 = .ok (.aload_n 0, 1) := by decide +kernel
theorem dX2_init_51 : decode cX2_init 51 = .ok (.getfield 20, 3) := by decide +kernel
theorem dX2_init_54 : decode cX2_init 54 = .ok (.iload_n 1, 1) := by decide +kernel
theorem dX2_init_55 : decode cX2_init 55 = .ok (.new 18, 3) := by decide +kernel
theorem dX2_init_58 : decode cX2_init 58 = .ok (.dup, 1) := by decide +kernel
theorem dX2_init_59 : decode cX2_init 59 = .ok (.invokespecial 35, 3) := by decide +kernel
theorem dX2_init_62 : decode cX2_init 62 = .ok (.aastore, 1) := by decide +kernel
theorem dX2_init_63 : decode cX2_init 63 = .ok (.iinc 1 1, 3) := by decide +kernel
theorem dX2_init_66 : decode cX2_init 66 = .ok (.goto (-22), 3) := by decide +kernel
theorem dX2_init_69 : decode cX2_init 69 = .ok (.iconst 0, 1) := by decide +kernel
theorem dX2_init_70 : decode cX2_init 70 = .ok (.istore_n 1, 1) := by decide +kernel
theorem dX2_init_71 : decode cX2_init 71 = .ok (.iload_n 1, 1) := by decide +kernel
theorem dX2_init_72 : decode cX2_init 72 = .ok (.bipush 10, 2) := by decide +kernel
theorem dX2_init_74 : decode cX2_init 74 = .ok (.if_icmp .ge 16, 3) := by decide +kernel
theorem dX2_init_77 : decode cX2_init 77 = .ok (.aload_n 0, 1) := by decide +kernel
theorem dX2_init_78 : decode cX2_init 78 = .ok (.getfield 24, 3) := by decide +kernel
theorem dX2_init_81 : decode cX2_init 81 = .ok (.iload_n 1, 1) := by decide +kernel
theorem dX2_init_82 : decode cX2_init 82 = .ok (.iconst (-1), 1) := by decide +kernel
theorem dX2_init_83 : decode cX2_init 83 = .ok (.iastore, 1) := by decide +kernel
theorem dX2_init_84 : decode cX2_init 84 = .ok (.iinc 1 1, 3) := by decide +kernel
theorem dX2_init_87 : decode cX2_init 87 = .ok (.goto (-16), 3) := by decide +kernel
theorem dX2_init_90 : decode cX2_init 90 = .ok (.return_, 1) := by decide +kernel
theorem dX2_become_0 : decode cX2_become 0 = .ok (.aload_n 0, 1) := by decide +kernel
theorem dX2_become_1 : decode cX2_become 1 = .ok (.getfield 12, 3) := by decide +kernel
theorem dX2_become_4 : decode cX2_become 4 = .ok (.aload_n 1, 1) := by decide +kernel
theorem dX2_become_5 : decode cX2_become 5 = .ok (.getfield 12, 3) := by decide +kernel
theorem dX2_become_8 : decode cX2_become 8 = .ok (.invokevirtual 36, 3) := by decide +kernel
theorem dX2_become_11 : decode cX2_become 11 = .ok (.iconst 0, 1) := by decide +kernel
theorem dX2_become_12 : decode cX2_become 12 = .ok (.istore_n 2, 1) := by decide +kernel
theorem dX2_become_13 : decode cX2_become 13 = .ok (.iload_n 2, 1) := by decide +kernel
theorem dX2_become_14 : decode cX2_become 14 = .ok (.aload_n 1, 1) := by decide +kernel
theorem dX2_become_15 : decode cX2_become 15 = .ok (.getfield 28, 3) := by decide +kernel
theorem dX2_become_18 : decode cX2_become 18 = .ok (.if_icmp .ge 24, 3) := by decide +kernel
theorem dX2_become_21 : decode cX2_become 21 = .ok (.aload_n 0, 1) := by decide +kernel
theorem dX2_become_22 : decode cX2_become 22 = .ok (.getfield 20, 3) := by decide +kernel
theorem dX2_become_25 : decode cX2_become 25 = .ok (.iload_n 2, 1) := by decide +kernel
theorem dX2_become_26 : decode cX2_become 26 = .ok (.aaload, 1) := by decide +kernel
theorem dX2_become_27 : decode cX2_become 27 = .ok (.aload_n 1, 1) := by decide +kernel
theorem dX2_become_28 : decode cX2_become 28 = .ok (.getfield 20, 3) := by decide +kernel
theorem dX2_become_31 : decode cX2_become 31 = .ok (.iload_n 2, 1) := by decide +kernel
theorem dX2_become_32 : decode cX2_become 32 = .ok (.aaload, 1) := by decide +kernel
theorem dX2_become_33 : decode cX2_become 33 = .ok (.invokevirtual 40, 3) := by decide +kernel
theorem dX2_become_36 : decode cX2_become 36 = .ok (.iinc 2 1, 3) := by decide +kernel
theorem dX2_become_39 : decode cX2_become 39 = .ok (.goto (-26), 3) := by decide +kernel
theorem dX2_become_42 : decode cX2_become 42 = .ok (.aload_n 1, 1) := by decide +kernel
theorem dX2_become_43 : decode cX2_become 43 = .ok (.getfield 24, 3) := by decide +kernel
theorem dX2_become_46 : decode cX2_become 46 = .ok (.iconst 0, 1) := by decide +kernel
theorem dX2_become_47 : decode cX2_become 47 = .ok (.aload_n 0, 1) := by decide +kernel
theorem dX2_become_48 : decode cX2_become 48 = .ok (.getfield 24, 3) := by decide +kernel
theorem dX2_become_51 : decode cX2_become 51 = .ok (.iconst 0, 1) := by decide +kernel
theorem dX2_become_52 : decode cX2_become 52 = .ok (.bipush 10, 2) := by decide +kernel
theorem dX2_become_54 : decode cX2_become 54 = .ok (.invokestatic 43, 3) := by decide +kernel
theorem dX2_become_57 : decode cX2_become 57 = .ok (.aload_n 0, 1) := by decide +kernel
theorem dX2_become_58 : decode cX2_become 58 = .ok (.aload_n 1, 1) := by decide +kernel
theorem dX2_become_59 : decode cX2_become 59 = .ok (.getfield 28, 3) := by decide +kernel
theorem dX2_become_62 : decode cX2_become 62 = .ok (.putfield 28, 3) := by decide +kernel
theorem dX2_become_65 : decode cX2_become 65 = .ok (.aload_n 0, 1) := by decide +kernel
theorem dX2_become_66 : decode cX2_become 66 = .ok (.aload_n 1, 1) := by decide +kernel
theorem dX2_become_67 : decode cX2_become 67 = .ok (.getfield 32, 3) := by decide +kernel
theorem dX2_become_70 : decode cX2_become 70 = .ok (.putfield 32, 3) := by decide +kernel
theorem dX2_become_73 : decode cX2_become 73 = .ok (.return_, 1) := by decide +kernel
theorem dX2_isFull_0 : decode cX2_isFull 0 = .ok (.aload_n 0, 1) := by decide +kernel
theorem dX2_isFull_1 : decode cX2_isFull 1 = .ok (.getfield 28, 3) := by decide +kernel
theorem dX2_isFull_4 : decode cX2_isFull 4 = .ok (.bipush 8, 2) := by decide +kernel
theorem dX2_isFull_6 : decode cX2_isFull 6 = .ok (.if_icmp .lt 7, 3) := by decide +kernel
theorem dX2_isFull_9 : decode cX2_isFull 9 = .ok (.iconst 1, 1) := by decide +kernel
theorem dX2_isFull_10 : decode cX2_isFull 10 = .ok (.goto 4, 3) := by decide +kernel
theorem dX2_isFull_13 : decode cX2_isFull 13 = .ok (.iconst 0, 1) := by decide +kernel
theorem dX2_isFull_14 : decode cX2_isFull 14 = .ok (.ireturn, 1) := by decide +kernel
theorem dX2_settle_0 : decode cX2_settle 0 = .ok (.aload_n 0, 1) := by decide +kernel
theorem dX2_settle_1 : decode cX2_settle 1 = .ok (.getfield 28, 3) := by decide +kernel
theorem dX2_settle_4 : decode cX2_settle 4 = .ok (.istore_n 3, 1) := by decide +kernel
theorem dX2_settle_5 : decode cX2_settle 5 = .ok (.aload_n 0, 1) := by decide +kernel
theorem dX2_settle_6 : decode cX2_settle 6 = .ok (.getfield 20, 3) := by decide +kernel
theorem dX2_settle_9 : decode cX2_settle 9 = .ok (.iload_n 3, 1) := by decide +kernel
theorem dX2_settle_10 : decode cX2_settle 10 = .ok (.aaload, 1) := by decide +kernel
theorem dX2_settle_11 : decode cX2_settle 11 = .ok (.iload_n 1, 1) := by decide +kernel
theorem dX2_settle_12 : decode cX2_settle 12 = .ok (.iload_n 2, 1) := by decide +kernel
theorem dX2_settle_13 : decode cX2_settle 13 = .ok (.invokevirtual 49, 3) := by decide +kernel
theorem dX2_settle_16 : decode cX2_settle 16 = .ok (.aload_n 0, 1) := by decide +kernel
theorem dX2_settle_17 : decode cX2_settle 17 = .ok (.dup, 1) := by decide +kernel
theorem dX2_settle_18 : decode cX2_settle 18 = .ok (.getfield 28, 3) := by decide +kernel
theorem dX2_settle_21 : decode cX2_settle 21 = .ok (.iconst 1, 1) := by decide +kernel
theorem dX2_settle_22 : decode cX2_settle 22 = .ok (.iadd, 1) := by decide +kernel
theorem dX2_settle_23 : decode cX2_settle 23 = .ok (.putfield 28, 3) := by decide +kernel
theorem dX2_settle_26 : decode cX2_settle 26 = .ok (.iload_n 3, 1) := by decide +kernel
theorem dX2_settle_27 : decode cX2_settle 27 = .ok (.ireturn, 1) := by decide +kernel
theorem dX2_pass_0 : decode cX2_pass 0 = .ok (.iconst 0, 1) := by decide +kernel
theorem dX2_pass_1 : decode cX2_pass 1 = .ok (.istore_n 2, 1) := by decide +kernel
theorem dX2_pass_2 : decode cX2_pass 2 = .ok (.iload_n 2, 1) := by decide +kernel
theorem dX2_pass_3 : decode cX2_pass 3 = .ok (.iload_n 1, 1) := by decide +kernel
theorem dX2_pass_4 : decode cX2_pass 4 = .ok (.if_icmp .ge 21, 3) := by decide +kernel
theorem dX2_pass_7 : decode cX2_pass 7 = .ok (.aload_n 0, 1) := by decide +kernel
theorem dX2_pass_8 : decode cX2_pass 8 = .ok (.getfield 12, 3) := by decide +kernel
theorem dX2_pass_11 : decode cX2_pass 11 = .ok (.iconst 1, 1) := by decide +kernel
theorem dX2_pass_12 : decode cX2_pass 12 = .ok (.invokevirtual 53, 3) := by decide +kernel
theorem dX2_pass_15 : decode cX2_pass 15 = .ok (.aload_n 0, 1) := by decide +kernel
theorem dX2_pass_16 : decode cX2_pass 16 = .ok (.invokevirtual 57, 3) := by decide +kernel
theorem dX2_pass_19 : decode cX2_pass 19 = .ok (.iinc 2 1, 3) := by decide +kernel
theorem dX2_pass_22 : decode cX2_pass 22 = .ok (.goto (-20), 3) := by decide +kernel
theorem dX2_pass_25 : decode cX2_pass 25 = .ok (.return_, 1) := by decide +kernel
theorem dX2_passShut_0 : decode cX2_passShut 0 = .ok (.aload_n 0, 1) := by decide +kernel
theorem dX2_passShut_1 : decode cX2_passShut 1 = .ok (.getfield 12, 3) := by decide +kernel
theorem dX2_passShut_4 : decode cX2_passShut 4 = .ok (.iconst 0, 1) := by decide +kernel
theorem dX2_passShut_5 : decode cX2_passShut 5 = .ok (.invokevirtual 60, 3) := by decide +kernel
theorem dX2_passShut_8 : decode cX2_passShut 8 = .ok (.aload_n 0, 1) := by decide +kernel
theorem dX2_passShut_9 : decode cX2_passShut 9 = .ok (.invokevirtual 57, 3) := by decide +kernel
theorem dX2_passShut_12 : decode cX2_passShut 12 = .ok (.return_, 1) := by decide +kernel
theorem dX2_liveAll_0 : decode cX2_liveAll 0 = .ok (.iconst 0, 1) := by decide +kernel
theorem dX2_liveAll_1 : decode cX2_liveAll 1 = .ok (.istore_n 1, 1) := by decide +kernel
theorem dX2_liveAll_2 : decode cX2_liveAll 2 = .ok (.iload_n 1, 1) := by decide +kernel
theorem dX2_liveAll_3 : decode cX2_liveAll 3 = .ok (.aload_n 0, 1) := by decide +kernel
theorem dX2_liveAll_4 : decode cX2_liveAll 4 = .ok (.getfield 28, 3) := by decide +kernel
theorem dX2_liveAll_7 : decode cX2_liveAll 7 = .ok (.if_icmp .ge 44, 3) := by decide +kernel
theorem dX2_liveAll_10 : decode cX2_liveAll 10 = .ok (.aload_n 0, 1) := by decide +kernel
theorem dX2_liveAll_11 : decode cX2_liveAll 11 = .ok (.getfield 20, 3) := by decide +kernel
theorem dX2_liveAll_14 : decode cX2_liveAll 14 = .ok (.iload_n 1, 1) := by decide +kernel
theorem dX2_liveAll_15 : decode cX2_liveAll 15 = .ok (.aaload, 1) := by decide +kernel
theorem dX2_liveAll_16 : decode cX2_liveAll 16 = .ok (.astore_n 2, 1) := by decide +kernel
theorem dX2_liveAll_17 : decode cX2_liveAll 17 = .ok (.aload_n 2, 1) := by decide +kernel
theorem dX2_liveAll_18 : decode cX2_liveAll 18 = .ok (.aload_n 0, 1) := by decide +kernel
theorem dX2_liveAll_19 : decode cX2_liveAll 19 = .ok (.getfield 12, 3) := by decide +kernel
theorem dX2_liveAll_22 : decode cX2_liveAll 22 = .ok (.getfield 63, 3) := by decide +kernel
theorem dX2_liveAll_25 : decode cX2_liveAll 25 = .ok (.aload_n 2, 1) := by decide +kernel
theorem dX2_liveAll_26 : decode cX2_liveAll 26 = .ok (.getfield 66, 3) := by decide +kernel
theorem dX2_liveAll_29 : decode cX2_liveAll 29 = .ok (.iaload, 1) := by decide +kernel
theorem dX2_liveAll_30 : decode cX2_liveAll 30 = .ok (.aload_n 0, 1) := by decide +kernel
theorem dX2_liveAll_31 : decode cX2_liveAll 31 = .ok (.getfield 12, 3) := by decide +kernel
theorem dX2_liveAll_34 : decode cX2_liveAll 34 = .ok (.getfield 69, 3) := by decide +kernel
theorem dX2_liveAll_37 : decode cX2_liveAll 37 = .ok (.aload_n 2, 1) := by decide +kernel
theorem dX2_liveAll_38 : decode cX2_liveAll 38 = .ok (.getfield 66, 3) := by decide +kernel
theorem dX2_liveAll_41 : decode cX2_liveAll 41 = .ok (.iaload, 1) := by decide +kernel
theorem dX2_liveAll_42 : decode cX2_liveAll 42 = .ok (.invokevirtual 72, 3) := by decide +kernel
theorem dX2_liveAll_45 : decode cX2_liveAll 45 = .ok (.iinc 1 1, 3) := by decide +kernel
theorem dX2_liveAll_48 : decode cX2_liveAll 48 = .ok (.goto (-46), 3) := by decide +kernel
theorem dX2_liveAll_51 : decode cX2_liveAll 51 = .ok (.return_, 1) := by decide +kernel
theorem dX2_staysHidden_0 : decode cX2_staysHidden 0 = .ok (.iconst 0, 1) := by decide +kernel
theorem dX2_staysHidden_1 : decode cX2_staysHidden 1 = .ok (.istore_n 3, 1) := by decide +kernel
theorem dX2_staysHidden_2 : decode cX2_staysHidden 2 = .ok (.iload_n 3, 1) := by decide +kernel
theorem dX2_staysHidden_3 : decode cX2_staysHidden 3 = .ok (.iload_n 1, 1) := by decide +kernel
theorem dX2_staysHidden_4 : decode cX2_staysHidden 4 = .ok (.if_icmp .ge 24, 3) := by decide +kernel
theorem dX2_staysHidden_7 : decode cX2_staysHidden 7 = .ok (.aload_n 0, 1) := by decide +kernel
theorem dX2_staysHidden_8 : decode cX2_staysHidden 8 = .ok (.iconst 1, 1) := by decide +kernel
theorem dX2_staysHidden_9 : decode cX2_staysHidden 9 = .ok (.invokevirtual 75, 3) := by decide +kernel
theorem dX2_staysHidden_12 : decode cX2_staysHidden 12 = .ok (.aload_n 0, 1) := by decide +kernel
theorem dX2_staysHidden_13 : decode cX2_staysHidden 13 = .ok (.invokevirtual 78, 3) := by decide +kernel
theorem dX2_staysHidden_16 : decode cX2_staysHidden 16 = .ok (.iload_n 2, 1) := by decide +kernel
theorem dX2_staysHidden_17 : decode cX2_staysHidden 17 = .ok (.if_icmp .eq 5, 3) := by decide +kernel
theorem dX2_staysHidden_20 : decode cX2_staysHidden 20 = .ok (.iconst 0, 1) := by decide +kernel
theorem dX2_staysHidden_21 : decode cX2_staysHidden 21 = .ok (.ireturn, 1) := by decide +kernel
theorem dX2_staysHidden_22 : decode cX2_staysHidden 22 = .ok (.iinc 3 1, 3) := by decide +kernel
theorem dX2_staysHidden_25 : decode cX2_staysHidden 25 = .ok (.goto (-23), 3) := by decide +kernel
theorem dX2_staysHidden_28 : decode cX2_staysHidden 28 = .ok (.iconst 1, 1) := by decide +kernel
theorem dX2_staysHidden_29 : decode cX2_staysHidden 29 = .ok (.ireturn, 1) := by decide +kernel
theorem dX2_knowing_0 : decode cX2_knowing 0 = .ok (.iconst 0, 1) := by decide +kernel
theorem dX2_knowing_1 : decode cX2_knowing 1 = .ok (.istore_n 1, 1) := by decide +kernel
theorem dX2_knowing_2 : decode cX2_knowing 2 = .ok (.iconst 0, 1) := by decide +kernel
theorem dX2_knowing_3 : decode cX2_knowing 3 = .ok (.istore_n 2, 1) := by decide +kernel
theorem dX2_knowing_4 : decode cX2_knowing 4 = .ok (.iload_n 2, 1) := by decide +kernel
theorem dX2_knowing_5 : decode cX2_knowing 5 = .ok (.aload_n 0, 1) := by decide +kernel
theorem dX2_knowing_6 : decode cX2_knowing 6 = .ok (.getfield 28, 3) := by decide +kernel
theorem dX2_knowing_9 : decode cX2_knowing 9 = .ok (.if_icmp .ge 27, 3) := by decide +kernel
theorem dX2_knowing_12 : decode cX2_knowing 12 = .ok (.aload_n 0, 1) := by decide +kernel
theorem dX2_knowing_13 : decode cX2_knowing 13 = .ok (.getfield 20, 3) := by decide +kernel
theorem dX2_knowing_16 : decode cX2_knowing 16 = .ok (.iload_n 2, 1) := by decide +kernel
theorem dX2_knowing_17 : decode cX2_knowing 17 = .ok (.aaload, 1) := by decide +kernel
theorem dX2_knowing_18 : decode cX2_knowing 18 = .ok (.invokevirtual 82, 3) := by decide +kernel
theorem dX2_knowing_21 : decode cX2_knowing 21 = .ok (.ifCond .eq 9, 3) := by decide +kernel
theorem dX2_knowing_24 : decode cX2_knowing 24 = .ok (.iload_n 1, 1) := by decide +kernel
theorem dX2_knowing_25 : decode cX2_knowing 25 = .ok (.iconst 1, 1) := by decide +kernel
theorem dX2_knowing_26 : decode cX2_knowing 26 = .ok (.iload_n 2, 1) := by decide +kernel
theorem dX2_knowing_27 : decode cX2_knowing 27 = .ok (.ishl, 1) := by decide +kernel
theorem dX2_knowing_28 : decode cX2_knowing 28 = .ok (.ior, 1) := by decide +kernel
theorem dX2_knowing_29 : decode cX2_knowing 29 = .ok (.istore_n 1, 1) := by decide +kernel
theorem dX2_knowing_30 : decode cX2_knowing 30 = .ok (.iinc 2 1, 3) := by decide +kernel
theorem dX2_knowing_33 : decode cX2_knowing 33 = .ok (.goto (-29), 3) := by decide +kernel
theorem dX2_knowing_36 : decode cX2_knowing 36 = .ok (.iload_n 1, 1) := by decide +kernel
theorem dX2_knowing_37 : decode cX2_knowing 37 = .ok (.ireturn, 1) := by decide +kernel
theorem dX2_lacking_0 : decode cX2_lacking 0 = .ok (.iconst 0, 1) := by decide +kernel
theorem dX2_lacking_1 : decode cX2_lacking 1 = .ok (.istore_n 1, 1) := by decide +kernel
theorem dX2_lacking_2 : decode cX2_lacking 2 = .ok (.iconst 0, 1) := by decide +kernel
theorem dX2_lacking_3 : decode cX2_lacking 3 = .ok (.istore_n 2, 1) := by decide +kernel
theorem dX2_lacking_4 : decode cX2_lacking 4 = .ok (.iload_n 2, 1) := by decide +kernel
theorem dX2_lacking_5 : decode cX2_lacking 5 = .ok (.aload_n 0, 1) := by decide +kernel
theorem dX2_lacking_6 : decode cX2_lacking 6 = .ok (.getfield 28, 3) := by decide +kernel
theorem dX2_lacking_9 : decode cX2_lacking 9 = .ok (.if_icmp .ge 44, 3) := by decide +kernel
theorem dX2_lacking_12 : decode cX2_lacking 12 = .ok (.aload_n 0, 1) := by decide +kernel
theorem dX2_lacking_13 : decode cX2_lacking 13 = .ok (.getfield 20, 3) := by decide +kernel
theorem dX2_lacking_16 : decode cX2_lacking 16 = .ok (.iload_n 2, 1) := by decide +kernel
theorem dX2_lacking_17 : decode cX2_lacking 17 = .ok (.aaload, 1) := by decide +kernel
theorem dX2_lacking_18 : decode cX2_lacking 18 = .ok (.aload_n 0, 1) := by decide +kernel
theorem dX2_lacking_19 : decode cX2_lacking 19 = .ok (.getfield 12, 3) := by decide +kernel
theorem dX2_lacking_22 : decode cX2_lacking 22 = .ok (.getfield 69, 3) := by decide +kernel
theorem dX2_lacking_25 : decode cX2_lacking 25 = .ok (.aload_n 0, 1) := by decide +kernel
theorem dX2_lacking_26 : decode cX2_lacking 26 = .ok (.getfield 20, 3) := by decide +kernel
theorem dX2_lacking_29 : decode cX2_lacking 29 = .ok (.iload_n 2, 1) := by decide +kernel
theorem dX2_lacking_30 : decode cX2_lacking 30 = .ok (.aaload, 1) := by decide +kernel
theorem dX2_lacking_31 : decode cX2_lacking 31 = .ok (.getfield 66, 3) := by decide +kernel
theorem dX2_lacking_34 : decode cX2_lacking 34 = .ok (.iaload, 1) := by decide +kernel
theorem dX2_lacking_35 : decode cX2_lacking 35 = .ok (.invokevirtual 86, 3) := by decide +kernel
theorem dX2_lacking_38 : decode cX2_lacking 38 = .ok (.ifCond .eq 9, 3) := by decide +kernel
theorem dX2_lacking_41 : decode cX2_lacking 41 = .ok (.iload_n 1, 1) := by decide +kernel
theorem dX2_lacking_42 : decode cX2_lacking 42 = .ok (.iconst 1, 1) := by decide +kernel
theorem dX2_lacking_43 : decode cX2_lacking 43 = .ok (.iload_n 2, 1) := by decide +kernel
theorem dX2_lacking_44 : decode cX2_lacking 44 = .ok (.ishl, 1) := by decide +kernel
theorem dX2_lacking_45 : decode cX2_lacking 45 = .ok (.ior, 1) := by decide +kernel
theorem dX2_lacking_46 : decode cX2_lacking 46 = .ok (.istore_n 1, 1) := by decide +kernel
theorem dX2_lacking_47 : decode cX2_lacking 47 = .ok (.iinc 2 1, 3) := by decide +kernel
theorem dX2_lacking_50 : decode cX2_lacking 50 = .ok (.goto (-46), 3) := by decide +kernel
theorem dX2_lacking_53 : decode cX2_lacking 53 = .ok (.iload_n 1, 1) := by decide +kernel
theorem dX2_lacking_54 : decode cX2_lacking 54 = .ok (.ireturn, 1) := by decide +kernel
theorem dX2_beliefsTogether_0 : decode cX2_beliefsTogether 0 = .ok (.iconst 0, 1) := by decide +kernel
theorem dX2_beliefsTogether_1 : decode cX2_beliefsTogether 1 = .ok (.istore_n 1, 1) := by decide +kernel
theorem dX2_beliefsTogether_2 : decode cX2_beliefsTogether 2 = .ok (.iconst 0, 1) := by decide +kernel
theorem dX2_beliefsTogether_3 : decode cX2_beliefsTogether 3 = .ok (.istore_n 2, 1) := by decide +kernel
theorem dX2_beliefsTogether_4 : decode cX2_beliefsTogether 4 = .ok (.iload_n 2, 1) := by decide +kernel
theorem dX2_beliefsTogether_5 : decode cX2_beliefsTogether 5 = .ok (.aload_n 0, 1) := by decide +kernel
theorem dX2_beliefsTogether_6 : decode cX2_beliefsTogether 6 = .ok (.getfield 28, 3) := by decide +kernel
theorem dX2_beliefsTogether_9 : decode cX2_beliefsTogether 9 = .ok (.if_icmp .ge 21, 3) := by decide +kernel
theorem dX2_beliefsTogether_12 : decode cX2_beliefsTogether 12 = .ok (.iload_n 1, 1) := by decide +kernel
theorem dX2_beliefsTogether_13 : decode cX2_beliefsTogether 13 = .ok (.aload_n 0, 1) := by decide +kernel
theorem dX2_beliefsTogether_14 : decode cX2_beliefsTogether 14 = .ok (.getfield 20, 3) := by decide +kernel
theorem dX2_beliefsTogether_17 : decode cX2_beliefsTogether 17 = .ok (.iload_n 2, 1) := by decide +kernel
theorem dX2_beliefsTogether_18 : decode cX2_beliefsTogether 18 = .ok (.aaload, 1) := by decide +kernel
theorem dX2_beliefsTogether_19 : decode cX2_beliefsTogether 19 = .ok (.getfield 90, 3) := by decide +kernel
theorem dX2_beliefsTogether_22 : decode cX2_beliefsTogether 22 = .ok (.iadd, 1) := by decide +kernel
theorem dX2_beliefsTogether_23 : decode cX2_beliefsTogether 23 = .ok (.istore_n 1, 1) := by decide +kernel
theorem dX2_beliefsTogether_24 : decode cX2_beliefsTogether 24 = .ok (.iinc 2 1, 3) := by decide +kernel
theorem dX2_beliefsTogether_27 : decode cX2_beliefsTogether 27 = .ok (.goto (-23), 3) := by decide +kernel
theorem dX2_beliefsTogether_30 : decode cX2_beliefsTogether 30 = .ok (.iload_n 1, 1) := by decide +kernel
theorem dX2_beliefsTogether_31 : decode cX2_beliefsTogether 31 = .ok (.ireturn, 1) := by decide +kernel
theorem dX2_spotsHolding_0 : decode cX2_spotsHolding 0 = .ok (.iconst 0, 1) := by decide +kernel
theorem dX2_spotsHolding_1 : decode cX2_spotsHolding 1 = .ok (.istore_n 1, 1) := by decide +kernel
theorem dX2_spotsHolding_2 : decode cX2_spotsHolding 2 = .ok (.iconst 0, 1) := by decide +kernel
theorem dX2_spotsHolding_3 : decode cX2_spotsHolding 3 = .ok (.istore_n 2, 1) := by decide +kernel
theorem dX2_spotsHolding_4 : decode cX2_spotsHolding 4 = .ok (.iload_n 2, 1) := by decide +kernel
theorem dX2_spotsHolding_5 : decode cX2_spotsHolding 5 = .ok (.bipush 10, 2) := by decide +kernel
theorem dX2_spotsHolding_7 : decode cX2_spotsHolding 7 = .ok (.if_icmp .ge 22, 3) := by decide +kernel
theorem dX2_spotsHolding_10 : decode cX2_spotsHolding 10 = .ok (.aload_n 0, 1) := by decide +kernel
theorem dX2_spotsHolding_11 : decode cX2_spotsHolding 11 = .ok (.getfield 24, 3) := by decide +kernel
theorem dX2_spotsHolding_14 : decode cX2_spotsHolding 14 = .ok (.iload_n 2, 1) := by decide +kernel
theorem dX2_spotsHolding_15 : decode cX2_spotsHolding 15 = .ok (.iaload, 1) := by decide +kernel
theorem dX2_spotsHolding_16 : decode cX2_spotsHolding 16 = .ok (.iconst (-1), 1) := by decide +kernel
theorem dX2_spotsHolding_17 : decode cX2_spotsHolding 17 = .ok (.if_icmp .eq 6, 3) := by decide +kernel
theorem dX2_spotsHolding_20 : decode cX2_spotsHolding 20 = .ok (.iinc 1 1, 3) := by decide +kernel
theorem dX2_spotsHolding_23 : decode cX2_spotsHolding 23 = .ok (.iinc 2 1, 3) := by decide +kernel
theorem dX2_spotsHolding_26 : decode cX2_spotsHolding 26 = .ok (.goto (-22), 3) := by decide +kernel
theorem dX2_spotsHolding_29 : decode cX2_spotsHolding 29 = .ok (.iload_n 1, 1) := by decide +kernel
theorem dX2_spotsHolding_30 : decode cX2_spotsHolding 30 = .ok (.ireturn, 1) := by decide +kernel
theorem dX2_draw_0 : decode cX2_draw 0 = .ok (.aload_n 0, 1) := by decide +kernel
theorem dX2_draw_1 : decode cX2_draw 1 = .ok (.aload_n 0, 1) := by decide +kernel
theorem dX2_draw_2 : decode cX2_draw 2 = .ok (.getfield 32, 3) := by decide +kernel
theorem dX2_draw_5 : decode cX2_draw 5 = .ok (.ldc 93, 2) := by decide +kernel
theorem dX2_draw_7 : decode cX2_draw 7 = .ok (.imul, 1) := by decide +kernel
theorem dX2_draw_8 : decode cX2_draw 8 = .ok (.sipush 12345, 3) := by decide +kernel
theorem dX2_draw_11 : decode cX2_draw 11 = .ok (.iadd, 1) := by decide +kernel
theorem dX2_draw_12 : decode cX2_draw 12 = .ok (.putfield 32, 3) := by decide +kernel
theorem dX2_draw_15 : decode cX2_draw 15 = .ok (.aload_n 0, 1) := by decide +kernel
theorem dX2_draw_16 : decode cX2_draw 16 = .ok (.getfield 32, 3) := by decide +kernel
theorem dX2_draw_19 : decode cX2_draw 19 = .ok (.bipush 8, 2) := by decide +kernel
theorem dX2_draw_21 : decode cX2_draw 21 = .ok (.iushr, 1) := by decide +kernel
theorem dX2_draw_22 : decode cX2_draw 22 = .ok (.ireturn, 1) := by decide +kernel
theorem dX3_init_0 : decode cX3_init 0 = .ok (.aload_n 0, 1) := by decide +kernel
theorem dX3_init_1 : decode cX3_init 1 = .ok (.invokespecial 5, 3) := by decide +kernel
theorem dX3_init_4 : decode cX3_init 4 = .ok (.return_, 1) := by decide +kernel
theorem dX3_begin_0 : decode cX3_begin 0 = .ok (.aload_n 0, 1) := by decide +kernel
theorem dX3_begin_1 : decode cX3_begin 1 = .ok (.iload_n 1, 1) := by decide +kernel
theorem dX3_begin_2 : decode cX3_begin 2 = .ok (.putfield 11, 3) := by decide +kernel
theorem dX3_begin_5 : decode cX3_begin 5 = .ok (.aload_n 0, 1) := by decide +kernel
theorem dX3_begin_6 : decode cX3_begin 6 = .ok (.iload_n 2, 1) := by decide +kernel
theorem dX3_begin_7 : decode cX3_begin 7 = .ok (.putfield 15, 3) := by decide +kernel
theorem dX3_begin_10 : decode cX3_begin 10 = .ok (.aload_n 0, 1) := by decide +kernel
theorem dX3_begin_11 : decode cX3_begin 11 = .ok (.iconst 5, 1) := by decide +kernel
theorem dX3_begin_12 : decode cX3_begin 12 = .ok (.putfield 18, 3) := by decide +kernel
theorem dX3_begin_15 : decode cX3_begin 15 = .ok (.aload_n 0, 1) := by decide +kernel
theorem dX3_begin_16 : decode cX3_begin 16 = .ok (.bipush 50, 2) := by decide +kernel
theorem dX3_begin_18 : decode cX3_begin 18 = .ok (.putfield 21, 3) := by decide +kernel
theorem dX3_begin_21 : decode cX3_begin 21 = .ok (.aload_n 0, 1) := by decide +kernel
theorem dX3_begin_22 : decode cX3_begin 22 = .ok (.iconst 0, 1) := by decide +kernel
theorem dX3_begin_23 : decode cX3_begin 23 = .ok (.putfield 24, 3) := by decide +kernel
theorem dX3_begin_26 : decode cX3_begin 26 = .ok (.return_, 1) := by decide +kernel
theorem dX3_become_0 : decode cX3_become 0 = .ok (.aload_n 0, 1) := by decide +kernel
theorem dX3_become_1 : decode cX3_become 1 = .ok (.aload_n 1, 1) := by decide +kernel
theorem dX3_become_2 : decode cX3_become 2 = .ok (.getfield 11, 3) := by decide +kernel
theorem dX3_become_5 : decode cX3_become 5 = .ok (.putfield 11, 3) := by decide +kernel
theorem dX3_become_8 : decode cX3_become 8 = .ok (.aload_n 0, 1) := by decide +kernel
theorem dX3_become_9 : decode cX3_become 9 = .ok (.aload_n 1, 1) := by decide +kernel
theorem dX3_become_10 : decode cX3_become 10 = .ok (.getfield 15, 3) := by decide +kernel
theorem dX3_become_13 : decode cX3_become 13 = .ok (.putfield 15, 3) := by decide +kernel
theorem dX3_become_16 : decode cX3_become 16 = .ok (.aload_n 0, 1) := by decide +kernel
theorem dX3_become_17 : decode cX3_become 17 = .ok (.aload_n 1, 1) := by decide +kernel
theorem dX3_become_18 : decode cX3_become 18 = .ok (.getfield 18, 3) := by decide +kernel
theorem dX3_become_21 : decode cX3_become 21 = .ok (.putfield 18, 3) := by decide +kernel
theorem dX3_become_24 : decode cX3_become 24 = .ok (.aload_n 0, 1) := by decide +kernel
theorem dX3_become_25 : decode cX3_become 25 = .ok (.aload_n 1, 1) := by decide +kernel
theorem dX3_become_26 : decode cX3_become 26 = .ok (.getfield 21, 3) := by decide +kernel
theorem dX3_become_29 : decode cX3_become 29 = .ok (.putfield 21, 3) := by decide +kernel
theorem dX3_become_32 : decode cX3_become 32 = .ok (.aload_n 0, 1) := by decide +kernel
theorem dX3_become_33 : decode cX3_become 33 = .ok (.aload_n 1, 1) := by decide +kernel
theorem dX3_become_34 : decode cX3_become 34 = .ok (.getfield 24, 3) := by decide +kernel
theorem dX3_become_37 : decode cX3_become 37 = .ok (.putfield 24, 3) := by decide +kernel
theorem dX3_become_40 : decode cX3_become 40 = .ok (.return_, 1) := by decide +kernel
theorem dX3_set_0 : decode cX3_set 0 = .ok (.iload_n 1, 1) := by decide +kernel
theorem dX3_set_1 : decode cX3_set 1 = .ok (.tableswitch 79 0 3 #[31, 43, 55, 67], 31) := by decide +kernel
theorem dX3_set_32 : decode cX3_set 32 = .ok (.aload_n 0, 1) := by decide +kernel
theorem dX3_set_33 : decode cX3_set 33 = .ok (.getfield 11, 3) := by decide +kernel
theorem dX3_set_36 : decode cX3_set 36 = .ok (.istore_n 3, 1) := by decide +kernel
theorem dX3_set_37 : decode cX3_set 37 = .ok (.aload_n 0, 1) := by decide +kernel
theorem dX3_set_38 : decode cX3_set 38 = .ok (.iload_n 2, 1) := by decide +kernel
theorem dX3_set_39 : decode cX3_set 39 = .ok (.putfield 11, 3) := by decide +kernel
theorem dX3_set_42 : decode cX3_set 42 = .ok (.iload_n 3, 1) := by decide +kernel
theorem dX3_set_43 : decode cX3_set 43 = .ok (.ireturn, 1) := by decide +kernel
theorem dX3_set_44 : decode cX3_set 44 = .ok (.aload_n 0, 1) := by decide +kernel
theorem dX3_set_45 : decode cX3_set 45 = .ok (.getfield 15, 3) := by decide +kernel
theorem dX3_set_48 : decode cX3_set 48 = .ok (.istore_n 3, 1) := by decide +kernel
theorem dX3_set_49 : decode cX3_set 49 = .ok (.aload_n 0, 1) := by decide +kernel
theorem dX3_set_50 : decode cX3_set 50 = .ok (.iload_n 2, 1) := by decide +kernel
theorem dX3_set_51 : decode cX3_set 51 = .ok (.putfield 15, 3) := by decide +kernel
theorem dX3_set_54 : decode cX3_set 54 = .ok (.iload_n 3, 1) := by decide +kernel
theorem dX3_set_55 : decode cX3_set 55 = .ok (.ireturn, 1) := by decide +kernel
theorem dX3_set_56 : decode cX3_set 56 = .ok (.aload_n 0, 1) := by decide +kernel
theorem dX3_set_57 : decode cX3_set 57 = .ok (.getfield 18, 3) := by decide +kernel
theorem dX3_set_60 : decode cX3_set 60 = .ok (.istore_n 3, 1) := by decide +kernel
theorem dX3_set_61 : decode cX3_set 61 = .ok (.aload_n 0, 1) := by decide +kernel
theorem dX3_set_62 : decode cX3_set 62 = .ok (.iload_n 2, 1) := by decide +kernel
theorem dX3_set_63 : decode cX3_set 63 = .ok (.putfield 18, 3) := by decide +kernel
theorem dX3_set_66 : decode cX3_set 66 = .ok (.iload_n 3, 1) := by decide +kernel
theorem dX3_set_67 : decode cX3_set 67 = .ok (.ireturn, 1) := by decide +kernel
theorem dX3_set_68 : decode cX3_set 68 = .ok (.aload_n 0, 1) := by decide +kernel
theorem dX3_set_69 : decode cX3_set 69 = .ok (.getfield 21, 3) := by decide +kernel
theorem dX3_set_72 : decode cX3_set 72 = .ok (.istore_n 3, 1) := by decide +kernel
theorem dX3_set_73 : decode cX3_set 73 = .ok (.aload_n 0, 1) := by decide +kernel
theorem dX3_set_74 : decode cX3_set 74 = .ok (.iload_n 2, 1) := by decide +kernel
theorem dX3_set_75 : decode cX3_set 75 = .ok (.putfield 21, 3) := by decide +kernel
theorem dX3_set_78 : decode cX3_set 78 = .ok (.iload_n 3, 1) := by decide +kernel
theorem dX3_set_79 : decode cX3_set 79 = .ok (.ireturn, 1) := by decide +kernel
theorem dX3_set_80 : decode cX3_set 80 = .ok (.aload_n 0, 1) := by decide +kernel
theorem dX3_set_81 : decode cX3_set 81 = .ok (.getfield 24, 3) := by decide +kernel
theorem dX3_set_84 : decode cX3_set 84 = .ok (.istore_n 3, 1) := by decide +kernel
theorem dX3_set_85 : decode cX3_set 85 = .ok (.aload_n 0, 1) := by decide +kernel
theorem dX3_set_86 : decode cX3_set 86 = .ok (.iload_n 2, 1) := by decide +kernel
theorem dX3_set_87 : decode cX3_set 87 = .ok (.putfield 24, 3) := by decide +kernel
theorem dX3_set_90 : decode cX3_set 90 = .ok (.iload_n 3, 1) := by decide +kernel
theorem dX3_set_91 : decode cX3_set 91 = .ok (.ireturn, 1) := by decide +kernel
theorem dX3_knows_0 : decode cX3_knows 0 = .ok (.aload_n 0, 1) := by decide +kernel
theorem dX3_knows_1 : decode cX3_knows 1 = .ok (.getfield 21, 3) := by decide +kernel
theorem dX3_knows_4 : decode cX3_knows 4 = .ok (.ifCond .ne 7, 3) := by decide +kernel
theorem dX3_knows_7 : decode cX3_knows 7 = .ok (.iconst 1, 1) := by decide +kernel
theorem dX3_knows_8 : decode cX3_knows 8 = .ok (.goto 4, 3) := by decide +kernel
theorem dX3_knows_11 : decode cX3_knows 11 = .ok (.iconst 0, 1) := by decide +kernel
theorem dX3_knows_12 : decode cX3_knows 12 = .ok (.ireturn, 1) := by decide +kernel
theorem dX3_lacks_0 : decode cX3_lacks 0 = .ok (.iload_n 1, 1) := by decide +kernel
theorem dX3_lacks_1 : decode cX3_lacks 1 = .ok (.aload_n 0, 1) := by decide +kernel
theorem dX3_lacks_2 : decode cX3_lacks 2 = .ok (.getfield 18, 3) := by decide +kernel
theorem dX3_lacks_5 : decode cX3_lacks 5 = .ok (.if_icmp .ge 7, 3) := by decide +kernel
theorem dX3_lacks_8 : decode cX3_lacks 8 = .ok (.iconst 1, 1) := by decide +kernel
theorem dX3_lacks_9 : decode cX3_lacks 9 = .ok (.goto 4, 3) := by decide +kernel
theorem dX3_lacks_12 : decode cX3_lacks 12 = .ok (.iconst 0, 1) := by decide +kernel
theorem dX3_lacks_13 : decode cX3_lacks 13 = .ok (.ireturn, 1) := by decide +kernel
theorem dX3_live_0 : decode cX3_live 0 = .ok (.aload_n 0, 1) := by decide +kernel
theorem dX3_live_1 : decode cX3_live 1 = .ok (.invokevirtual 27, 3) := by decide +kernel
theorem dX3_live_4 : decode cX3_live 4 = .ok (.ifCond .ne 62, 3) := by decide +kernel
theorem dX3_live_7 : decode cX3_live 7 = .ok (.iload_n 2, 1) := by decide +kernel
theorem dX3_live_8 : decode cX3_live 8 = .ok (.iload_n 1, 1) := by decide +kernel
theorem dX3_live_9 : decode cX3_live 9 = .ok (.isub, 1) := by decide +kernel
theorem dX3_live_10 : decode cX3_live 10 = .ok (.invokestatic 31, 3) := by decide +kernel
theorem dX3_live_13 : decode cX3_live 13 = .ok (.aload_n 0, 1) := by decide +kernel
theorem dX3_live_14 : decode cX3_live 14 = .ok (.invokevirtual 37, 3) := by decide +kernel
theorem dX3_live_17 : decode cX3_live 17 = .ok (.if_icmp .le 23, 3) := by decide +kernel
theorem dX3_live_20 : decode cX3_live 20 = .ok (.aload_n 0, 1) := by decide +kernel
theorem dX3_live_21 : decode cX3_live 21 = .ok (.iconst 0, 1) := by decide +kernel
theorem dX3_live_22 : decode cX3_live 22 = .ok (.aload_n 0, 1) := by decide +kernel
theorem dX3_live_23 : decode cX3_live 23 = .ok (.getfield 21, 3) := by decide +kernel
theorem dX3_live_26 : decode cX3_live 26 = .ok (.aload_n 0, 1) := by decide +kernel
theorem dX3_live_27 : decode cX3_live 27 = .ok (.invokevirtual 41, 3) := by decide +kernel
theorem dX3_live_30 : decode cX3_live 30 = .ok (.isub, 1) := by decide +kernel
theorem dX3_live_31 : decode cX3_live 31 = .ok (.invokestatic 44, 3) := by decide +kernel
theorem dX3_live_34 : decode cX3_live 34 = .ok (.putfield 21, 3) := by decide +kernel
theorem dX3_live_37 : decode cX3_live 37 = .ok (.goto 29, 3) := by decide +kernel
theorem dX3_live_40 : decode cX3_live 40 = .ok (.aload_n 0, 1) := by decide +kernel
theorem dX3_live_41 : decode cX3_live 41 = .ok (.iload_n 2, 1) := by decide +kernel
theorem dX3_live_42 : decode cX3_live 42 = .ok (.invokevirtual 48, 3) := by decide +kernel
theorem dX3_live_45 : decode cX3_live 45 = .ok (.ifCond .ne 21, 3) := by decide +kernel
theorem dX3_live_48 : decode cX3_live 48 = .ok (.aload_n 0, 1) := by decide +kernel
theorem dX3_live_49 : decode cX3_live 49 = .ok (.bipush 99, 2) := by decide +kernel
theorem dX3_live_51 : decode cX3_live 51 = .ok (.aload_n 0, 1) := by decide +kernel
theorem dX3_live_52 : decode cX3_live 52 = .ok (.getfield 21, 3) := by decide +kernel
theorem dX3_live_55 : decode cX3_live 55 = .ok (.aload_n 0, 1) := by decide +kernel
theorem dX3_live_56 : decode cX3_live 56 = .ok (.invokevirtual 52, 3) := by decide +kernel
theorem dX3_live_59 : decode cX3_live 59 = .ok (.iadd, 1) := by decide +kernel
theorem dX3_live_60 : decode cX3_live 60 = .ok (.invokestatic 55, 3) := by decide +kernel
theorem dX3_live_63 : decode cX3_live 63 = .ok (.putfield 21, 3) := by decide +kernel
theorem dX3_live_66 : decode cX3_live 66 = .ok (.aload_n 0, 1) := by decide +kernel
theorem dX3_live_67 : decode cX3_live 67 = .ok (.iload_n 2, 1) := by decide +kernel
theorem dX3_live_68 : decode cX3_live 68 = .ok (.invokevirtual 48, 3) := by decide +kernel
theorem dX3_live_71 : decode cX3_live 71 = .ok (.ifCond .eq 19, 3) := by decide +kernel
theorem dX3_live_74 : decode cX3_live 74 = .ok (.aload_n 0, 1) := by decide +kernel
theorem dX3_live_75 : decode cX3_live 75 = .ok (.sipush 9999, 3) := by decide +kernel
theorem dX3_live_78 : decode cX3_live 78 = .ok (.aload_n 0, 1) := by decide +kernel
theorem dX3_live_79 : decode cX3_live 79 = .ok (.getfield 24, 3) := by decide +kernel
theorem dX3_live_82 : decode cX3_live 82 = .ok (.iconst 1, 1) := by decide +kernel
theorem dX3_live_83 : decode cX3_live 83 = .ok (.iadd, 1) := by decide +kernel
theorem dX3_live_84 : decode cX3_live 84 = .ok (.invokestatic 55, 3) := by decide +kernel
theorem dX3_live_87 : decode cX3_live 87 = .ok (.putfield 24, 3) := by decide +kernel
theorem dX3_live_90 : decode cX3_live 90 = .ok (.return_, 1) := by decide +kernel
theorem dX3_bears_0 : decode cX3_bears 0 = .ok (.aload_n 0, 1) := by decide +kernel
theorem dX3_bears_1 : decode cX3_bears 1 = .ok (.getfield 11, 3) := by decide +kernel
theorem dX3_bears_4 : decode cX3_bears 4 = .ok (.tableswitch 74 1 6 #[40, 52, 54, 56, 71, 45], 40) := by decide +kernel
theorem dX3_bears_44 : decode cX3_bears 44 = .ok (.aload_n 0, 1) := by decide +kernel
theorem dX3_bears_45 : decode cX3_bears 45 = .ok (.invokevirtual 58, 3) := by decide +kernel
theorem dX3_bears_48 : decode cX3_bears 48 = .ok (.ireturn, 1) := by decide +kernel
theorem dX3_bears_49 : decode cX3_bears 49 = .ok (.iconst 2, 1) := by decide +kernel
theorem dX3_bears_50 : decode cX3_bears 50 = .ok (.aload_n 0, 1) := by decide +kernel
theorem dX3_bears_51 : decode cX3_bears 51 = .ok (.invokevirtual 58, 3) := by decide +kernel
theorem dX3_bears_54 : decode cX3_bears 54 = .ok (.imul, 1) := by decide +kernel
theorem dX3_bears_55 : decode cX3_bears 55 = .ok (.ireturn, 1) := by decide +kernel
theorem dX3_bears_56 : decode cX3_bears 56 = .ok (.iconst 3, 1) := by decide +kernel
theorem dX3_bears_57 : decode cX3_bears 57 = .ok (.ireturn, 1) := by decide +kernel
theorem dX3_bears_58 : decode cX3_bears 58 = .ok (.iconst 2, 1) := by decide +kernel
theorem dX3_bears_59 : decode cX3_bears 59 = .ok (.ireturn, 1) := by decide +kernel
theorem dX3_bears_60 : decode cX3_bears 60 = .ok (.aload_n 0, 1) := by decide +kernel
theorem dX3_bears_61 : decode cX3_bears 61 = .ok (.getfield 21, 3) := by decide +kernel
theorem dX3_bears_64 : decode cX3_bears 64 = .ok (.bipush 20, 2) := by decide +kernel
theorem dX3_bears_66 : decode cX3_bears 66 = .ok (.if_icmp .ge 7, 3) := by decide +kernel
theorem dX3_bears_69 : decode cX3_bears 69 = .ok (.iconst 1, 1) := by decide +kernel
theorem dX3_bears_70 : decode cX3_bears 70 = .ok (.goto 4, 3) := by decide +kernel
theorem dX3_bears_73 : decode cX3_bears 73 = .ok (.iconst 2, 1) := by decide +kernel
theorem dX3_bears_74 : decode cX3_bears 74 = .ok (.ireturn, 1) := by decide +kernel
theorem dX3_bears_75 : decode cX3_bears 75 = .ok (.bipush 20, 2) := by decide +kernel
theorem dX3_bears_77 : decode cX3_bears 77 = .ok (.ireturn, 1) := by decide +kernel
theorem dX3_bears_78 : decode cX3_bears 78 = .ok (.iconst 5, 1) := by decide +kernel
theorem dX3_bears_79 : decode cX3_bears 79 = .ok (.ireturn, 1) := by decide +kernel
theorem dX3_millBears_0 : decode cX3_millBears 0 = .ok (.iconst 5, 1) := by decide +kernel
theorem dX3_millBears_1 : decode cX3_millBears 1 = .ok (.aload_n 0, 1) := by decide +kernel
theorem dX3_millBears_2 : decode cX3_millBears 2 = .ok (.getfield 18, 3) := by decide +kernel
theorem dX3_millBears_5 : decode cX3_millBears 5 = .ok (.bipush 10, 2) := by decide +kernel
theorem dX3_millBears_7 : decode cX3_millBears 7 = .ok (.idiv, 1) := by decide +kernel
theorem dX3_millBears_8 : decode cX3_millBears 8 = .ok (.iadd, 1) := by decide +kernel
theorem dX3_millBears_9 : decode cX3_millBears 9 = .ok (.ireturn, 1) := by decide +kernel
theorem dX3_doubts_0 : decode cX3_doubts 0 = .ok (.aload_n 0, 1) := by decide +kernel
theorem dX3_doubts_1 : decode cX3_doubts 1 = .ok (.getfield 11, 3) := by decide +kernel
theorem dX3_doubts_4 : decode cX3_doubts 4 = .ok (.tableswitch 55 1 6 #[40, 44, 47, 50, 53, 42], 40) := by decide +kernel
theorem dX3_doubts_44 : decode cX3_doubts 44 = .ok (.iconst 5, 1) := by decide +kernel
theorem dX3_doubts_45 : decode cX3_doubts 45 = .ok (.ireturn, 1) := by decide +kernel
theorem dX3_doubts_46 : decode cX3_doubts 46 = .ok (.iconst 1, 1) := by decide +kernel
theorem dX3_doubts_47 : decode cX3_doubts 47 = .ok (.ireturn, 1) := by decide +kernel
theorem dX3_doubts_48 : decode cX3_doubts 48 = .ok (.bipush 20, 2) := by decide +kernel
theorem dX3_doubts_50 : decode cX3_doubts 50 = .ok (.ireturn, 1) := by decide +kernel
theorem dX3_doubts_51 : decode cX3_doubts 51 = .ok (.bipush 25, 2) := by decide +kernel
theorem dX3_doubts_53 : decode cX3_doubts 53 = .ok (.ireturn, 1) := by decide +kernel
theorem dX3_doubts_54 : decode cX3_doubts 54 = .ok (.bipush 50, 2) := by decide +kernel
theorem dX3_doubts_56 : decode cX3_doubts 56 = .ok (.ireturn, 1) := by decide +kernel
theorem dX3_doubts_57 : decode cX3_doubts 57 = .ok (.iconst 0, 1) := by decide +kernel
theorem dX3_doubts_58 : decode cX3_doubts 58 = .ok (.ireturn, 1) := by decide +kernel
theorem dX3_doubts_59 : decode cX3_doubts 59 = .ok (.bipush 10, 2) := by decide +kernel
theorem dX3_doubts_61 : decode cX3_doubts 61 = .ok (.ireturn, 1) := by decide +kernel
theorem dX3_trusts_0 : decode cX3_trusts 0 = .ok (.aload_n 0, 1) := by decide +kernel
theorem dX3_trusts_1 : decode cX3_trusts 1 = .ok (.getfield 11, 3) := by decide +kernel
theorem dX3_trusts_4 : decode cX3_trusts 4 = .ok (.tableswitch 50 1 6 #[40, 50, 44, 46, 48, 42], 40) := by decide +kernel
theorem dX3_trusts_44 : decode cX3_trusts 44 = .ok (.iconst 2, 1) := by decide +kernel
theorem dX3_trusts_45 : decode cX3_trusts 45 = .ok (.ireturn, 1) := by decide +kernel
theorem dX3_trusts_46 : decode cX3_trusts 46 = .ok (.iconst 2, 1) := by decide +kernel
theorem dX3_trusts_47 : decode cX3_trusts 47 = .ok (.ireturn, 1) := by decide +kernel
theorem dX3_trusts_48 : decode cX3_trusts 48 = .ok (.iconst 0, 1) := by decide +kernel
theorem dX3_trusts_49 : decode cX3_trusts 49 = .ok (.ireturn, 1) := by decide +kernel
theorem dX3_trusts_50 : decode cX3_trusts 50 = .ok (.iconst 0, 1) := by decide +kernel
theorem dX3_trusts_51 : decode cX3_trusts 51 = .ok (.ireturn, 1) := by decide +kernel
theorem dX3_trusts_52 : decode cX3_trusts 52 = .ok (.iconst 3, 1) := by decide +kernel
theorem dX3_trusts_53 : decode cX3_trusts 53 = .ok (.ireturn, 1) := by decide +kernel
theorem dX3_trusts_54 : decode cX3_trusts 54 = .ok (.iconst 1, 1) := by decide +kernel
theorem dX3_trusts_55 : decode cX3_trusts 55 = .ok (.ireturn, 1) := by decide +kernel
theorem dX3_isUnder_0 : decode cX3_isUnder 0 = .ok (.aload_n 0, 1) := by decide +kernel
theorem dX3_isUnder_1 : decode cX3_isUnder 1 = .ok (.getfield 11, 3) := by decide +kernel
theorem dX3_isUnder_4 : decode cX3_isUnder 4 = .ok (.istore_n 2, 1) := by decide +kernel
theorem dX3_isUnder_5 : decode cX3_isUnder 5 = .ok (.iconst 0, 1) := by decide +kernel
theorem dX3_isUnder_6 : decode cX3_isUnder 6 = .ok (.istore_n 3, 1) := by decide +kernel
theorem dX3_isUnder_7 : decode cX3_isUnder 7 = .ok (.iload_n 3, 1) := by decide +kernel
theorem dX3_isUnder_8 : decode cX3_isUnder 8 = .ok (.bipush 7, 2) := by decide +kernel
theorem dX3_isUnder_10 : decode cX3_isUnder 10 = .ok (.if_icmp .ge 23, 3) := by decide +kernel
theorem dX3_isUnder_13 : decode cX3_isUnder 13 = .ok (.iload_n 2, 1) := by decide +kernel
theorem dX3_isUnder_14 : decode cX3_isUnder 14 = .ok (.iload_n 1, 1) := by decide +kernel
theorem dX3_isUnder_15 : decode cX3_isUnder 15 = .ok (.if_icmp .eq 18, 3) := by decide +kernel
theorem dX3_isUnder_18 : decode cX3_isUnder 18 = .ok (.iload_n 2, 1) := by decide +kernel
theorem dX3_isUnder_19 : decode cX3_isUnder 19 = .ok (.ifCond .eq 14, 3) := by decide +kernel
theorem dX3_isUnder_22 : decode cX3_isUnder 22 = .ok (.iload_n 2, 1) := by decide +kernel
theorem dX3_isUnder_23 : decode cX3_isUnder 23 = .ok (.invokestatic 61, 3) := by decide +kernel
theorem dX3_isUnder_26 : decode cX3_isUnder 26 = .ok (.istore_n 2, 1) := by decide +kernel
theorem dX3_isUnder_27 : decode cX3_isUnder 27 = .ok (.iinc 3 1, 3) := by decide +kernel
theorem dX3_isUnder_30 : decode cX3_isUnder 30 = .ok (.goto (-23), 3) := by decide +kernel
theorem dX3_isUnder_33 : decode cX3_isUnder 33 = .ok (.iload_n 2, 1) := by decide +kernel
theorem dX3_isUnder_34 : decode cX3_isUnder 34 = .ok (.iload_n 1, 1) := by decide +kernel
theorem dX3_isUnder_35 : decode cX3_isUnder 35 = .ok (.if_icmp .ne 7, 3) := by decide +kernel
theorem dX3_isUnder_38 : decode cX3_isUnder 38 = .ok (.iconst 1, 1) := by decide +kernel
theorem dX3_isUnder_39 : decode cX3_isUnder 39 = .ok (.goto 4, 3) := by decide +kernel
theorem dX3_isUnder_42 : decode cX3_isUnder 42 = .ok (.iconst 0, 1) := by decide +kernel
theorem dX3_isUnder_43 : decode cX3_isUnder 43 = .ok (.ireturn, 1) := by decide +kernel
theorem dX3_kindAbove_0 : decode cX3_kindAbove 0 = .ok (.iload_n 0, 1) := by decide +kernel
theorem dX3_kindAbove_1 : decode cX3_kindAbove 1 = .ok (.tableswitch 37 3 6 #[31, 33, 37, 35], 31) := by decide +kernel
theorem dX3_kindAbove_32 : decode cX3_kindAbove 32 = .ok (.iconst 2, 1) := by decide +kernel
theorem dX3_kindAbove_33 : decode cX3_kindAbove 33 = .ok (.ireturn, 1) := by decide +kernel
theorem dX3_kindAbove_34 : decode cX3_kindAbove 34 = .ok (.iconst 3, 1) := by decide +kernel
theorem dX3_kindAbove_35 : decode cX3_kindAbove 35 = .ok (.ireturn, 1) := by decide +kernel
theorem dX3_kindAbove_36 : decode cX3_kindAbove 36 = .ok (.iconst 1, 1) := by decide +kernel
theorem dX3_kindAbove_37 : decode cX3_kindAbove 37 = .ok (.ireturn, 1) := by decide +kernel
theorem dX3_kindAbove_38 : decode cX3_kindAbove 38 = .ok (.iconst 0, 1) := by decide +kernel
theorem dX3_kindAbove_39 : decode cX3_kindAbove 39 = .ok (.ireturn, 1) := by decide +kernel
theorem dX4_init_0 : decode cX4_init 0 = .ok (.aload_n 0, 1) := by decide +kernel
theorem dX4_init_1 : decode cX4_init 1 = .ok (.invokespecial 3, 3) := by decide +kernel
theorem dX4_init_4 : decode cX4_init 4 = .ok (.aload_n 0, 1) := by decide +kernel
theorem dX4_init_5 : decode cX4_init 5 = .ok (.bipush 12, 2) := by decide +kernel
theorem dX4_init_7 : decode cX4_init 7 = .ok (.newarray .int, 2) := by decide +kernel
theorem dX4_init_9 : decode cX4_init 9 = .ok (.putfield 9, 3) := by decide +kernel
theorem dX4_init_12 : decode cX4_init 12 = .ok (.aload_n 0, 1) := by decide +kernel
theorem dX4_init_13 : decode cX4_init 13 = .ok (.bipush 12, 2) := by decide +kernel
theorem dX4_init_15 : decode cX4_init 15 = .ok (.newarray .int, 2) := by decide +kernel
theorem dX4_init_17 : decode cX4_init 17 = .ok (.putfield 15, 3) := by decide +kernel
theorem dX4_init_20 : decode cX4_init 20 = .ok (.aload_n 0, 1) := by decide +kernel
theorem dX4_init_21 : decode cX4_init 21 = .ok (.bipush 8, 2) := by decide +kernel
theorem dX4_init_23 : decode cX4_init 23 = .ok (.newarray .int, 2) := by decide +kernel
theorem dX4_init_25 : decode cX4_init 25 = .ok (.putfield 18, 3) := by decide +kernel
theorem dX4_init_28 : decode cX4_init 28 = .ok (.aload_n 0, 1) := by decide +kernel
theorem dX4_init_29 : decode cX4_init 29 = .ok (.iconst 0, 1) := by decide +kernel
theorem dX4_init_30 : decode cX4_init 30 = .ok (.putfield 21, 3) := by decide +kernel
theorem dX4_init_33 : decode cX4_init 33 = .ok (.aload_n 0, 1) := by decide +kernel
theorem dX4_init_34 : decode cX4_init 34 = .ok (.iconst 0, 1) := by decide +kernel
theorem dX4_init_35 : decode cX4_init 35 = .ok (.putfield 25, 3) := by decide +kernel
theorem dX4_init_38 : decode cX4_init 38 = .ok (.iconst 0, 1) := by decide +kernel
theorem dX4_init_39 : decode cX4_init 39 = .ok (.istore_n 1, 1) := by decide +kernel
theorem dX4_init_40 : decode cX4_init 40 = .ok (.iload_n 1, 1) := by decide +kernel
theorem dX4_init_41 : decode cX4_init 41 = .ok (.bipush 8, 2) := by decide +kernel
theorem dX4_init_43 : decode cX4_init 43 = .ok (.if_icmp .ge 17, 3) := by decide +kernel
theorem dX4_init_46 : decode cX4_init 46 = .ok (.aload_n 0, 1) := by decide +kernel
theorem dX4_init_47 : decode cX4_init 47 = .ok (.getfield 18, 3) := by decide +kernel
theorem dX4_init_50 : decode cX4_init 50 = .ok (.iload_n 1, 1) := by decide +kernel
theorem dX4_init_51 : decode cX4_init 51 = .ok (.bipush 10, 2) := by decide +kernel
theorem dX4_init_53 : decode cX4_init 53 = .ok (.iastore, 1) := by decide +kernel
theorem dX4_init_54 : decode cX4_init 54 = .ok (.iinc 1 1, 3) := by decide +kernel
theorem dX4_init_57 : decode cX4_init 57 = .ok (.goto (-17), 3) := by decide +kernel
theorem dX4_init_60 : decode cX4_init 60 = .ok (.return_, 1) := by decide +kernel
theorem dX4_become_0 : decode cX4_become 0 = .ok (.aload_n 1, 1) := by decide +kernel
theorem dX4_become_1 : decode cX4_become 1 = .ok (.getfield 9, 3) := by decide +kernel
theorem dX4_become_4 : decode cX4_become 4 = .ok (.iconst 0, 1) := by decide +kernel
theorem dX4_become_5 : decode cX4_become 5 = .ok (.aload_n 0, 1) := by decide +kernel
theorem dX4_become_6 : decode cX4_become 6 = .ok (.getfield 9, 3) := by decide +kernel
theorem dX4_become_9 : decode cX4_become 9 = .ok (.iconst 0, 1) := by decide +kernel
theorem dX4_become_10 : decode cX4_become 10 = .ok (.bipush 12, 2) := by decide +kernel
theorem dX4_become_12 : decode cX4_become 12 = .ok (.invokestatic 28, 3) := by decide +kernel
theorem dX4_become_15 : decode cX4_become 15 = .ok (.aload_n 1, 1) := by decide +kernel
theorem dX4_become_16 : decode cX4_become 16 = .ok (.getfield 18, 3) := by decide +kernel
theorem dX4_become_19 : decode cX4_become 19 = .ok (.iconst 0, 1) := by decide +kernel
theorem dX4_become_20 : decode cX4_become 20 = .ok (.aload_n 0, 1) := by decide +kernel
theorem dX4_become_21 : decode cX4_become 21 = .ok (.getfield 18, 3) := by decide +kernel
theorem dX4_become_24 : decode cX4_become 24 = .ok (.iconst 0, 1) := by decide +kernel
theorem dX4_become_25 : decode cX4_become 25 = .ok (.bipush 8, 2) := by decide +kernel
theorem dX4_become_27 : decode cX4_become 27 = .ok (.invokestatic 28, 3) := by decide +kernel
theorem dX4_become_30 : decode cX4_become 30 = .ok (.aload_n 0, 1) := by decide +kernel
theorem dX4_become_31 : decode cX4_become 31 = .ok (.aload_n 1, 1) := by decide +kernel
theorem dX4_become_32 : decode cX4_become 32 = .ok (.getfield 21, 3) := by decide +kernel
theorem dX4_become_35 : decode cX4_become 35 = .ok (.putfield 21, 3) := by decide +kernel
theorem dX4_become_38 : decode cX4_become 38 = .ok (.aload_n 0, 1) := by decide +kernel
theorem dX4_become_39 : decode cX4_become 39 = .ok (.aload_n 1, 1) := by decide +kernel
theorem dX4_become_40 : decode cX4_become 40 = .ok (.getfield 25, 3) := by decide +kernel
theorem dX4_become_43 : decode cX4_become 43 = .ok (.putfield 25, 3) := by decide +kernel
theorem dX4_become_46 : decode cX4_become 46 = .ok (.return_, 1) := by decide +kernel
theorem dX4_openAll_0 : decode cX4_openAll 0 = .ok (.iconst 0, 1) := by decide +kernel
theorem dX4_openAll_1 : decode cX4_openAll 1 = .ok (.istore_n 2, 1) := by decide +kernel
theorem dX4_openAll_2 : decode cX4_openAll 2 = .ok (.iload_n 2, 1) := by decide +kernel
theorem dX4_openAll_3 : decode cX4_openAll 3 = .ok (.bipush 8, 2) := by decide +kernel
theorem dX4_openAll_5 : decode cX4_openAll 5 = .ok (.if_icmp .ge 16, 3) := by decide +kernel
theorem dX4_openAll_8 : decode cX4_openAll 8 = .ok (.aload_n 0, 1) := by decide +kernel
theorem dX4_openAll_9 : decode cX4_openAll 9 = .ok (.getfield 18, 3) := by decide +kernel
theorem dX4_openAll_12 : decode cX4_openAll 12 = .ok (.iload_n 2, 1) := by decide +kernel
theorem dX4_openAll_13 : decode cX4_openAll 13 = .ok (.iload_n 1, 1) := by decide +kernel
theorem dX4_openAll_14 : decode cX4_openAll 14 = .ok (.iastore, 1) := by decide +kernel
theorem dX4_openAll_15 : decode cX4_openAll 15 = .ok (.iinc 2 1, 3) := by decide +kernel
theorem dX4_openAll_18 : decode cX4_openAll 18 = .ok (.goto (-16), 3) := by decide +kernel
theorem dX4_openAll_21 : decode cX4_openAll 21 = .ok (.return_, 1) := by decide +kernel
theorem dX4_run_0 : decode cX4_run 0 = .ok (.iconst 0, 1) := by decide +kernel
theorem dX4_run_1 : decode cX4_run 1 = .ok (.istore_n 2, 1) := by decide +kernel
theorem dX4_run_2 : decode cX4_run 2 = .ok (.iload_n 2, 1) := by decide +kernel
theorem dX4_run_3 : decode cX4_run 3 = .ok (.iload_n 1, 1) := by decide +kernel
theorem dX4_run_4 : decode cX4_run 4 = .ok (.if_icmp .ge 25, 3) := by decide +kernel
theorem dX4_run_7 : decode cX4_run 7 = .ok (.aload_n 0, 1) := by decide +kernel
theorem dX4_run_8 : decode cX4_run 8 = .ok (.aload_n 0, 1) := by decide +kernel
theorem dX4_run_9 : decode cX4_run 9 = .ok (.getfield 18, 3) := by decide +kernel
theorem dX4_run_12 : decode cX4_run 12 = .ok (.aload_n 0, 1) := by decide +kernel
theorem dX4_run_13 : decode cX4_run 13 = .ok (.getfield 25, 3) := by decide +kernel
theorem dX4_run_16 : decode cX4_run 16 = .ok (.bipush 8, 2) := by decide +kernel
theorem dX4_run_18 : decode cX4_run 18 = .ok (.irem, 1) := by decide +kernel
theorem dX4_run_19 : decode cX4_run 19 = .ok (.iaload, 1) := by decide +kernel
theorem dX4_run_20 : decode cX4_run 20 = .ok (.invokevirtual 34, 3) := by decide +kernel
theorem dX4_run_23 : decode cX4_run 23 = .ok (.iinc 2 1, 3) := by decide +kernel
theorem dX4_run_26 : decode cX4_run 26 = .ok (.goto (-24), 3) := by decide +kernel
theorem dX4_run_29 : decode cX4_run 29 = .ok (.return_, 1) := by decide +kernel
theorem dX4_flow_0 : decode cX4_flow 0 = .ok (.aload_n 0, 1) := by decide +kernel
theorem dX4_flow_1 : decode cX4_flow 1 = .ok (.getfield 9, 3) := by decide +kernel
theorem dX4_flow_4 : decode cX4_flow 4 = .ok (.iconst 0, 1) := by decide +kernel
theorem dX4_flow_5 : decode cX4_flow 5 = .ok (.aload_n 0, 1) := by decide +kernel
theorem dX4_flow_6 : decode cX4_flow 6 = .ok (.getfield 15, 3) := by decide +kernel
theorem dX4_flow_9 : decode cX4_flow 9 = .ok (.iconst 0, 1) := by decide +kernel
theorem dX4_flow_10 : decode cX4_flow 10 = .ok (.bipush 12, 2) := by decide +kernel
theorem dX4_flow_12 : decode cX4_flow 12 = .ok (.invokestatic 28, 3) := by decide +kernel
theorem dX4_flow_15 : decode cX4_flow 15 = .ok (.aload_n 0, 1) := by decide +kernel
theorem dX4_flow_16 : decode cX4_flow 16 = .ok (.ldc 38, 2) := by decide +kernel
theorem dX4_flow_18 : decode cX4_flow 18 = .ok (.aload_n 0, 1) := by decide +kernel
theorem dX4_flow_19 : decode cX4_flow 19 = .ok (.getfield 21, 3) := by decide +kernel
theorem dX4_flow_22 : decode cX4_flow 22 = .ok (.aload_n 0, 1) := by decide +kernel
theorem dX4_flow_23 : decode cX4_flow 23 = .ok (.getfield 15, 3) := by decide +kernel
theorem dX4_flow_26 : decode cX4_flow 26 = .ok (.bipush 11, 2) := by decide +kernel
theorem dX4_flow_28 : decode cX4_flow 28 = .ok (.iaload, 1) := by decide +kernel
theorem dX4_flow_29 : decode cX4_flow 29 = .ok (.iconst 2, 1) := by decide +kernel
theorem dX4_flow_30 : decode cX4_flow 30 = .ok (.idiv, 1) := by decide +kernel
theorem dX4_flow_31 : decode cX4_flow 31 = .ok (.iadd, 1) := by decide +kernel
theorem dX4_flow_32 : decode cX4_flow 32 = .ok (.invokestatic 39, 3) := by decide +kernel
theorem dX4_flow_35 : decode cX4_flow 35 = .ok (.putfield 21, 3) := by decide +kernel
theorem dX4_flow_38 : decode cX4_flow 38 = .ok (.iconst 0, 1) := by decide +kernel
theorem dX4_flow_39 : decode cX4_flow 39 = .ok (.istore_n 2, 1) := by decide +kernel
theorem dX4_flow_40 : decode cX4_flow 40 = .ok (.iload_n 2, 1) := by decide +kernel
theorem dX4_flow_41 : decode cX4_flow 41 = .ok (.bipush 12, 2) := by decide +kernel
theorem dX4_flow_43 : decode cX4_flow 43 = .ok (.if_icmp .ge 57, 3) := by decide +kernel
theorem dX4_flow_46 : decode cX4_flow 46 = .ok (.iload_n 2, 1) := by decide +kernel
theorem dX4_flow_47 : decode cX4_flow 47 = .ok (.ifCond .ne 7, 3) := by decide +kernel
theorem dX4_flow_50 : decode cX4_flow 50 = .ok (.iload_n 1, 1) := by decide +kernel
theorem dX4_flow_51 : decode cX4_flow 51 = .ok (.goto 13, 3) := by decide +kernel
theorem dX4_flow_54 : decode cX4_flow 54 = .ok (.aload_n 0, 1) := by decide +kernel
theorem dX4_flow_55 : decode cX4_flow 55 = .ok (.getfield 15, 3) := by decide +kernel
theorem dX4_flow_58 : decode cX4_flow 58 = .ok (.iload_n 2, 1) := by decide +kernel
theorem dX4_flow_59 : decode cX4_flow 59 = .ok (.iconst 1, 1) := by decide +kernel
theorem dX4_flow_60 : decode cX4_flow 60 = .ok (.isub, 1) := by decide +kernel
theorem dX4_flow_61 : decode cX4_flow 61 = .ok (.iaload, 1) := by decide +kernel
theorem dX4_flow_62 : decode cX4_flow 62 = .ok (.iconst 2, 1) := by decide +kernel
theorem dX4_flow_63 : decode cX4_flow 63 = .ok (.idiv, 1) := by decide +kernel
theorem dX4_flow_64 : decode cX4_flow 64 = .ok (.istore_n 3, 1) := by decide +kernel
theorem dX4_flow_65 : decode cX4_flow 65 = .ok (.aload_n 0, 1) := by decide +kernel
theorem dX4_flow_66 : decode cX4_flow 66 = .ok (.getfield 9, 3) := by decide +kernel
theorem dX4_flow_69 : decode cX4_flow 69 = .ok (.iload_n 2, 1) := by decide +kernel
theorem dX4_flow_70 : decode cX4_flow 70 = .ok (.sipush 9999, 3) := by decide +kernel
theorem dX4_flow_73 : decode cX4_flow 73 = .ok (.aload_n 0, 1) := by decide +kernel
theorem dX4_flow_74 : decode cX4_flow 74 = .ok (.getfield 15, 3) := by decide +kernel
theorem dX4_flow_77 : decode cX4_flow 77 = .ok (.iload_n 2, 1) := by decide +kernel
theorem dX4_flow_78 : decode cX4_flow 78 = .ok (.iaload, 1) := by decide +kernel
theorem dX4_flow_79 : decode cX4_flow 79 = .ok (.aload_n 0, 1) := by decide +kernel
theorem dX4_flow_80 : decode cX4_flow 80 = .ok (.getfield 15, 3) := by decide +kernel
theorem dX4_flow_83 : decode cX4_flow 83 = .ok (.iload_n 2, 1) := by decide +kernel
theorem dX4_flow_84 : decode cX4_flow 84 = .ok (.iaload, 1) := by decide +kernel
theorem dX4_flow_85 : decode cX4_flow 85 = .ok (.iconst 2, 1) := by decide +kernel
theorem dX4_flow_86 : decode cX4_flow 86 = .ok (.idiv, 1) := by decide +kernel
theorem dX4_flow_87 : decode cX4_flow 87 = .ok (.isub, 1) := by decide +kernel
theorem dX4_flow_88 : decode cX4_flow 88 = .ok (.iload_n 3, 1) := by decide +kernel
theorem dX4_flow_89 : decode cX4_flow 89 = .ok (.iadd, 1) := by decide +kernel
theorem dX4_flow_90 : decode cX4_flow 90 = .ok (.invokestatic 39, 3) := by decide +kernel
theorem dX4_flow_93 : decode cX4_flow 93 = .ok (.iastore, 1) := by decide +kernel
theorem dX4_flow_94 : decode cX4_flow 94 = .ok (.iinc 2 1, 3) := by decide +kernel
theorem dX4_flow_97 : decode cX4_flow 97 = .ok (.goto (-57), 3) := by decide +kernel
theorem dX4_flow_100 : decode cX4_flow 100 = .ok (.aload_n 0, 1) := by decide +kernel
theorem dX4_flow_101 : decode cX4_flow 101 = .ok (.ldc 45, 2) := by decide +kernel
theorem dX4_flow_103 : decode cX4_flow 103 = .ok (.aload_n 0, 1) := by decide +kernel
theorem dX4_flow_104 : decode cX4_flow 104 = .ok (.getfield 25, 3) := by decide +kernel
theorem dX4_flow_107 : decode cX4_flow 107 = .ok (.iconst 1, 1) := by decide +kernel
theorem dX4_flow_108 : decode cX4_flow 108 = .ok (.iadd, 1) := by decide +kernel
theorem dX4_flow_109 : decode cX4_flow 109 = .ok (.invokestatic 39, 3) := by decide +kernel
theorem dX4_flow_112 : decode cX4_flow 112 = .ok (.putfield 25, 3) := by decide +kernel
theorem dX4_flow_115 : decode cX4_flow 115 = .ok (.return_, 1) := by decide +kernel
theorem dX4_levelsTogether_0 : decode cX4_levelsTogether 0 = .ok (.aload_n 0, 1) := by decide +kernel
theorem dX4_levelsTogether_1 : decode cX4_levelsTogether 1 = .ok (.getfield 9, 3) := by decide +kernel
theorem dX4_levelsTogether_4 : decode cX4_levelsTogether 4 = .ok (.invokestatic 46, 3) := by decide +kernel
theorem dX4_levelsTogether_7 : decode cX4_levelsTogether 7 = .ok (.ireturn, 1) := by decide +kernel
theorem dX4_openingsTogether_0 : decode cX4_openingsTogether 0 = .ok (.aload_n 0, 1) := by decide +kernel
theorem dX4_openingsTogether_1 : decode cX4_openingsTogether 1 = .ok (.getfield 18, 3) := by decide +kernel
theorem dX4_openingsTogether_4 : decode cX4_openingsTogether 4 = .ok (.invokestatic 46, 3) := by decide +kernel
theorem dX4_openingsTogether_7 : decode cX4_openingsTogether 7 = .ok (.ireturn, 1) := by decide +kernel
theorem dX4_hoursOpen_0 : decode cX4_hoursOpen 0 = .ok (.iconst 0, 1) := by decide +kernel
theorem dX4_hoursOpen_1 : decode cX4_hoursOpen 1 = .ok (.istore_n 1, 1) := by decide +kernel
theorem dX4_hoursOpen_2 : decode cX4_hoursOpen 2 = .ok (.iconst 0, 1) := by decide +kernel
theorem dX4_hoursOpen_3 : decode cX4_hoursOpen 3 = .ok (.istore_n 2, 1) := by decide +kernel
theorem dX4_hoursOpen_4 : decode cX4_hoursOpen 4 = .ok (.iload_n 2, 1) := by decide +kernel
theorem dX4_hoursOpen_5 : decode cX4_hoursOpen 5 = .ok (.bipush 8, 2) := by decide +kernel
theorem dX4_hoursOpen_7 : decode cX4_hoursOpen 7 = .ok (.if_icmp .ge 21, 3) := by decide +kernel
theorem dX4_hoursOpen_10 : decode cX4_hoursOpen 10 = .ok (.aload_n 0, 1) := by decide +kernel
theorem dX4_hoursOpen_11 : decode cX4_hoursOpen 11 = .ok (.getfield 18, 3) := by decide +kernel
theorem dX4_hoursOpen_14 : decode cX4_hoursOpen 14 = .ok (.iload_n 2, 1) := by decide +kernel
theorem dX4_hoursOpen_15 : decode cX4_hoursOpen 15 = .ok (.iaload, 1) := by decide +kernel
theorem dX4_hoursOpen_16 : decode cX4_hoursOpen 16 = .ok (.ifCond .eq 6, 3) := by decide +kernel
theorem dX4_hoursOpen_19 : decode cX4_hoursOpen 19 = .ok (.iinc 1 1, 3) := by decide +kernel
theorem dX4_hoursOpen_22 : decode cX4_hoursOpen 22 = .ok (.iinc 2 1, 3) := by decide +kernel
theorem dX4_hoursOpen_25 : decode cX4_hoursOpen 25 = .ok (.goto (-21), 3) := by decide +kernel
theorem dX4_hoursOpen_28 : decode cX4_hoursOpen 28 = .ok (.iload_n 1, 1) := by decide +kernel
theorem dX4_hoursOpen_29 : decode cX4_hoursOpen 29 = .ok (.ireturn, 1) := by decide +kernel
theorem dX5_init_0 : decode cX5_init 0 = .ok (.aload_n 0, 1) := by decide +kernel
theorem dX5_init_1 : decode cX5_init 1 = .ok (.invokespecial 3, 3) := by decide +kernel
theorem dX5_init_4 : decode cX5_init 4 = .ok (.aload_n 0, 1) := by decide +kernel
theorem dX5_init_5 : decode cX5_init 5 = .ok (.new 9, 3) := by decide +kernel
theorem dX5_init_8 : decode cX5_init 8 = .ok (.dup, 1) := by decide +kernel
theorem dX5_init_9 : decode cX5_init 9 = .ok (.invokespecial 11, 3) := by decide +kernel
theorem dX5_init_12 : decode cX5_init 12 = .ok (.putfield 12, 3) := by decide +kernel
theorem dX5_init_15 : decode cX5_init 15 = .ok (.aload_n 0, 1) := by decide +kernel
theorem dX5_init_16 : decode cX5_init 16 = .ok (.new 9, 3) := by decide +kernel
theorem dX5_init_19 : decode cX5_init 19 = .ok (.dup, 1) := by decide +kernel
theorem dX5_init_20 : decode cX5_init 20 = .ok (.invokespecial 11, 3) := by decide +kernel
theorem dX5_init_23 : decode cX5_init 23 = .ok (.putfield 16, 3) := by decide +kernel
theorem dX5_init_26 : decode cX5_init 26 = .ok (.aload_n 0, 1) := by decide +kernel
theorem dX5_init_27 : decode cX5_init 27 = .ok (.new 9, 3) := by decide +kernel
theorem dX5_init_30 : decode cX5_init 30 = .ok (.dup, 1) := by decide +kernel
theorem dX5_init_31 : decode cX5_init 31 = .ok (.invokespecial 11, 3) := by decide +kernel
theorem dX5_init_34 : decode cX5_init 34 = .ok (.putfield 19, 3) := by decide +kernel
theorem dX5_init_37 : decode cX5_init 37 = .ok (.aload_n 0, 1) := by decide +kernel
theorem dX5_init_38 : decode cX5_init 38 = .ok (.new 9, 3) := by decide +kernel
theorem dX5_init_41 : decode cX5_init 41 = .ok (.dup, 1) := by decide +kernel
theorem dX5_init_42 : decode cX5_init 42 = .ok (.invokespecial 11, 3) := by decide +kernel
theorem dX5_init_45 : decode cX5_init 45 = .ok (.putfield 22, 3) := by decide +kernel
theorem dX5_init_48 : decode cX5_init 48 = .ok (.aload_n 0, 1) := by decide +kernel
theorem dX5_init_49 : decode cX5_init 49 = .ok (.bipush 12, 2) := by decide +kernel
theorem dX5_init_51 : decode cX5_init 51 = .ok (.newarray .int, 2) := by decide +kernel
theorem dX5_init_53 : decode cX5_init 53 = .ok (.putfield 25, 3) := by decide +kernel
theorem dX5_init_56 : decode cX5_init 56 = .ok (.aload_n 0, 1) := by decide +kernel
theorem dX5_init_57 : decode cX5_init 57 = .ok (.iconst 4, 1) := by decide +kernel
theorem dX5_init_58 : decode cX5_init 58 = .ok (.anewarray 29, 3) := by decide +kernel
theorem dX5_init_61 : decode cX5_init 61 = .ok (.dup, 1) := by decide +kernel
theorem dX5_init_62 : decode cX5_init 62 = .ok (.iconst 0, 1) := by decide +kernel
theorem dX5_init_63 : decode cX5_init 63 = .ok (.new 29, 3) := by decide +kernel
theorem dX5_init_66 : decode cX5_init 66 = .ok (.dup, 1) := by decide +kernel
theorem dX5_init_67 : decode cX5_init 67 = .ok (.invokespecial 31, 3) := by decide +kernel
theorem dX5_init_70 : decode cX5_init 70 = .ok (.aastore, 1) := by decide +kernel
theorem dX5_init_71 : decode cX5_init 71 = .ok (.dup, 1) := by decide +kernel
theorem dX5_init_72 : decode cX5_init 72 = .ok (.iconst 1, 1) := by decide +kernel
theorem dX5_init_73 : decode cX5_init 73 = .ok (.new 29, 3) := by decide +kernel
theorem dX5_init_76 : decode cX5_init 76 = .ok (.dup, 1) := by decide +kernel
theorem dX5_init_77 : decode cX5_init 77 = .ok (.invokespecial 31, 3) := by decide +kernel
theorem dX5_init_80 : decode cX5_init 80 = .ok (.aastore, 1) := by decide +kernel
theorem dX5_init_81 : decode cX5_init 81 = .ok (.dup, 1) := by decide +kernel
theorem dX5_init_82 : decode cX5_init 82 = .ok (.iconst 2, 1) := by decide +kernel
theorem dX5_init_83 : decode cX5_init 83 = .ok (.new 29, 3) := by decide +kernel
theorem dX5_init_86 : decode cX5_init 86 = .ok (.dup, 1) := by decide +kernel
theorem dX5_init_87 : decode cX5_init 87 = .ok (.invokespecial 31, 3) := by decide +kernel
theorem dX5_init_90 : decode cX5_init 90 = .ok (.aastore, 1) := by decide +kernel
theorem dX5_init_91 : decode cX5_init 91 = .ok (.dup, 1) := by decide +kernel
theorem dX5_init_92 : decode cX5_init 92 = .ok (.iconst 3, 1) := by decide +kernel
theorem dX5_init_93 : decode cX5_init 93 = .ok (.new 29, 3) := by decide +kernel
theorem dX5_init_96 : decode cX5_init 96 = .ok (.dup, 1) := by decide +kernel
theorem dX5_init_97 : decode cX5_init 97 = .ok (.invokespecial 31, 3) := by decide +kernel
theorem dX5_init_100 : decode cX5_init 100 = .ok (.aastore, 1) := by decide +kernel
theorem dX5_init_101 : decode cX5_init 101 = .ok (.putfield 32, 3) := by decide +kernel
theorem dX5_init_104 : decode cX5_init 104 = .ok (.aload_n 0, 1) := by decide +kernel
theorem dX5_init_105 : decode cX5_init 105 = .ok (.new 36, 3) := by decide +kernel
theorem dX5_init_108 : decode cX5_init 108 = .ok (.dup, 1) := by decide +kernel
theorem dX5_init_109 : decode cX5_init 109 = .ok (.invokespecial 38, 3) := by decide +kernel
theorem dX5_init_112 : decode cX5_init 112 = .ok (.putfield 39, 3) := by decide +kernel
theorem dX5_init_115 : decode cX5_init 115 = .ok (.aload_n 0, 1) := by decide +kernel
theorem dX5_init_116 : decode cX5_init 116 = .ok (.bipush 7, 2) := by decide +kernel
theorem dX5_init_118 : decode cX5_init 118 = .ok (.newarray .int, 2) := by decide +kernel
theorem dX5_init_120 : decode cX5_init 120 = .ok (.putfield 43, 3) := by decide +kernel
theorem dX5_init_123 : decode cX5_init 123 = .ok (.aload_n 0, 1) := by decide +kernel
theorem dX5_init_124 : decode cX5_init 124 = .ok (.iconst 0, 1) := by decide +kernel
theorem dX5_init_125 : decode cX5_init 125 = .ok (.putfield 46, 3) := by decide +kernel
theorem dX5_init_128 : decode cX5_init 128 = .ok (.return_, 1) := by decide +kernel
theorem dX5_level_0 : decode cX5_level 0 = .ok (.iload_n 1, 1) := by decide +kernel
theorem dX5_level_1 : decode cX5_level 1 = .ok (.bipush 11, 2) := by decide +kernel
theorem dX5_level_3 : decode cX5_level 3 = .ok (.invokestatic 50, 3) := by decide +kernel
theorem dX5_level_6 : decode cX5_level 6 = .ok (.ifCond .ne 13, 3) := by decide +kernel
theorem dX5_level_9 : decode cX5_level 9 = .ok (.iload_n 2, 1) := by decide +kernel
theorem dX5_level_10 : decode cX5_level 10 = .ok (.sipush 9999, 3) := by decide +kernel
theorem dX5_level_13 : decode cX5_level 13 = .ok (.invokestatic 50, 3) := by decide +kernel
theorem dX5_level_16 : decode cX5_level 16 = .ok (.ifCond .eq 10, 3) := by decide +kernel
theorem dX5_level_19 : decode cX5_level 19 = .ok (.aload_n 0, 1) := by decide +kernel
theorem dX5_level_20 : decode cX5_level 20 = .ok (.ldc 54, 2) := by decide +kernel
theorem dX5_level_22 : decode cX5_level 22 = .ok (.invokevirtual 55, 3) := by decide +kernel
theorem dX5_level_25 : decode cX5_level 25 = .ok (.ireturn, 1) := by decide +kernel
theorem dX5_level_26 : decode cX5_level 26 = .ok (.aload_n 0, 1) := by decide +kernel
theorem dX5_level_27 : decode cX5_level 27 = .ok (.getfield 12, 3) := by decide +kernel
theorem dX5_level_30 : decode cX5_level 30 = .ok (.getfield 59, 3) := by decide +kernel
theorem dX5_level_33 : decode cX5_level 33 = .ok (.getfield 63, 3) := by decide +kernel
theorem dX5_level_36 : decode cX5_level 36 = .ok (.iload_n 1, 1) := by decide +kernel
theorem dX5_level_37 : decode cX5_level 37 = .ok (.iaload, 1) := by decide +kernel
theorem dX5_level_38 : decode cX5_level 38 = .ok (.istore_n 3, 1) := by decide +kernel
theorem dX5_level_39 : decode cX5_level 39 = .ok (.aload_n 0, 1) := by decide +kernel
theorem dX5_level_40 : decode cX5_level 40 = .ok (.getfield 12, 3) := by decide +kernel
theorem dX5_level_43 : decode cX5_level 43 = .ok (.getfield 59, 3) := by decide +kernel
theorem dX5_level_46 : decode cX5_level 46 = .ok (.getfield 63, 3) := by decide +kernel
theorem dX5_level_49 : decode cX5_level 49 = .ok (.iload_n 1, 1) := by decide +kernel
theorem dX5_level_50 : decode cX5_level 50 = .ok (.iload_n 2, 1) := by decide +kernel
theorem dX5_level_51 : decode cX5_level 51 = .ok (.iastore, 1) := by decide +kernel
theorem dX5_level_52 : decode cX5_level 52 = .ok (.iload_n 3, 1) := by decide +kernel
theorem dX5_level_53 : decode cX5_level 53 = .ok (.ireturn, 1) := by decide +kernel
theorem dX5_stands_0 : decode cX5_stands 0 = .ok (.iload_n 1, 1) := by decide +kernel
theorem dX5_stands_1 : decode cX5_stands 1 = .ok (.bipush 11, 2) := by decide +kernel
theorem dX5_stands_3 : decode cX5_stands 3 = .ok (.invokestatic 50, 3) := by decide +kernel
theorem dX5_stands_6 : decode cX5_stands 6 = .ok (.ifCond .eq 10, 3) := by decide +kernel
theorem dX5_stands_9 : decode cX5_stands 9 = .ok (.aload_n 0, 1) := by decide +kernel
theorem dX5_stands_10 : decode cX5_stands 10 = .ok (.ldc 54, 2) := by decide +kernel
theorem dX5_stands_12 : decode cX5_stands 12 = .ok (.invokevirtual 55, 3) := by decide +kernel
theorem dX5_stands_15 : decode cX5_stands 15 = .ok (.ireturn, 1) := by decide +kernel
theorem dX5_stands_16 : decode cX5_stands 16 = .ok (.aload_n 0, 1) := by decide +kernel
theorem dX5_stands_17 : decode cX5_stands 17 = .ok (.getfield 12, 3) := by decide +kernel
theorem dX5_stands_20 : decode cX5_stands 20 = .ok (.getfield 59, 3) := by decide +kernel
theorem dX5_stands_23 : decode cX5_stands 23 = .ok (.getfield 63, 3) := by decide +kernel
theorem dX5_stands_26 : decode cX5_stands 26 = .ok (.iload_n 1, 1) := by decide +kernel
theorem dX5_stands_27 : decode cX5_stands 27 = .ok (.iaload, 1) := by decide +kernel
theorem dX5_stands_28 : decode cX5_stands 28 = .ok (.ireturn, 1) := by decide +kernel
theorem dX5_plan_0 : decode cX5_plan 0 = .ok (.iload_n 1, 1) := by decide +kernel
theorem dX5_plan_1 : decode cX5_plan 1 = .ok (.bipush 7, 2) := by decide +kernel
theorem dX5_plan_3 : decode cX5_plan 3 = .ok (.invokestatic 50, 3) := by decide +kernel
theorem dX5_plan_6 : decode cX5_plan 6 = .ok (.ifCond .ne 12, 3) := by decide +kernel
theorem dX5_plan_9 : decode cX5_plan 9 = .ok (.iload_n 2, 1) := by decide +kernel
theorem dX5_plan_10 : decode cX5_plan 10 = .ok (.bipush 99, 2) := by decide +kernel
theorem dX5_plan_12 : decode cX5_plan 12 = .ok (.invokestatic 50, 3) := by decide +kernel
theorem dX5_plan_15 : decode cX5_plan 15 = .ok (.ifCond .eq 10, 3) := by decide +kernel
theorem dX5_plan_18 : decode cX5_plan 18 = .ok (.aload_n 0, 1) := by decide +kernel
theorem dX5_plan_19 : decode cX5_plan 19 = .ok (.ldc 54, 2) := by decide +kernel
theorem dX5_plan_21 : decode cX5_plan 21 = .ok (.invokevirtual 55, 3) := by decide +kernel
theorem dX5_plan_24 : decode cX5_plan 24 = .ok (.ireturn, 1) := by decide +kernel
theorem dX5_plan_25 : decode cX5_plan 25 = .ok (.aload_n 0, 1) := by decide +kernel
theorem dX5_plan_26 : decode cX5_plan 26 = .ok (.getfield 12, 3) := by decide +kernel
theorem dX5_plan_29 : decode cX5_plan 29 = .ok (.getfield 59, 3) := by decide +kernel
theorem dX5_plan_32 : decode cX5_plan 32 = .ok (.getfield 68, 3) := by decide +kernel
theorem dX5_plan_35 : decode cX5_plan 35 = .ok (.iload_n 1, 1) := by decide +kernel
theorem dX5_plan_36 : decode cX5_plan 36 = .ok (.iaload, 1) := by decide +kernel
theorem dX5_plan_37 : decode cX5_plan 37 = .ok (.istore_n 3, 1) := by decide +kernel
theorem dX5_plan_38 : decode cX5_plan 38 = .ok (.aload_n 0, 1) := by decide +kernel
theorem dX5_plan_39 : decode cX5_plan 39 = .ok (.getfield 12, 3) := by decide +kernel
theorem dX5_plan_42 : decode cX5_plan 42 = .ok (.getfield 59, 3) := by decide +kernel
theorem dX5_plan_45 : decode cX5_plan 45 = .ok (.getfield 68, 3) := by decide +kernel
theorem dX5_plan_48 : decode cX5_plan 48 = .ok (.iload_n 1, 1) := by decide +kernel
theorem dX5_plan_49 : decode cX5_plan 49 = .ok (.iload_n 2, 1) := by decide +kernel
theorem dX5_plan_50 : decode cX5_plan 50 = .ok (.iastore, 1) := by decide +kernel
theorem dX5_plan_51 : decode cX5_plan 51 = .ok (.iload_n 3, 1) := by decide +kernel
theorem dX5_plan_52 : decode cX5_plan 52 = .ok (.ireturn, 1) := by decide +kernel
theorem dX5_opening_0 : decode cX5_opening 0 = .ok (.iload_n 1, 1) := by decide +kernel
theorem dX5_opening_1 : decode cX5_opening 1 = .ok (.bipush 7, 2) := by decide +kernel
theorem dX5_opening_3 : decode cX5_opening 3 = .ok (.invokestatic 50, 3) := by decide +kernel
theorem dX5_opening_6 : decode cX5_opening 6 = .ok (.ifCond .eq 10, 3) := by decide +kernel
theorem dX5_opening_9 : decode cX5_opening 9 = .ok (.aload_n 0, 1) := by decide +kernel
theorem dX5_opening_10 : decode cX5_opening 10 = .ok (.ldc 54, 2) := by decide +kernel
theorem dX5_opening_12 : decode cX5_opening 12 = .ok (.invokevirtual 55, 3) := by decide +kernel
theorem dX5_opening_15 : decode cX5_opening 15 = .ok (.ireturn, 1) := by decide +kernel
theorem dX5_opening_16 : decode cX5_opening 16 = .ok (.aload_n 0, 1) := by decide +kernel
theorem dX5_opening_17 : decode cX5_opening 17 = .ok (.getfield 12, 3) := by decide +kernel
theorem dX5_opening_20 : decode cX5_opening 20 = .ok (.getfield 59, 3) := by decide +kernel
theorem dX5_opening_23 : decode cX5_opening 23 = .ok (.getfield 68, 3) := by decide +kernel
theorem dX5_opening_26 : decode cX5_opening 26 = .ok (.iload_n 1, 1) := by decide +kernel
theorem dX5_opening_27 : decode cX5_opening 27 = .ok (.iaload, 1) := by decide +kernel
theorem dX5_opening_28 : decode cX5_opening 28 = .ok (.ireturn, 1) := by decide +kernel
theorem dX5_steady_0 : decode cX5_steady 0 = .ok (.iload_n 1, 1) := by decide +kernel
theorem dX5_steady_1 : decode cX5_steady 1 = .ok (.bipush 99, 2) := by decide +kernel
theorem dX5_steady_3 : decode cX5_steady 3 = .ok (.invokestatic 50, 3) := by decide +kernel
theorem dX5_steady_6 : decode cX5_steady 6 = .ok (.ifCond .eq 10, 3) := by decide +kernel
theorem dX5_steady_9 : decode cX5_steady 9 = .ok (.aload_n 0, 1) := by decide +kernel
theorem dX5_steady_10 : decode cX5_steady 10 = .ok (.ldc 54, 2) := by decide +kernel
theorem dX5_steady_12 : decode cX5_steady 12 = .ok (.invokevirtual 55, 3) := by decide +kernel
theorem dX5_steady_15 : decode cX5_steady 15 = .ok (.ireturn, 1) := by decide +kernel
theorem dX5_steady_16 : decode cX5_steady 16 = .ok (.aload_n 0, 1) := by decide +kernel
theorem dX5_steady_17 : decode cX5_steady 17 = .ok (.getfield 12, 3) := by decide +kernel
theorem dX5_steady_20 : decode cX5_steady 20 = .ok (.getfield 59, 3) := by decide +kernel
theorem dX5_steady_23 : decode cX5_steady 23 = .ok (.invokevirtual 71, 3) := by decide +kernel
theorem dX5_steady_26 : decode cX5_steady 26 = .ok (.istore_n 2, 1) := by decide +kernel
theorem dX5_steady_27 : decode cX5_steady 27 = .ok (.aload_n 0, 1) := by decide +kernel
theorem dX5_steady_28 : decode cX5_steady 28 = .ok (.getfield 12, 3) := by decide +kernel
theorem dX5_steady_31 : decode cX5_steady 31 = .ok (.getfield 59, 3) := by decide +kernel
theorem dX5_steady_34 : decode cX5_steady 34 = .ok (.iload_n 1, 1) := by decide +kernel
theorem dX5_steady_35 : decode cX5_steady 35 = .ok (.invokevirtual 75, 3) := by decide +kernel
theorem dX5_steady_38 : decode cX5_steady 38 = .ok (.iload_n 2, 1) := by decide +kernel
theorem dX5_steady_39 : decode cX5_steady 39 = .ok (.ireturn, 1) := by decide +kernel
theorem dX5_watcher_0 : decode cX5_watcher 0 = .ok (.iload_n 1, 1) := by decide +kernel
theorem dX5_watcher_1 : decode cX5_watcher 1 = .ok (.bipush 6, 2) := by decide +kernel
theorem dX5_watcher_3 : decode cX5_watcher 3 = .ok (.invokestatic 50, 3) := by decide +kernel
theorem dX5_watcher_6 : decode cX5_watcher 6 = .ok (.ifCond .ne 12, 3) := by decide +kernel
theorem dX5_watcher_9 : decode cX5_watcher 9 = .ok (.iload_n 2, 1) := by decide +kernel
theorem dX5_watcher_10 : decode cX5_watcher 10 = .ok (.bipush 11, 2) := by decide +kernel
theorem dX5_watcher_12 : decode cX5_watcher 12 = .ok (.invokestatic 50, 3) := by decide +kernel
theorem dX5_watcher_15 : decode cX5_watcher 15 = .ok (.ifCond .eq 10, 3) := by decide +kernel
theorem dX5_watcher_18 : decode cX5_watcher 18 = .ok (.aload_n 0, 1) := by decide +kernel
theorem dX5_watcher_19 : decode cX5_watcher 19 = .ok (.ldc 54, 2) := by decide +kernel
theorem dX5_watcher_21 : decode cX5_watcher 21 = .ok (.invokevirtual 55, 3) := by decide +kernel
theorem dX5_watcher_24 : decode cX5_watcher 24 = .ok (.ireturn, 1) := by decide +kernel
theorem dX5_watcher_25 : decode cX5_watcher 25 = .ok (.aload_n 0, 1) := by decide +kernel
theorem dX5_watcher_26 : decode cX5_watcher 26 = .ok (.getfield 12, 3) := by decide +kernel
theorem dX5_watcher_29 : decode cX5_watcher 29 = .ok (.invokevirtual 79, 3) := by decide +kernel
theorem dX5_watcher_32 : decode cX5_watcher 32 = .ok (.ifCond .eq 10, 3) := by decide +kernel
theorem dX5_watcher_35 : decode cX5_watcher 35 = .ok (.aload_n 0, 1) := by decide +kernel
theorem dX5_watcher_36 : decode cX5_watcher 36 = .ok (.ldc 83, 2) := by decide +kernel
theorem dX5_watcher_38 : decode cX5_watcher 38 = .ok (.invokevirtual 55, 3) := by decide +kernel
theorem dX5_watcher_41 : decode cX5_watcher 41 = .ok (.ireturn, 1) := by decide +kernel
theorem dX5_watcher_42 : decode cX5_watcher 42 = .ok (.aload_n 0, 1) := by decide +kernel
theorem dX5_watcher_43 : decode cX5_watcher 43 = .ok (.getfield 12, 3) := by decide +kernel
theorem dX5_watcher_46 : decode cX5_watcher 46 = .ok (.iload_n 1, 1) := by decide +kernel
theorem dX5_watcher_47 : decode cX5_watcher 47 = .ok (.iload_n 2, 1) := by decide +kernel
theorem dX5_watcher_48 : decode cX5_watcher 48 = .ok (.invokevirtual 84, 3) := by decide +kernel
theorem dX5_watcher_51 : decode cX5_watcher 51 = .ok (.ireturn, 1) := by decide +kernel
theorem dX5_of_0 : decode cX5_of 0 = .ok (.aload_n 0, 1) := by decide +kernel
theorem dX5_of_1 : decode cX5_of 1 = .ok (.iload_n 1, 1) := by decide +kernel
theorem dX5_of_2 : decode cX5_of 2 = .ok (.invokevirtual 88, 3) := by decide +kernel
theorem dX5_of_5 : decode cX5_of 5 = .ok (.ifCond .eq 10, 3) := by decide +kernel
theorem dX5_of_8 : decode cX5_of 8 = .ok (.aload_n 0, 1) := by decide +kernel
theorem dX5_of_9 : decode cX5_of 9 = .ok (.ldc 54, 2) := by decide +kernel
theorem dX5_of_11 : decode cX5_of 11 = .ok (.invokevirtual 55, 3) := by decide +kernel
theorem dX5_of_14 : decode cX5_of 14 = .ok (.ireturn, 1) := by decide +kernel
theorem dX5_of_15 : decode cX5_of 15 = .ok (.aload_n 0, 1) := by decide +kernel
theorem dX5_of_16 : decode cX5_of 16 = .ok (.getfield 12, 3) := by decide +kernel
theorem dX5_of_19 : decode cX5_of 19 = .ok (.getfield 92, 3) := by decide +kernel
theorem dX5_of_22 : decode cX5_of 22 = .ok (.iload_n 1, 1) := by decide +kernel
theorem dX5_of_23 : decode cX5_of 23 = .ok (.aaload, 1) := by decide +kernel
theorem dX5_of_24 : decode cX5_of 24 = .ok (.astore_n 3, 1) := by decide +kernel
theorem dX5_of_25 : decode cX5_of 25 = .ok (.iload_n 2, 1) := by decide +kernel
theorem dX5_of_26 : decode cX5_of 26 = .ok (.tableswitch 86 0 7 #[46, 51, 56, 61, 66, 71, 76, 81], 46) := by decide +kernel
theorem dX5_of_72 : decode cX5_of 72 = .ok (.aload_n 3, 1) := by decide +kernel
theorem dX5_of_73 : decode cX5_of 73 = .ok (.getfield 96, 3) := by decide +kernel
theorem dX5_of_76 : decode cX5_of 76 = .ok (.ireturn, 1) := by decide +kernel
theorem dX5_of_77 : decode cX5_of 77 = .ok (.aload_n 3, 1) := by decide +kernel
theorem dX5_of_78 : decode cX5_of 78 = .ok (.getfield 102, 3) := by decide +kernel
theorem dX5_of_81 : decode cX5_of 81 = .ok (.ireturn, 1) := by decide +kernel
theorem dX5_of_82 : decode cX5_of 82 = .ok (.aload_n 3, 1) := by decide +kernel
theorem dX5_of_83 : decode cX5_of 83 = .ok (.getfield 105, 3) := by decide +kernel
theorem dX5_of_86 : decode cX5_of 86 = .ok (.ireturn, 1) := by decide +kernel
theorem dX5_of_87 : decode cX5_of 87 = .ok (.aload_n 3, 1) := by decide +kernel
theorem dX5_of_88 : decode cX5_of 88 = .ok (.getfield 108, 3) := by decide +kernel
theorem dX5_of_91 : decode cX5_of 91 = .ok (.ireturn, 1) := by decide +kernel
theorem dX5_of_92 : decode cX5_of 92 = .ok (.aload_n 3, 1) := by decide +kernel
theorem dX5_of_93 : decode cX5_of 93 = .ok (.getfield 111, 3) := by decide +kernel
theorem dX5_of_96 : decode cX5_of 96 = .ok (.ireturn, 1) := by decide +kernel
theorem dX5_of_97 : decode cX5_of 97 = .ok (.aload_n 3, 1) := by decide +kernel
theorem dX5_of_98 : decode cX5_of 98 = .ok (.invokevirtual 114, 3) := by decide +kernel
theorem dX5_of_101 : decode cX5_of 101 = .ok (.ireturn, 1) := by decide +kernel
theorem dX5_of_102 : decode cX5_of 102 = .ok (.aload_n 3, 1) := by decide +kernel
theorem dX5_of_103 : decode cX5_of 103 = .ok (.invokevirtual 117, 3) := by decide +kernel
theorem dX5_of_106 : decode cX5_of 106 = .ok (.ireturn, 1) := by decide +kernel
theorem dX5_of_107 : decode cX5_of 107 = .ok (.aload_n 3, 1) := by decide +kernel
theorem dX5_of_108 : decode cX5_of 108 = .ok (.invokevirtual 120, 3) := by decide +kernel
theorem dX5_of_111 : decode cX5_of 111 = .ok (.ireturn, 1) := by decide +kernel
theorem dX5_of_112 : decode cX5_of 112 = .ok (.aload_n 0, 1) := by decide +kernel
theorem dX5_of_113 : decode cX5_of 113 = .ok (.ldc 54, 2) := by decide +kernel
theorem dX5_of_115 : decode cX5_of 115 = .ok (.invokevirtual 55, 3) := by decide +kernel
theorem dX5_of_118 : decode cX5_of 118 = .ok (.ireturn, 1) := by decide +kernel
theorem dX5_change_0 : decode cX5_change 0 = .ok (.aload_n 0, 1) := by decide +kernel
theorem dX5_change_1 : decode cX5_change 1 = .ok (.iload_n 1, 1) := by decide +kernel
theorem dX5_change_2 : decode cX5_change 2 = .ok (.invokevirtual 88, 3) := by decide +kernel
theorem dX5_change_5 : decode cX5_change 5 = .ok (.ifCond .ne 14, 3) := by decide +kernel
theorem dX5_change_8 : decode cX5_change 8 = .ok (.iload_n 3, 1) := by decide +kernel
theorem dX5_change_9 : decode cX5_change 9 = .ok (.iload_n 2, 1) := by decide +kernel
theorem dX5_change_10 : decode cX5_change 10 = .ok (.invokestatic 123, 3) := by decide +kernel
theorem dX5_change_13 : decode cX5_change 13 = .ok (.invokestatic 50, 3) := by decide +kernel
theorem dX5_change_16 : decode cX5_change 16 = .ok (.ifCond .eq 10, 3) := by decide +kernel
theorem dX5_change_19 : decode cX5_change 19 = .ok (.aload_n 0, 1) := by decide +kernel
theorem dX5_change_20 : decode cX5_change 20 = .ok (.ldc 54, 2) := by decide +kernel
theorem dX5_change_22 : decode cX5_change 22 = .ok (.invokevirtual 55, 3) := by decide +kernel
theorem dX5_change_25 : decode cX5_change 25 = .ok (.ireturn, 1) := by decide +kernel
theorem dX5_change_26 : decode cX5_change 26 = .ok (.aload_n 0, 1) := by decide +kernel
theorem dX5_change_27 : decode cX5_change 27 = .ok (.getfield 12, 3) := by decide +kernel
theorem dX5_change_30 : decode cX5_change 30 = .ok (.getfield 92, 3) := by decide +kernel
theorem dX5_change_33 : decode cX5_change 33 = .ok (.iload_n 1, 1) := by decide +kernel
theorem dX5_change_34 : decode cX5_change 34 = .ok (.aaload, 1) := by decide +kernel
theorem dX5_change_35 : decode cX5_change 35 = .ok (.iload_n 2, 1) := by decide +kernel
theorem dX5_change_36 : decode cX5_change 36 = .ok (.iload_n 3, 1) := by decide +kernel
theorem dX5_change_37 : decode cX5_change 37 = .ok (.invokevirtual 126, 3) := by decide +kernel
theorem dX5_change_40 : decode cX5_change 40 = .ok (.ireturn, 1) := by decide +kernel
theorem dX5_go_0 : decode cX5_go 0 = .ok (.iload_n 1, 1) := by decide +kernel
theorem dX5_go_1 : decode cX5_go 1 = .ok (.iconst 1, 1) := by decide +kernel
theorem dX5_go_2 : decode cX5_go 2 = .ok (.if_icmp .lt 9, 3) := by decide +kernel
theorem dX5_go_5 : decode cX5_go 5 = .ok (.iload_n 1, 1) := by decide +kernel
theorem dX5_go_6 : decode cX5_go 6 = .ok (.bipush 80, 2) := by decide +kernel
theorem dX5_go_8 : decode cX5_go 8 = .ok (.if_icmp .le 10, 3) := by decide +kernel
theorem dX5_go_11 : decode cX5_go 11 = .ok (.aload_n 0, 1) := by decide +kernel
theorem dX5_go_12 : decode cX5_go 12 = .ok (.ldc 54, 2) := by decide +kernel
theorem dX5_go_14 : decode cX5_go 14 = .ok (.invokevirtual 55, 3) := by decide +kernel
theorem dX5_go_17 : decode cX5_go 17 = .ok (.ireturn, 1) := by decide +kernel
theorem dX5_go_18 : decode cX5_go 18 = .ok (.aload_n 0, 1) := by decide +kernel
theorem dX5_go_19 : decode cX5_go 19 = .ok (.getfield 12, 3) := by decide +kernel
theorem dX5_go_22 : decode cX5_go 22 = .ok (.getfield 59, 3) := by decide +kernel
theorem dX5_go_25 : decode cX5_go 25 = .ok (.getfield 129, 3) := by decide +kernel
theorem dX5_go_28 : decode cX5_go 28 = .ok (.iload_n 1, 1) := by decide +kernel
theorem dX5_go_29 : decode cX5_go 29 = .ok (.iadd, 1) := by decide +kernel
theorem dX5_go_30 : decode cX5_go 30 = .ok (.ldc 132, 2) := by decide +kernel
theorem dX5_go_32 : decode cX5_go 32 = .ok (.if_icmp .le 10, 3) := by decide +kernel
theorem dX5_go_35 : decode cX5_go 35 = .ok (.aload_n 0, 1) := by decide +kernel
theorem dX5_go_36 : decode cX5_go 36 = .ok (.ldc 133, 2) := by decide +kernel
theorem dX5_go_38 : decode cX5_go 38 = .ok (.invokevirtual 55, 3) := by decide +kernel
theorem dX5_go_41 : decode cX5_go 41 = .ok (.ireturn, 1) := by decide +kernel
theorem dX5_go_42 : decode cX5_go 42 = .ok (.aload_n 0, 1) := by decide +kernel
theorem dX5_go_43 : decode cX5_go 43 = .ok (.getfield 12, 3) := by decide +kernel
theorem dX5_go_46 : decode cX5_go 46 = .ok (.iload_n 1, 1) := by decide +kernel
theorem dX5_go_47 : decode cX5_go 47 = .ok (.invokevirtual 134, 3) := by decide +kernel
theorem dX5_go_50 : decode cX5_go 50 = .ok (.aload_n 0, 1) := by decide +kernel
theorem dX5_go_51 : decode cX5_go 51 = .ok (.getfield 12, 3) := by decide +kernel
theorem dX5_go_54 : decode cX5_go 54 = .ok (.invokevirtual 137, 3) := by decide +kernel
theorem dX5_go_57 : decode cX5_go 57 = .ok (.ireturn, 1) := by decide +kernel
theorem dX5_now_0 : decode cX5_now 0 = .ok (.iload_n 1, 1) := by decide +kernel
theorem dX5_now_1 : decode cX5_now 1 = .ok (.tableswitch 111 0 6 #[43, 54, 65, 76, 84, 92, 100], 43) := by decide +kernel
theorem dX5_now_44 : decode cX5_now 44 = .ok (.aload_n 0, 1) := by decide +kernel
theorem dX5_now_45 : decode cX5_now 45 = .ok (.getfield 12, 3) := by decide +kernel
theorem dX5_now_48 : decode cX5_now 48 = .ok (.getfield 59, 3) := by decide +kernel
theorem dX5_now_51 : decode cX5_now 51 = .ok (.getfield 129, 3) := by decide +kernel
theorem dX5_now_54 : decode cX5_now 54 = .ok (.ireturn, 1) := by decide +kernel
theorem dX5_now_55 : decode cX5_now 55 = .ok (.aload_n 0, 1) := by decide +kernel
theorem dX5_now_56 : decode cX5_now 56 = .ok (.getfield 12, 3) := by decide +kernel
theorem dX5_now_59 : decode cX5_now 59 = .ok (.getfield 59, 3) := by decide +kernel
theorem dX5_now_62 : decode cX5_now 62 = .ok (.invokevirtual 140, 3) := by decide +kernel
theorem dX5_now_65 : decode cX5_now 65 = .ok (.ireturn, 1) := by decide +kernel
theorem dX5_now_66 : decode cX5_now 66 = .ok (.aload_n 0, 1) := by decide +kernel
theorem dX5_now_67 : decode cX5_now 67 = .ok (.getfield 12, 3) := by decide +kernel
theorem dX5_now_70 : decode cX5_now 70 = .ok (.getfield 59, 3) := by decide +kernel
theorem dX5_now_73 : decode cX5_now 73 = .ok (.getfield 143, 3) := by decide +kernel
theorem dX5_now_76 : decode cX5_now 76 = .ok (.ireturn, 1) := by decide +kernel
theorem dX5_now_77 : decode cX5_now 77 = .ok (.aload_n 0, 1) := by decide +kernel
theorem dX5_now_78 : decode cX5_now 78 = .ok (.getfield 12, 3) := by decide +kernel
theorem dX5_now_81 : decode cX5_now 81 = .ok (.invokevirtual 137, 3) := by decide +kernel
theorem dX5_now_84 : decode cX5_now 84 = .ok (.ireturn, 1) := by decide +kernel
theorem dX5_now_85 : decode cX5_now 85 = .ok (.aload_n 0, 1) := by decide +kernel
theorem dX5_now_86 : decode cX5_now 86 = .ok (.getfield 12, 3) := by decide +kernel
theorem dX5_now_89 : decode cX5_now 89 = .ok (.invokevirtual 146, 3) := by decide +kernel
theorem dX5_now_92 : decode cX5_now 92 = .ok (.ireturn, 1) := by decide +kernel
theorem dX5_now_93 : decode cX5_now 93 = .ok (.aload_n 0, 1) := by decide +kernel
theorem dX5_now_94 : decode cX5_now 94 = .ok (.getfield 12, 3) := by decide +kernel
theorem dX5_now_97 : decode cX5_now 97 = .ok (.invokevirtual 149, 3) := by decide +kernel
theorem dX5_now_100 : decode cX5_now 100 = .ok (.ireturn, 1) := by decide +kernel
theorem dX5_now_101 : decode cX5_now 101 = .ok (.aload_n 0, 1) := by decide +kernel
theorem dX5_now_102 : decode cX5_now 102 = .ok (.getfield 12, 3) := by decide +kernel
theorem dX5_now_105 : decode cX5_now 105 = .ok (.getfield 59, 3) := by decide +kernel
theorem dX5_now_108 : decode cX5_now 108 = .ok (.invokevirtual 71, 3) := by decide +kernel
theorem dX5_now_111 : decode cX5_now 111 = .ok (.ireturn, 1) := by decide +kernel
theorem dX5_now_112 : decode cX5_now 112 = .ok (.aload_n 0, 1) := by decide +kernel
theorem dX5_now_113 : decode cX5_now 113 = .ok (.ldc 54, 2) := by decide +kernel
theorem dX5_now_115 : decode cX5_now 115 = .ok (.invokevirtual 55, 3) := by decide +kernel
theorem dX5_now_118 : decode cX5_now 118 = .ok (.ireturn, 1) := by decide +kernel
theorem dX5_ahead_0 : decode cX5_ahead 0 = .ok (.iload_n 1, 1) := by decide +kernel
theorem dX5_ahead_1 : decode cX5_ahead 1 = .ok (.bipush 11, 2) := by decide +kernel
theorem dX5_ahead_3 : decode cX5_ahead 3 = .ok (.invokestatic 50, 3) := by decide +kernel
theorem dX5_ahead_6 : decode cX5_ahead 6 = .ok (.ifCond .ne 12, 3) := by decide +kernel
theorem dX5_ahead_9 : decode cX5_ahead 9 = .ok (.iload_n 2, 1) := by decide +kernel
theorem dX5_ahead_10 : decode cX5_ahead 10 = .ok (.bipush 100, 2) := by decide +kernel
theorem dX5_ahead_12 : decode cX5_ahead 12 = .ok (.invokestatic 50, 3) := by decide +kernel
theorem dX5_ahead_15 : decode cX5_ahead 15 = .ok (.ifCond .eq 10, 3) := by decide +kernel
theorem dX5_ahead_18 : decode cX5_ahead 18 = .ok (.aload_n 0, 1) := by decide +kernel
theorem dX5_ahead_19 : decode cX5_ahead 19 = .ok (.ldc 54, 2) := by decide +kernel
end
section
theorem dX5_ahead_21 : decode cX5_ahead 21 = .ok (.invokevirtual 55, 3) := by decide +kernel
theorem dX5_ahead_24 : decode cX5_ahead 24 = .ok (.ireturn, 1) := by decide +kernel
theorem dX5_ahead_25 : decode cX5_ahead 25 = .ok (.aload_n 0, 1) := by decide +kernel
theorem dX5_ahead_26 : decode cX5_ahead 26 = .ok (.invokevirtual 152, 3) := by decide +kernel
theorem dX5_ahead_29 : decode cX5_ahead 29 = .ok (.astore_n 3, 1) := by decide +kernel
theorem dX5_ahead_30 : decode cX5_ahead 30 = .ok (.aload_n 3, 1) := by decide +kernel
theorem dX5_ahead_31 : decode cX5_ahead 31 = .ok (.iload_n 2, 1) := by decide +kernel
theorem dX5_ahead_32 : decode cX5_ahead 32 = .ok (.invokevirtual 156, 3) := by decide +kernel
theorem dX5_ahead_35 : decode cX5_ahead 35 = .ok (.aload_n 3, 1) := by decide +kernel
theorem dX5_ahead_36 : decode cX5_ahead 36 = .ok (.getfield 63, 3) := by decide +kernel
theorem dX5_ahead_39 : decode cX5_ahead 39 = .ok (.iload_n 1, 1) := by decide +kernel
theorem dX5_ahead_40 : decode cX5_ahead 40 = .ok (.iaload, 1) := by decide +kernel
theorem dX5_ahead_41 : decode cX5_ahead 41 = .ok (.ireturn, 1) := by decide +kernel
theorem dX5_belief_0 : decode cX5_belief 0 = .ok (.aload_n 0, 1) := by decide +kernel
theorem dX5_belief_1 : decode cX5_belief 1 = .ok (.iload_n 1, 1) := by decide +kernel
theorem dX5_belief_2 : decode cX5_belief 2 = .ok (.invokevirtual 88, 3) := by decide +kernel
theorem dX5_belief_5 : decode cX5_belief 5 = .ok (.ifCond .ne 22, 3) := by decide +kernel
theorem dX5_belief_8 : decode cX5_belief 8 = .ok (.iload_n 2, 1) := by decide +kernel
theorem dX5_belief_9 : decode cX5_belief 9 = .ok (.iconst 3, 1) := by decide +kernel
theorem dX5_belief_10 : decode cX5_belief 10 = .ok (.if_icmp .eq 8, 3) := by decide +kernel
theorem dX5_belief_13 : decode cX5_belief 13 = .ok (.iload_n 2, 1) := by decide +kernel
theorem dX5_belief_14 : decode cX5_belief 14 = .ok (.iconst 4, 1) := by decide +kernel
theorem dX5_belief_15 : decode cX5_belief 15 = .ok (.if_icmp .ne 12, 3) := by decide +kernel
theorem dX5_belief_18 : decode cX5_belief 18 = .ok (.iload_n 3, 1) := by decide +kernel
theorem dX5_belief_19 : decode cX5_belief 19 = .ok (.bipush 100, 2) := by decide +kernel
theorem dX5_belief_21 : decode cX5_belief 21 = .ok (.invokestatic 50, 3) := by decide +kernel
theorem dX5_belief_24 : decode cX5_belief 24 = .ok (.ifCond .eq 10, 3) := by decide +kernel
theorem dX5_belief_27 : decode cX5_belief 27 = .ok (.aload_n 0, 1) := by decide +kernel
theorem dX5_belief_28 : decode cX5_belief 28 = .ok (.ldc 54, 2) := by decide +kernel
theorem dX5_belief_30 : decode cX5_belief 30 = .ok (.invokevirtual 55, 3) := by decide +kernel
theorem dX5_belief_33 : decode cX5_belief 33 = .ok (.ireturn, 1) := by decide +kernel
theorem dX5_belief_34 : decode cX5_belief 34 = .ok (.aload_n 0, 1) := by decide +kernel
theorem dX5_belief_35 : decode cX5_belief 35 = .ok (.getfield 19, 3) := by decide +kernel
theorem dX5_belief_38 : decode cX5_belief 38 = .ok (.aload_n 0, 1) := by decide +kernel
theorem dX5_belief_39 : decode cX5_belief 39 = .ok (.getfield 12, 3) := by decide +kernel
theorem dX5_belief_42 : decode cX5_belief 42 = .ok (.invokevirtual 159, 3) := by decide +kernel
theorem dX5_belief_45 : decode cX5_belief 45 = .ok (.aload_n 0, 1) := by decide +kernel
theorem dX5_belief_46 : decode cX5_belief 46 = .ok (.getfield 19, 3) := by decide +kernel
theorem dX5_belief_49 : decode cX5_belief 49 = .ok (.iload_n 3, 1) := by decide +kernel
theorem dX5_belief_50 : decode cX5_belief 50 = .ok (.invokevirtual 134, 3) := by decide +kernel
theorem dX5_belief_53 : decode cX5_belief 53 = .ok (.aload_n 0, 1) := by decide +kernel
theorem dX5_belief_54 : decode cX5_belief 54 = .ok (.getfield 19, 3) := by decide +kernel
theorem dX5_belief_57 : decode cX5_belief 57 = .ok (.getfield 92, 3) := by decide +kernel
theorem dX5_belief_60 : decode cX5_belief 60 = .ok (.iload_n 1, 1) := by decide +kernel
theorem dX5_belief_61 : decode cX5_belief 61 = .ok (.aaload, 1) := by decide +kernel
theorem dX5_belief_62 : decode cX5_belief 62 = .ok (.astore 4, 2) := by decide +kernel
theorem dX5_belief_64 : decode cX5_belief 64 = .ok (.iload_n 2, 1) := by decide +kernel
theorem dX5_belief_65 : decode cX5_belief 65 = .ok (.iconst 3, 1) := by decide +kernel
theorem dX5_belief_66 : decode cX5_belief 66 = .ok (.if_icmp .ne 11, 3) := by decide +kernel
theorem dX5_belief_69 : decode cX5_belief 69 = .ok (.aload 4, 2) := by decide +kernel
theorem dX5_belief_71 : decode cX5_belief 71 = .ok (.getfield 108, 3) := by decide +kernel
theorem dX5_belief_74 : decode cX5_belief 74 = .ok (.goto 8, 3) := by decide +kernel
theorem dX5_belief_77 : decode cX5_belief 77 = .ok (.aload 4, 2) := by decide +kernel
theorem dX5_belief_79 : decode cX5_belief 79 = .ok (.getfield 111, 3) := by decide +kernel
theorem dX5_belief_82 : decode cX5_belief 82 = .ok (.ireturn, 1) := by decide +kernel
theorem dX5_when_0 : decode cX5_when 0 = .ok (.aload_n 0, 1) := by decide +kernel
theorem dX5_when_1 : decode cX5_when 1 = .ok (.iload_n 1, 1) := by decide +kernel
theorem dX5_when_2 : decode cX5_when 2 = .ok (.invokevirtual 88, 3) := by decide +kernel
theorem dX5_when_5 : decode cX5_when 5 = .ok (.ifCond .eq 10, 3) := by decide +kernel
theorem dX5_when_8 : decode cX5_when 8 = .ok (.aload_n 0, 1) := by decide +kernel
theorem dX5_when_9 : decode cX5_when 9 = .ok (.ldc 54, 2) := by decide +kernel
theorem dX5_when_11 : decode cX5_when 11 = .ok (.invokevirtual 55, 3) := by decide +kernel
theorem dX5_when_14 : decode cX5_when 14 = .ok (.ireturn, 1) := by decide +kernel
theorem dX5_when_15 : decode cX5_when 15 = .ok (.aload_n 0, 1) := by decide +kernel
theorem dX5_when_16 : decode cX5_when 16 = .ok (.getfield 19, 3) := by decide +kernel
theorem dX5_when_19 : decode cX5_when 19 = .ok (.aload_n 0, 1) := by decide +kernel
theorem dX5_when_20 : decode cX5_when 20 = .ok (.getfield 12, 3) := by decide +kernel
theorem dX5_when_23 : decode cX5_when 23 = .ok (.invokevirtual 159, 3) := by decide +kernel
theorem dX5_when_26 : decode cX5_when 26 = .ok (.iconst 0, 1) := by decide +kernel
theorem dX5_when_27 : decode cX5_when 27 = .ok (.istore_n 2, 1) := by decide +kernel
theorem dX5_when_28 : decode cX5_when 28 = .ok (.iload_n 2, 1) := by decide +kernel
theorem dX5_when_29 : decode cX5_when 29 = .ok (.sipush 200, 3) := by decide +kernel
theorem dX5_when_32 : decode cX5_when 32 = .ok (.if_icmp .gt 34, 3) := by decide +kernel
theorem dX5_when_35 : decode cX5_when 35 = .ok (.aload_n 0, 1) := by decide +kernel
theorem dX5_when_36 : decode cX5_when 36 = .ok (.getfield 19, 3) := by decide +kernel
theorem dX5_when_39 : decode cX5_when 39 = .ok (.getfield 92, 3) := by decide +kernel
theorem dX5_when_42 : decode cX5_when 42 = .ok (.iload_n 1, 1) := by decide +kernel
theorem dX5_when_43 : decode cX5_when 43 = .ok (.aaload, 1) := by decide +kernel
theorem dX5_when_44 : decode cX5_when 44 = .ok (.invokevirtual 163, 3) := by decide +kernel
theorem dX5_when_47 : decode cX5_when 47 = .ok (.ifCond .eq 5, 3) := by decide +kernel
theorem dX5_when_50 : decode cX5_when 50 = .ok (.iload_n 2, 1) := by decide +kernel
theorem dX5_when_51 : decode cX5_when 51 = .ok (.ireturn, 1) := by decide +kernel
theorem dX5_when_52 : decode cX5_when 52 = .ok (.aload_n 0, 1) := by decide +kernel
theorem dX5_when_53 : decode cX5_when 53 = .ok (.getfield 19, 3) := by decide +kernel
theorem dX5_when_56 : decode cX5_when 56 = .ok (.iconst 1, 1) := by decide +kernel
theorem dX5_when_57 : decode cX5_when 57 = .ok (.invokevirtual 134, 3) := by decide +kernel
theorem dX5_when_60 : decode cX5_when 60 = .ok (.iinc 2 1, 3) := by decide +kernel
theorem dX5_when_63 : decode cX5_when 63 = .ok (.goto (-35), 3) := by decide +kernel
theorem dX5_when_66 : decode cX5_when 66 = .ok (.aload_n 0, 1) := by decide +kernel
theorem dX5_when_67 : decode cX5_when 67 = .ok (.ldc 166, 2) := by decide +kernel
theorem dX5_when_69 : decode cX5_when 69 = .ok (.invokevirtual 55, 3) := by decide +kernel
theorem dX5_when_72 : decode cX5_when 72 = .ok (.ireturn, 1) := by decide +kernel
theorem dX5_first_0 : decode cX5_first 0 = .ok (.aload_n 0, 1) := by decide +kernel
theorem dX5_first_1 : decode cX5_first 1 = .ok (.getfield 19, 3) := by decide +kernel
theorem dX5_first_4 : decode cX5_first 4 = .ok (.aload_n 0, 1) := by decide +kernel
theorem dX5_first_5 : decode cX5_first 5 = .ok (.getfield 12, 3) := by decide +kernel
theorem dX5_first_8 : decode cX5_first 8 = .ok (.invokevirtual 159, 3) := by decide +kernel
theorem dX5_first_11 : decode cX5_first 11 = .ok (.iconst 0, 1) := by decide +kernel
theorem dX5_first_12 : decode cX5_first 12 = .ok (.istore_n 1, 1) := by decide +kernel
theorem dX5_first_13 : decode cX5_first 13 = .ok (.iload_n 1, 1) := by decide +kernel
theorem dX5_first_14 : decode cX5_first 14 = .ok (.sipush 200, 3) := by decide +kernel
theorem dX5_first_17 : decode cX5_first 17 = .ok (.if_icmp .gt 34, 3) := by decide +kernel
theorem dX5_first_20 : decode cX5_first 20 = .ok (.aload_n 0, 1) := by decide +kernel
theorem dX5_first_21 : decode cX5_first 21 = .ok (.getfield 19, 3) := by decide +kernel
theorem dX5_first_24 : decode cX5_first 24 = .ok (.invokevirtual 137, 3) := by decide +kernel
theorem dX5_first_27 : decode cX5_first 27 = .ok (.istore_n 2, 1) := by decide +kernel
theorem dX5_first_28 : decode cX5_first 28 = .ok (.iload_n 2, 1) := by decide +kernel
theorem dX5_first_29 : decode cX5_first 29 = .ok (.ifCond .eq 8, 3) := by decide +kernel
theorem dX5_first_32 : decode cX5_first 32 = .ok (.iload_n 2, 1) := by decide +kernel
theorem dX5_first_33 : decode cX5_first 33 = .ok (.invokestatic 167, 3) := by decide +kernel
theorem dX5_first_36 : decode cX5_first 36 = .ok (.ireturn, 1) := by decide +kernel
theorem dX5_first_37 : decode cX5_first 37 = .ok (.aload_n 0, 1) := by decide +kernel
theorem dX5_first_38 : decode cX5_first 38 = .ok (.getfield 19, 3) := by decide +kernel
theorem dX5_first_41 : decode cX5_first 41 = .ok (.iconst 1, 1) := by decide +kernel
theorem dX5_first_42 : decode cX5_first 42 = .ok (.invokevirtual 134, 3) := by decide +kernel
theorem dX5_first_45 : decode cX5_first 45 = .ok (.iinc 1 1, 3) := by decide +kernel
theorem dX5_first_48 : decode cX5_first 48 = .ok (.goto (-35), 3) := by decide +kernel
theorem dX5_first_51 : decode cX5_first 51 = .ok (.aload_n 0, 1) := by decide +kernel
theorem dX5_first_52 : decode cX5_first 52 = .ok (.ldc 166, 2) := by decide +kernel
theorem dX5_first_54 : decode cX5_first 54 = .ok (.invokevirtual 55, 3) := by decide +kernel
theorem dX5_first_57 : decode cX5_first 57 = .ok (.ireturn, 1) := by decide +kernel
theorem dX5_reaches_0 : decode cX5_reaches 0 = .ok (.iload_n 1, 1) := by decide +kernel
theorem dX5_reaches_1 : decode cX5_reaches 1 = .ok (.bipush 11, 2) := by decide +kernel
theorem dX5_reaches_3 : decode cX5_reaches 3 = .ok (.invokestatic 50, 3) := by decide +kernel
theorem dX5_reaches_6 : decode cX5_reaches 6 = .ok (.ifCond .ne 13, 3) := by decide +kernel
theorem dX5_reaches_9 : decode cX5_reaches 9 = .ok (.iload_n 2, 1) := by decide +kernel
theorem dX5_reaches_10 : decode cX5_reaches 10 = .ok (.sipush 9999, 3) := by decide +kernel
theorem dX5_reaches_13 : decode cX5_reaches 13 = .ok (.invokestatic 50, 3) := by decide +kernel
theorem dX5_reaches_16 : decode cX5_reaches 16 = .ok (.ifCond .eq 10, 3) := by decide +kernel
theorem dX5_reaches_19 : decode cX5_reaches 19 = .ok (.aload_n 0, 1) := by decide +kernel
theorem dX5_reaches_20 : decode cX5_reaches 20 = .ok (.ldc 54, 2) := by decide +kernel
theorem dX5_reaches_22 : decode cX5_reaches 22 = .ok (.invokevirtual 55, 3) := by decide +kernel
theorem dX5_reaches_25 : decode cX5_reaches 25 = .ok (.ireturn, 1) := by decide +kernel
theorem dX5_reaches_26 : decode cX5_reaches 26 = .ok (.aload_n 0, 1) := by decide +kernel
theorem dX5_reaches_27 : decode cX5_reaches 27 = .ok (.invokevirtual 152, 3) := by decide +kernel
theorem dX5_reaches_30 : decode cX5_reaches 30 = .ok (.astore_n 3, 1) := by decide +kernel
theorem dX5_reaches_31 : decode cX5_reaches 31 = .ok (.iconst 0, 1) := by decide +kernel
theorem dX5_reaches_32 : decode cX5_reaches 32 = .ok (.istore 4, 2) := by decide +kernel
theorem dX5_reaches_34 : decode cX5_reaches 34 = .ok (.iload 4, 2) := by decide +kernel
theorem dX5_reaches_36 : decode cX5_reaches 36 = .ok (.sipush 200, 3) := by decide +kernel
theorem dX5_reaches_39 : decode cX5_reaches 39 = .ok (.if_icmp .gt 27, 3) := by decide +kernel
theorem dX5_reaches_42 : decode cX5_reaches 42 = .ok (.aload_n 3, 1) := by decide +kernel
theorem dX5_reaches_43 : decode cX5_reaches 43 = .ok (.getfield 63, 3) := by decide +kernel
theorem dX5_reaches_46 : decode cX5_reaches 46 = .ok (.iload_n 1, 1) := by decide +kernel
theorem dX5_reaches_47 : decode cX5_reaches 47 = .ok (.iaload, 1) := by decide +kernel
theorem dX5_reaches_48 : decode cX5_reaches 48 = .ok (.iload_n 2, 1) := by decide +kernel
theorem dX5_reaches_49 : decode cX5_reaches 49 = .ok (.if_icmp .lt 6, 3) := by decide +kernel
theorem dX5_reaches_52 : decode cX5_reaches 52 = .ok (.iload 4, 2) := by decide +kernel
theorem dX5_reaches_54 : decode cX5_reaches 54 = .ok (.ireturn, 1) := by decide +kernel
theorem dX5_reaches_55 : decode cX5_reaches 55 = .ok (.aload_n 3, 1) := by decide +kernel
theorem dX5_reaches_56 : decode cX5_reaches 56 = .ok (.iconst 1, 1) := by decide +kernel
theorem dX5_reaches_57 : decode cX5_reaches 57 = .ok (.invokevirtual 156, 3) := by decide +kernel
theorem dX5_reaches_60 : decode cX5_reaches 60 = .ok (.iinc 4 1, 3) := by decide +kernel
theorem dX5_reaches_63 : decode cX5_reaches 63 = .ok (.goto (-29), 3) := by decide +kernel
theorem dX5_reaches_66 : decode cX5_reaches 66 = .ok (.aload_n 0, 1) := by decide +kernel
theorem dX5_reaches_67 : decode cX5_reaches 67 = .ok (.ldc 166, 2) := by decide +kernel
theorem dX5_reaches_69 : decode cX5_reaches 69 = .ok (.invokevirtual 55, 3) := by decide +kernel
theorem dX5_reaches_72 : decode cX5_reaches 72 = .ok (.ireturn, 1) := by decide +kernel
theorem dX5_range_0 : decode cX5_range 0 = .ok (.iload_n 1, 1) := by decide +kernel
theorem dX5_range_1 : decode cX5_range 1 = .ok (.bipush 11, 2) := by decide +kernel
theorem dX5_range_3 : decode cX5_range 3 = .ok (.invokestatic 50, 3) := by decide +kernel
theorem dX5_range_6 : decode cX5_range 6 = .ok (.ifCond .ne 20, 3) := by decide +kernel
theorem dX5_range_9 : decode cX5_range 9 = .ok (.iload_n 2, 1) := by decide +kernel
theorem dX5_range_10 : decode cX5_range 10 = .ok (.bipush 100, 2) := by decide +kernel
theorem dX5_range_12 : decode cX5_range 12 = .ok (.invokestatic 50, 3) := by decide +kernel
theorem dX5_range_15 : decode cX5_range 15 = .ok (.ifCond .ne 11, 3) := by decide +kernel
theorem dX5_range_18 : decode cX5_range 18 = .ok (.iload_n 3, 1) := by decide +kernel
theorem dX5_range_19 : decode cX5_range 19 = .ok (.iconst 1, 1) := by decide +kernel
theorem dX5_range_20 : decode cX5_range 20 = .ok (.invokestatic 50, 3) := by decide +kernel
theorem dX5_range_23 : decode cX5_range 23 = .ok (.ifCond .eq 10, 3) := by decide +kernel
theorem dX5_range_26 : decode cX5_range 26 = .ok (.aload_n 0, 1) := by decide +kernel
theorem dX5_range_27 : decode cX5_range 27 = .ok (.ldc 54, 2) := by decide +kernel
theorem dX5_range_29 : decode cX5_range 29 = .ok (.invokevirtual 55, 3) := by decide +kernel
theorem dX5_range_32 : decode cX5_range 32 = .ok (.ireturn, 1) := by decide +kernel
theorem dX5_range_33 : decode cX5_range 33 = .ok (.aload_n 0, 1) := by decide +kernel
theorem dX5_range_34 : decode cX5_range 34 = .ok (.invokevirtual 152, 3) := by decide +kernel
theorem dX5_range_37 : decode cX5_range 37 = .ok (.astore 4, 2) := by decide +kernel
theorem dX5_range_39 : decode cX5_range 39 = .ok (.aload 4, 2) := by decide +kernel
theorem dX5_range_41 : decode cX5_range 41 = .ok (.getfield 63, 3) := by decide +kernel
theorem dX5_range_44 : decode cX5_range 44 = .ok (.iload_n 1, 1) := by decide +kernel
theorem dX5_range_45 : decode cX5_range 45 = .ok (.iaload, 1) := by decide +kernel
theorem dX5_range_46 : decode cX5_range 46 = .ok (.istore 5, 2) := by decide +kernel
theorem dX5_range_48 : decode cX5_range 48 = .ok (.iload 5, 2) := by decide +kernel
theorem dX5_range_50 : decode cX5_range 50 = .ok (.istore 6, 2) := by decide +kernel
theorem dX5_range_52 : decode cX5_range 52 = .ok (.iconst 1, 1) := by decide +kernel
theorem dX5_range_53 : decode cX5_range 53 = .ok (.istore 7, 2) := by decide +kernel
theorem dX5_range_55 : decode cX5_range 55 = .ok (.iload 7, 2) := by decide +kernel
theorem dX5_range_57 : decode cX5_range 57 = .ok (.iload_n 2, 1) := by decide +kernel
theorem dX5_range_58 : decode cX5_range 58 = .ok (.if_icmp .gt 43, 3) := by decide +kernel
theorem dX5_range_61 : decode cX5_range 61 = .ok (.aload 4, 2) := by decide +kernel
theorem dX5_range_63 : decode cX5_range 63 = .ok (.iconst 1, 1) := by decide +kernel
theorem dX5_range_64 : decode cX5_range 64 = .ok (.invokevirtual 156, 3) := by decide +kernel
theorem dX5_range_67 : decode cX5_range 67 = .ok (.iload 5, 2) := by decide +kernel
theorem dX5_range_69 : decode cX5_range 69 = .ok (.aload 4, 2) := by decide +kernel
theorem dX5_range_71 : decode cX5_range 71 = .ok (.getfield 63, 3) := by decide +kernel
theorem dX5_range_74 : decode cX5_range 74 = .ok (.iload_n 1, 1) := by decide +kernel
theorem dX5_range_75 : decode cX5_range 75 = .ok (.iaload, 1) := by decide +kernel
theorem dX5_range_76 : decode cX5_range 76 = .ok (.invokestatic 172, 3) := by decide +kernel
theorem dX5_range_79 : decode cX5_range 79 = .ok (.istore 5, 2) := by decide +kernel
theorem dX5_range_81 : decode cX5_range 81 = .ok (.iload 6, 2) := by decide +kernel
theorem dX5_range_83 : decode cX5_range 83 = .ok (.aload 4, 2) := by decide +kernel
theorem dX5_range_85 : decode cX5_range 85 = .ok (.getfield 63, 3) := by decide +kernel
theorem dX5_range_88 : decode cX5_range 88 = .ok (.iload_n 1, 1) := by decide +kernel
theorem dX5_range_89 : decode cX5_range 89 = .ok (.iaload, 1) := by decide +kernel
theorem dX5_range_90 : decode cX5_range 90 = .ok (.invokestatic 177, 3) := by decide +kernel
theorem dX5_range_93 : decode cX5_range 93 = .ok (.istore 6, 2) := by decide +kernel
theorem dX5_range_95 : decode cX5_range 95 = .ok (.iinc 7 1, 3) := by decide +kernel
theorem dX5_range_98 : decode cX5_range 98 = .ok (.goto (-43), 3) := by decide +kernel
theorem dX5_range_101 : decode cX5_range 101 = .ok (.iload_n 3, 1) := by decide +kernel
theorem dX5_range_102 : decode cX5_range 102 = .ok (.ifCond .ne 8, 3) := by decide +kernel
theorem dX5_range_105 : decode cX5_range 105 = .ok (.iload 5, 2) := by decide +kernel
theorem dX5_range_107 : decode cX5_range 107 = .ok (.goto 5, 3) := by decide +kernel
theorem dX5_range_110 : decode cX5_range 110 = .ok (.iload 6, 2) := by decide +kernel
theorem dX5_range_112 : decode cX5_range 112 = .ok (.ireturn, 1) := by decide +kernel
theorem dX5_enough_0 : decode cX5_enough 0 = .ok (.iload_n 1, 1) := by decide +kernel
theorem dX5_enough_1 : decode cX5_enough 1 = .ok (.bipush 80, 2) := by decide +kernel
theorem dX5_enough_3 : decode cX5_enough 3 = .ok (.invokestatic 50, 3) := by decide +kernel
theorem dX5_enough_6 : decode cX5_enough 6 = .ok (.ifCond .eq 10, 3) := by decide +kernel
theorem dX5_enough_9 : decode cX5_enough 9 = .ok (.aload_n 0, 1) := by decide +kernel
theorem dX5_enough_10 : decode cX5_enough 10 = .ok (.ldc 54, 2) := by decide +kernel
theorem dX5_enough_12 : decode cX5_enough 12 = .ok (.invokevirtual 55, 3) := by decide +kernel
theorem dX5_enough_15 : decode cX5_enough 15 = .ok (.ireturn, 1) := by decide +kernel
theorem dX5_enough_16 : decode cX5_enough 16 = .ok (.iconst 0, 1) := by decide +kernel
theorem dX5_enough_17 : decode cX5_enough 17 = .ok (.istore_n 2, 1) := by decide +kernel
theorem dX5_enough_18 : decode cX5_enough 18 = .ok (.bipush 64, 2) := by decide +kernel
theorem dX5_enough_20 : decode cX5_enough 20 = .ok (.istore_n 3, 1) := by decide +kernel
theorem dX5_enough_21 : decode cX5_enough 21 = .ok (.iload_n 3, 1) := by decide +kernel
theorem dX5_enough_22 : decode cX5_enough 22 = .ok (.ifCond .le 39, 3) := by decide +kernel
theorem dX5_enough_25 : decode cX5_enough 25 = .ok (.iload_n 2, 1) := by decide +kernel
theorem dX5_enough_26 : decode cX5_enough 26 = .ok (.iload_n 3, 1) := by decide +kernel
theorem dX5_enough_27 : decode cX5_enough 27 = .ok (.iadd, 1) := by decide +kernel
theorem dX5_enough_28 : decode cX5_enough 28 = .ok (.istore 4, 2) := by decide +kernel
theorem dX5_enough_30 : decode cX5_enough 30 = .ok (.iload 4, 2) := by decide +kernel
theorem dX5_enough_32 : decode cX5_enough 32 = .ok (.iconst 1, 1) := by decide +kernel
theorem dX5_enough_33 : decode cX5_enough 33 = .ok (.isub, 1) := by decide +kernel
theorem dX5_enough_34 : decode cX5_enough 34 = .ok (.bipush 99, 2) := by decide +kernel
theorem dX5_enough_36 : decode cX5_enough 36 = .ok (.if_icmp .gt 18, 3) := by decide +kernel
theorem dX5_enough_39 : decode cX5_enough 39 = .ok (.aload_n 0, 1) := by decide +kernel
theorem dX5_enough_40 : decode cX5_enough 40 = .ok (.iload 4, 2) := by decide +kernel
theorem dX5_enough_42 : decode cX5_enough 42 = .ok (.iconst 1, 1) := by decide +kernel
theorem dX5_enough_43 : decode cX5_enough 43 = .ok (.isub, 1) := by decide +kernel
theorem dX5_enough_44 : decode cX5_enough 44 = .ok (.iload_n 1, 1) := by decide +kernel
theorem dX5_enough_45 : decode cX5_enough 45 = .ok (.invokevirtual 180, 3) := by decide +kernel
theorem dX5_enough_48 : decode cX5_enough 48 = .ok (.ifCond .ne 6, 3) := by decide +kernel
theorem dX5_enough_51 : decode cX5_enough 51 = .ok (.iload 4, 2) := by decide +kernel
theorem dX5_enough_53 : decode cX5_enough 53 = .ok (.istore_n 2, 1) := by decide +kernel
theorem dX5_enough_54 : decode cX5_enough 54 = .ok (.iload_n 3, 1) := by decide +kernel
theorem dX5_enough_55 : decode cX5_enough 55 = .ok (.iconst 2, 1) := by decide +kernel
theorem dX5_enough_56 : decode cX5_enough 56 = .ok (.idiv, 1) := by decide +kernel
theorem dX5_enough_57 : decode cX5_enough 57 = .ok (.istore_n 3, 1) := by decide +kernel
theorem dX5_enough_58 : decode cX5_enough 58 = .ok (.goto (-37), 3) := by decide +kernel
theorem dX5_enough_61 : decode cX5_enough 61 = .ok (.iload_n 2, 1) := by decide +kernel
theorem dX5_enough_62 : decode cX5_enough 62 = .ok (.bipush 99, 2) := by decide +kernel
theorem dX5_enough_64 : decode cX5_enough 64 = .ok (.if_icmp .le 12, 3) := by decide +kernel
theorem dX5_enough_67 : decode cX5_enough 67 = .ok (.aload_n 0, 1) := by decide +kernel
theorem dX5_enough_68 : decode cX5_enough 68 = .ok (.ldc 166, 2) := by decide +kernel
theorem dX5_enough_70 : decode cX5_enough 70 = .ok (.invokevirtual 55, 3) := by decide +kernel
theorem dX5_enough_73 : decode cX5_enough 73 = .ok (.goto 4, 3) := by decide +kernel
theorem dX5_enough_76 : decode cX5_enough 76 = .ok (.iload_n 2, 1) := by decide +kernel
theorem dX5_enough_77 : decode cX5_enough 77 = .ok (.ireturn, 1) := by decide +kernel
theorem dX5_hide_0 : decode cX5_hide 0 = .ok (.iload_n 1, 1) := by decide +kernel
theorem dX5_hide_1 : decode cX5_hide 1 = .ok (.bipush 99, 2) := by decide +kernel
theorem dX5_hide_3 : decode cX5_hide 3 = .ok (.invokestatic 50, 3) := by decide +kernel
theorem dX5_hide_6 : decode cX5_hide 6 = .ok (.ifCond .ne 12, 3) := by decide +kernel
theorem dX5_hide_9 : decode cX5_hide 9 = .ok (.iload_n 2, 1) := by decide +kernel
theorem dX5_hide_10 : decode cX5_hide 10 = .ok (.bipush 60, 2) := by decide +kernel
theorem dX5_hide_12 : decode cX5_hide 12 = .ok (.invokestatic 50, 3) := by decide +kernel
theorem dX5_hide_15 : decode cX5_hide 15 = .ok (.ifCond .eq 10, 3) := by decide +kernel
theorem dX5_hide_18 : decode cX5_hide 18 = .ok (.aload_n 0, 1) := by decide +kernel
theorem dX5_hide_19 : decode cX5_hide 19 = .ok (.ldc 54, 2) := by decide +kernel
theorem dX5_hide_21 : decode cX5_hide 21 = .ok (.invokevirtual 55, 3) := by decide +kernel
theorem dX5_hide_24 : decode cX5_hide 24 = .ok (.ireturn, 1) := by decide +kernel
theorem dX5_hide_25 : decode cX5_hide 25 = .ok (.iconst 0, 1) := by decide +kernel
theorem dX5_hide_26 : decode cX5_hide 26 = .ok (.istore_n 3, 1) := by decide +kernel
theorem dX5_hide_27 : decode cX5_hide 27 = .ok (.bipush 9, 2) := by decide +kernel
theorem dX5_hide_29 : decode cX5_hide 29 = .ok (.istore 4, 2) := by decide +kernel
theorem dX5_hide_31 : decode cX5_hide 31 = .ok (.iconst 0, 1) := by decide +kernel
theorem dX5_hide_32 : decode cX5_hide 32 = .ok (.istore 5, 2) := by decide +kernel
theorem dX5_hide_34 : decode cX5_hide 34 = .ok (.iload 5, 2) := by decide +kernel
theorem dX5_hide_36 : decode cX5_hide 36 = .ok (.bipush 8, 2) := by decide +kernel
theorem dX5_hide_38 : decode cX5_hide 38 = .ok (.if_icmp .ge 68, 3) := by decide +kernel
theorem dX5_hide_41 : decode cX5_hide 41 = .ok (.aload_n 0, 1) := by decide +kernel
theorem dX5_hide_42 : decode cX5_hide 42 = .ok (.getfield 19, 3) := by decide +kernel
theorem dX5_hide_45 : decode cX5_hide 45 = .ok (.aload_n 0, 1) := by decide +kernel
theorem dX5_hide_46 : decode cX5_hide 46 = .ok (.getfield 12, 3) := by decide +kernel
theorem dX5_hide_49 : decode cX5_hide 49 = .ok (.invokevirtual 159, 3) := by decide +kernel
theorem dX5_hide_52 : decode cX5_hide 52 = .ok (.aload_n 0, 1) := by decide +kernel
theorem dX5_hide_53 : decode cX5_hide 53 = .ok (.getfield 19, 3) := by decide +kernel
theorem dX5_hide_56 : decode cX5_hide 56 = .ok (.getfield 59, 3) := by decide +kernel
theorem dX5_hide_59 : decode cX5_hide 59 = .ok (.getfield 68, 3) := by decide +kernel
theorem dX5_hide_62 : decode cX5_hide 62 = .ok (.iload 5, 2) := by decide +kernel
theorem dX5_hide_64 : decode cX5_hide 64 = .ok (.iload_n 1, 1) := by decide +kernel
theorem dX5_hide_65 : decode cX5_hide 65 = .ok (.iastore, 1) := by decide +kernel
theorem dX5_hide_66 : decode cX5_hide 66 = .ok (.aload_n 0, 1) := by decide +kernel
theorem dX5_hide_67 : decode cX5_hide 67 = .ok (.getfield 19, 3) := by decide +kernel
theorem dX5_hide_70 : decode cX5_hide 70 = .ok (.iload_n 2, 1) := by decide +kernel
theorem dX5_hide_71 : decode cX5_hide 71 = .ok (.invokevirtual 134, 3) := by decide +kernel
theorem dX5_hide_74 : decode cX5_hide 74 = .ok (.aload_n 0, 1) := by decide +kernel
theorem dX5_hide_75 : decode cX5_hide 75 = .ok (.getfield 19, 3) := by decide +kernel
theorem dX5_hide_78 : decode cX5_hide 78 = .ok (.invokevirtual 137, 3) := by decide +kernel
theorem dX5_hide_81 : decode cX5_hide 81 = .ok (.invokestatic 183, 3) := by decide +kernel
theorem dX5_hide_84 : decode cX5_hide 84 = .ok (.istore 6, 2) := by decide +kernel
theorem dX5_hide_86 : decode cX5_hide 86 = .ok (.iload 6, 2) := by decide +kernel
theorem dX5_hide_88 : decode cX5_hide 88 = .ok (.iload 4, 2) := by decide +kernel
theorem dX5_hide_90 : decode cX5_hide 90 = .ok (.if_icmp .ge 10, 3) := by decide +kernel
theorem dX5_hide_93 : decode cX5_hide 93 = .ok (.iload 6, 2) := by decide +kernel
theorem dX5_hide_95 : decode cX5_hide 95 = .ok (.istore 4, 2) := by decide +kernel
theorem dX5_hide_97 : decode cX5_hide 97 = .ok (.iload 5, 2) := by decide +kernel
theorem dX5_hide_99 : decode cX5_hide 99 = .ok (.istore_n 3, 1) := by decide +kernel
theorem dX5_hide_100 : decode cX5_hide 100 = .ok (.iinc 5 1, 3) := by decide +kernel
theorem dX5_hide_103 : decode cX5_hide 103 = .ok (.goto (-69), 3) := by decide +kernel
theorem dX5_hide_106 : decode cX5_hide 106 = .ok (.iload_n 3, 1) := by decide +kernel
theorem dX5_hide_107 : decode cX5_hide 107 = .ok (.ireturn, 1) := by decide +kernel
theorem dX5_safe_0 : decode cX5_safe 0 = .ok (.iload_n 1, 1) := by decide +kernel
theorem dX5_safe_1 : decode cX5_safe 1 = .ok (.bipush 7, 2) := by decide +kernel
theorem dX5_safe_3 : decode cX5_safe 3 = .ok (.invokestatic 50, 3) := by decide +kernel
theorem dX5_safe_6 : decode cX5_safe 6 = .ok (.ifCond .ne 12, 3) := by decide +kernel
theorem dX5_safe_9 : decode cX5_safe 9 = .ok (.iload_n 2, 1) := by decide +kernel
theorem dX5_safe_10 : decode cX5_safe 10 = .ok (.bipush 60, 2) := by decide +kernel
theorem dX5_safe_12 : decode cX5_safe 12 = .ok (.invokestatic 50, 3) := by decide +kernel
theorem dX5_safe_15 : decode cX5_safe 15 = .ok (.ifCond .eq 10, 3) := by decide +kernel
theorem dX5_safe_18 : decode cX5_safe 18 = .ok (.aload_n 0, 1) := by decide +kernel
theorem dX5_safe_19 : decode cX5_safe 19 = .ok (.ldc 54, 2) := by decide +kernel
theorem dX5_safe_21 : decode cX5_safe 21 = .ok (.invokevirtual 55, 3) := by decide +kernel
theorem dX5_safe_24 : decode cX5_safe 24 = .ok (.ireturn, 1) := by decide +kernel
theorem dX5_safe_25 : decode cX5_safe 25 = .ok (.aload_n 0, 1) := by decide +kernel
theorem dX5_safe_26 : decode cX5_safe 26 = .ok (.getfield 12, 3) := by decide +kernel
theorem dX5_safe_29 : decode cX5_safe 29 = .ok (.invokevirtual 137, 3) := by decide +kernel
theorem dX5_safe_32 : decode cX5_safe 32 = .ok (.istore_n 3, 1) := by decide +kernel
theorem dX5_safe_33 : decode cX5_safe 33 = .ok (.iconst 0, 1) := by decide +kernel
theorem dX5_safe_34 : decode cX5_safe 34 = .ok (.istore 4, 2) := by decide +kernel
theorem dX5_safe_36 : decode cX5_safe 36 = .ok (.iload 4, 2) := by decide +kernel
theorem dX5_safe_38 : decode cX5_safe 38 = .ok (.bipush 99, 2) := by decide +kernel
theorem dX5_safe_40 : decode cX5_safe 40 = .ok (.if_icmp .gt 49, 3) := by decide +kernel
theorem dX5_safe_43 : decode cX5_safe 43 = .ok (.aload_n 0, 1) := by decide +kernel
theorem dX5_safe_44 : decode cX5_safe 44 = .ok (.getfield 19, 3) := by decide +kernel
theorem dX5_safe_47 : decode cX5_safe 47 = .ok (.aload_n 0, 1) := by decide +kernel
theorem dX5_safe_48 : decode cX5_safe 48 = .ok (.getfield 12, 3) := by decide +kernel
theorem dX5_safe_51 : decode cX5_safe 51 = .ok (.invokevirtual 159, 3) := by decide +kernel
theorem dX5_safe_54 : decode cX5_safe 54 = .ok (.aload_n 0, 1) := by decide +kernel
theorem dX5_safe_55 : decode cX5_safe 55 = .ok (.getfield 19, 3) := by decide +kernel
theorem dX5_safe_58 : decode cX5_safe 58 = .ok (.getfield 59, 3) := by decide +kernel
theorem dX5_safe_61 : decode cX5_safe 61 = .ok (.getfield 68, 3) := by decide +kernel
theorem dX5_safe_64 : decode cX5_safe 64 = .ok (.iload_n 1, 1) := by decide +kernel
theorem dX5_safe_65 : decode cX5_safe 65 = .ok (.iload 4, 2) := by decide +kernel
theorem dX5_safe_67 : decode cX5_safe 67 = .ok (.iastore, 1) := by decide +kernel
theorem dX5_safe_68 : decode cX5_safe 68 = .ok (.aload_n 0, 1) := by decide +kernel
theorem dX5_safe_69 : decode cX5_safe 69 = .ok (.getfield 19, 3) := by decide +kernel
theorem dX5_safe_72 : decode cX5_safe 72 = .ok (.iload_n 2, 1) := by decide +kernel
theorem dX5_safe_73 : decode cX5_safe 73 = .ok (.iload_n 3, 1) := by decide +kernel
theorem dX5_safe_74 : decode cX5_safe 74 = .ok (.invokevirtual 186, 3) := by decide +kernel
theorem dX5_safe_77 : decode cX5_safe 77 = .ok (.ifCond .eq 6, 3) := by decide +kernel
theorem dX5_safe_80 : decode cX5_safe 80 = .ok (.iload 4, 2) := by decide +kernel
theorem dX5_safe_82 : decode cX5_safe 82 = .ok (.ireturn, 1) := by decide +kernel
theorem dX5_safe_83 : decode cX5_safe 83 = .ok (.iinc 4 1, 3) := by decide +kernel
theorem dX5_safe_86 : decode cX5_safe 86 = .ok (.goto (-50), 3) := by decide +kernel
theorem dX5_safe_89 : decode cX5_safe 89 = .ok (.aload_n 0, 1) := by decide +kernel
theorem dX5_safe_90 : decode cX5_safe 90 = .ok (.ldc 166, 2) := by decide +kernel
theorem dX5_safe_92 : decode cX5_safe 92 = .ok (.invokevirtual 55, 3) := by decide +kernel
theorem dX5_safe_95 : decode cX5_safe 95 = .ok (.ireturn, 1) := by decide +kernel
theorem dX5_sleep_0 : decode cX5_sleep 0 = .ok (.iload_n 1, 1) := by decide +kernel
theorem dX5_sleep_1 : decode cX5_sleep 1 = .ok (.bipush 20, 2) := by decide +kernel
theorem dX5_sleep_3 : decode cX5_sleep 3 = .ok (.invokestatic 50, 3) := by decide +kernel
theorem dX5_sleep_6 : decode cX5_sleep 6 = .ok (.ifCond .eq 10, 3) := by decide +kernel
theorem dX5_sleep_9 : decode cX5_sleep 9 = .ok (.aload_n 0, 1) := by decide +kernel
theorem dX5_sleep_10 : decode cX5_sleep 10 = .ok (.ldc 54, 2) := by decide +kernel
theorem dX5_sleep_12 : decode cX5_sleep 12 = .ok (.invokevirtual 55, 3) := by decide +kernel
theorem dX5_sleep_15 : decode cX5_sleep 15 = .ok (.ireturn, 1) := by decide +kernel
theorem dX5_sleep_16 : decode cX5_sleep 16 = .ok (.aload_n 0, 1) := by decide +kernel
theorem dX5_sleep_17 : decode cX5_sleep 17 = .ok (.getfield 12, 3) := by decide +kernel
theorem dX5_sleep_20 : decode cX5_sleep 20 = .ok (.invokevirtual 137, 3) := by decide +kernel
theorem dX5_sleep_23 : decode cX5_sleep 23 = .ok (.istore_n 2, 1) := by decide +kernel
theorem dX5_sleep_24 : decode cX5_sleep 24 = .ok (.iconst (-1), 1) := by decide +kernel
theorem dX5_sleep_25 : decode cX5_sleep 25 = .ok (.istore_n 3, 1) := by decide +kernel
theorem dX5_sleep_26 : decode cX5_sleep 26 = .ok (.aload_n 0, 1) := by decide +kernel
theorem dX5_sleep_27 : decode cX5_sleep 27 = .ok (.getfield 22, 3) := by decide +kernel
theorem dX5_sleep_30 : decode cX5_sleep 30 = .ok (.aload_n 0, 1) := by decide +kernel
theorem dX5_sleep_31 : decode cX5_sleep 31 = .ok (.getfield 12, 3) := by decide +kernel
theorem dX5_sleep_34 : decode cX5_sleep 34 = .ok (.invokevirtual 159, 3) := by decide +kernel
theorem dX5_sleep_37 : decode cX5_sleep 37 = .ok (.iconst 0, 1) := by decide +kernel
theorem dX5_sleep_38 : decode cX5_sleep 38 = .ok (.istore 4, 2) := by decide +kernel
theorem dX5_sleep_40 : decode cX5_sleep 40 = .ok (.iload 4, 2) := by decide +kernel
theorem dX5_sleep_42 : decode cX5_sleep 42 = .ok (.bipush 60, 2) := by decide +kernel
theorem dX5_sleep_44 : decode cX5_sleep 44 = .ok (.if_icmp .gt 53, 3) := by decide +kernel
theorem dX5_sleep_47 : decode cX5_sleep 47 = .ok (.aload_n 0, 1) := by decide +kernel
theorem dX5_sleep_48 : decode cX5_sleep 48 = .ok (.getfield 22, 3) := by decide +kernel
theorem dX5_sleep_51 : decode cX5_sleep 51 = .ok (.invokevirtual 137, 3) := by decide +kernel
theorem dX5_sleep_54 : decode cX5_sleep 54 = .ok (.iload_n 2, 1) := by decide +kernel
theorem dX5_sleep_55 : decode cX5_sleep 55 = .ok (.if_icmp .ne 42, 3) := by decide +kernel
theorem dX5_sleep_58 : decode cX5_sleep 58 = .ok (.aload_n 0, 1) := by decide +kernel
theorem dX5_sleep_59 : decode cX5_sleep 59 = .ok (.getfield 19, 3) := by decide +kernel
theorem dX5_sleep_62 : decode cX5_sleep 62 = .ok (.aload_n 0, 1) := by decide +kernel
theorem dX5_sleep_63 : decode cX5_sleep 63 = .ok (.getfield 22, 3) := by decide +kernel
theorem dX5_sleep_66 : decode cX5_sleep 66 = .ok (.invokevirtual 159, 3) := by decide +kernel
theorem dX5_sleep_69 : decode cX5_sleep 69 = .ok (.aload_n 0, 1) := by decide +kernel
theorem dX5_sleep_70 : decode cX5_sleep 70 = .ok (.getfield 19, 3) := by decide +kernel
theorem dX5_sleep_73 : decode cX5_sleep 73 = .ok (.iload_n 1, 1) := by decide +kernel
theorem dX5_sleep_74 : decode cX5_sleep 74 = .ok (.iload_n 2, 1) := by decide +kernel
theorem dX5_sleep_75 : decode cX5_sleep 75 = .ok (.invokevirtual 186, 3) := by decide +kernel
theorem dX5_sleep_78 : decode cX5_sleep 78 = .ok (.ifCond .eq 6, 3) := by decide +kernel
theorem dX5_sleep_81 : decode cX5_sleep 81 = .ok (.iload 4, 2) := by decide +kernel
theorem dX5_sleep_83 : decode cX5_sleep 83 = .ok (.istore_n 3, 1) := by decide +kernel
theorem dX5_sleep_84 : decode cX5_sleep 84 = .ok (.aload_n 0, 1) := by decide +kernel
theorem dX5_sleep_85 : decode cX5_sleep 85 = .ok (.getfield 22, 3) := by decide +kernel
theorem dX5_sleep_88 : decode cX5_sleep 88 = .ok (.invokevirtual 189, 3) := by decide +kernel
theorem dX5_sleep_91 : decode cX5_sleep 91 = .ok (.iinc 4 1, 3) := by decide +kernel
theorem dX5_sleep_94 : decode cX5_sleep 94 = .ok (.goto (-54), 3) := by decide +kernel
theorem dX5_sleep_97 : decode cX5_sleep 97 = .ok (.iload_n 3, 1) := by decide +kernel
theorem dX5_sleep_98 : decode cX5_sleep 98 = .ok (.ifCond .ge 12, 3) := by decide +kernel
theorem dX5_sleep_101 : decode cX5_sleep 101 = .ok (.aload_n 0, 1) := by decide +kernel
theorem dX5_sleep_102 : decode cX5_sleep 102 = .ok (.ldc 166, 2) := by decide +kernel
theorem dX5_sleep_104 : decode cX5_sleep 104 = .ok (.invokevirtual 55, 3) := by decide +kernel
theorem dX5_sleep_107 : decode cX5_sleep 107 = .ok (.goto 4, 3) := by decide +kernel
theorem dX5_sleep_110 : decode cX5_sleep 110 = .ok (.iload_n 3, 1) := by decide +kernel
theorem dX5_sleep_111 : decode cX5_sleep 111 = .ok (.ireturn, 1) := by decide +kernel
theorem dX5_turns_0 : decode cX5_turns 0 = .ok (.aload_n 0, 1) := by decide +kernel
theorem dX5_turns_1 : decode cX5_turns 1 = .ok (.getfield 12, 3) := by decide +kernel
theorem dX5_turns_4 : decode cX5_turns 4 = .ok (.getfield 59, 3) := by decide +kernel
theorem dX5_turns_7 : decode cX5_turns 7 = .ok (.getfield 68, 3) := by decide +kernel
theorem dX5_turns_10 : decode cX5_turns 10 = .ok (.astore_n 1, 1) := by decide +kernel
theorem dX5_turns_11 : decode cX5_turns 11 = .ok (.iconst 0, 1) := by decide +kernel
theorem dX5_turns_12 : decode cX5_turns 12 = .ok (.istore_n 2, 1) := by decide +kernel
theorem dX5_turns_13 : decode cX5_turns 13 = .ok (.iconst 0, 1) := by decide +kernel
theorem dX5_turns_14 : decode cX5_turns 14 = .ok (.istore_n 3, 1) := by decide +kernel
theorem dX5_turns_15 : decode cX5_turns 15 = .ok (.iload_n 3, 1) := by decide +kernel
theorem dX5_turns_16 : decode cX5_turns 16 = .ok (.bipush 8, 2) := by decide +kernel
theorem dX5_turns_18 : decode cX5_turns 18 = .ok (.if_icmp .ge 29, 3) := by decide +kernel
theorem dX5_turns_21 : decode cX5_turns 21 = .ok (.aload_n 1, 1) := by decide +kernel
theorem dX5_turns_22 : decode cX5_turns 22 = .ok (.iload_n 3, 1) := by decide +kernel
theorem dX5_turns_23 : decode cX5_turns 23 = .ok (.iaload, 1) := by decide +kernel
theorem dX5_turns_24 : decode cX5_turns 24 = .ok (.aload_n 1, 1) := by decide +kernel
theorem dX5_turns_25 : decode cX5_turns 25 = .ok (.iload_n 3, 1) := by decide +kernel
theorem dX5_turns_26 : decode cX5_turns 26 = .ok (.bipush 8, 2) := by decide +kernel
theorem dX5_turns_28 : decode cX5_turns 28 = .ok (.iadd, 1) := by decide +kernel
theorem dX5_turns_29 : decode cX5_turns 29 = .ok (.iconst 1, 1) := by decide +kernel
theorem dX5_turns_30 : decode cX5_turns 30 = .ok (.isub, 1) := by decide +kernel
theorem dX5_turns_31 : decode cX5_turns 31 = .ok (.bipush 8, 2) := by decide +kernel
theorem dX5_turns_33 : decode cX5_turns 33 = .ok (.irem, 1) := by decide +kernel
theorem dX5_turns_34 : decode cX5_turns 34 = .ok (.iaload, 1) := by decide +kernel
theorem dX5_turns_35 : decode cX5_turns 35 = .ok (.if_icmp .eq 6, 3) := by decide +kernel
theorem dX5_turns_38 : decode cX5_turns 38 = .ok (.iinc 2 1, 3) := by decide +kernel
theorem dX5_turns_41 : decode cX5_turns 41 = .ok (.iinc 3 1, 3) := by decide +kernel
theorem dX5_turns_44 : decode cX5_turns 44 = .ok (.goto (-29), 3) := by decide +kernel
theorem dX5_turns_47 : decode cX5_turns 47 = .ok (.iload_n 2, 1) := by decide +kernel
theorem dX5_turns_48 : decode cX5_turns 48 = .ok (.ireturn, 1) := by decide +kernel
theorem dX5_seat_0 : decode cX5_seat 0 = .ok (.aload_n 0, 1) := by decide +kernel
theorem dX5_seat_1 : decode cX5_seat 1 = .ok (.iload_n 1, 1) := by decide +kernel
theorem dX5_seat_2 : decode cX5_seat 2 = .ok (.iload_n 2, 1) := by decide +kernel
theorem dX5_seat_3 : decode cX5_seat 3 = .ok (.invokevirtual 192, 3) := by decide +kernel
theorem dX5_seat_6 : decode cX5_seat 6 = .ok (.ifCond .eq 12, 3) := by decide +kernel
theorem dX5_seat_9 : decode cX5_seat 9 = .ok (.aload_n 0, 1) := by decide +kernel
theorem dX5_seat_10 : decode cX5_seat 10 = .ok (.ldc 54, 2) := by decide +kernel
theorem dX5_seat_12 : decode cX5_seat 12 = .ok (.invokevirtual 55, 3) := by decide +kernel
theorem dX5_seat_15 : decode cX5_seat 15 = .ok (.goto 10, 3) := by decide +kernel
theorem dX5_seat_18 : decode cX5_seat 18 = .ok (.aload_n 0, 1) := by decide +kernel
theorem dX5_seat_19 : decode cX5_seat 19 = .ok (.iload_n 1, 1) := by decide +kernel
theorem dX5_seat_20 : decode cX5_seat 20 = .ok (.iconst 1, 1) := by decide +kernel
theorem dX5_seat_21 : decode cX5_seat 21 = .ok (.iload_n 2, 1) := by decide +kernel
theorem dX5_seat_22 : decode cX5_seat 22 = .ok (.invokevirtual 195, 3) := by decide +kernel
theorem dX5_seat_25 : decode cX5_seat 25 = .ok (.ireturn, 1) := by decide +kernel
theorem dX5_kindFor_0 : decode cX5_kindFor 0 = .ok (.aload_n 0, 1) := by decide +kernel
theorem dX5_kindFor_1 : decode cX5_kindFor 1 = .ok (.iload_n 1, 1) := by decide +kernel
theorem dX5_kindFor_2 : decode cX5_kindFor 2 = .ok (.iload_n 2, 1) := by decide +kernel
theorem dX5_kindFor_3 : decode cX5_kindFor 3 = .ok (.invokevirtual 192, 3) := by decide +kernel
theorem dX5_kindFor_6 : decode cX5_kindFor 6 = .ok (.ifCond .eq 12, 3) := by decide +kernel
theorem dX5_kindFor_9 : decode cX5_kindFor 9 = .ok (.aload_n 0, 1) := by decide +kernel
theorem dX5_kindFor_10 : decode cX5_kindFor 10 = .ok (.ldc 54, 2) := by decide +kernel
theorem dX5_kindFor_12 : decode cX5_kindFor 12 = .ok (.invokevirtual 55, 3) := by decide +kernel
theorem dX5_kindFor_15 : decode cX5_kindFor 15 = .ok (.goto 10, 3) := by decide +kernel
theorem dX5_kindFor_18 : decode cX5_kindFor 18 = .ok (.aload_n 0, 1) := by decide +kernel
theorem dX5_kindFor_19 : decode cX5_kindFor 19 = .ok (.iload_n 1, 1) := by decide +kernel
theorem dX5_kindFor_20 : decode cX5_kindFor 20 = .ok (.iconst 0, 1) := by decide +kernel
theorem dX5_kindFor_21 : decode cX5_kindFor 21 = .ok (.iload_n 2, 1) := by decide +kernel
theorem dX5_kindFor_22 : decode cX5_kindFor 22 = .ok (.invokevirtual 195, 3) := by decide +kernel
theorem dX5_kindFor_25 : decode cX5_kindFor 25 = .ok (.ireturn, 1) := by decide +kernel
theorem dX5_wantFor_0 : decode cX5_wantFor 0 = .ok (.aload_n 0, 1) := by decide +kernel
theorem dX5_wantFor_1 : decode cX5_wantFor 1 = .ok (.iload_n 1, 1) := by decide +kernel
theorem dX5_wantFor_2 : decode cX5_wantFor 2 = .ok (.iload_n 2, 1) := by decide +kernel
theorem dX5_wantFor_3 : decode cX5_wantFor 3 = .ok (.invokevirtual 192, 3) := by decide +kernel
theorem dX5_wantFor_6 : decode cX5_wantFor 6 = .ok (.ifCond .eq 10, 3) := by decide +kernel
theorem dX5_wantFor_9 : decode cX5_wantFor 9 = .ok (.aload_n 0, 1) := by decide +kernel
theorem dX5_wantFor_10 : decode cX5_wantFor 10 = .ok (.ldc 54, 2) := by decide +kernel
theorem dX5_wantFor_12 : decode cX5_wantFor 12 = .ok (.invokevirtual 55, 3) := by decide +kernel
theorem dX5_wantFor_15 : decode cX5_wantFor 15 = .ok (.ireturn, 1) := by decide +kernel
theorem dX5_wantFor_16 : decode cX5_wantFor 16 = .ok (.aload_n 0, 1) := by decide +kernel
theorem dX5_wantFor_17 : decode cX5_wantFor 17 = .ok (.getfield 12, 3) := by decide +kernel
theorem dX5_wantFor_20 : decode cX5_wantFor 20 = .ok (.getfield 92, 3) := by decide +kernel
theorem dX5_wantFor_23 : decode cX5_wantFor 23 = .ok (.iload_n 1, 1) := by decide +kernel
theorem dX5_wantFor_24 : decode cX5_wantFor 24 = .ok (.aaload, 1) := by decide +kernel
theorem dX5_wantFor_25 : decode cX5_wantFor 25 = .ok (.astore_n 3, 1) := by decide +kernel
theorem dX5_wantFor_26 : decode cX5_wantFor 26 = .ok (.aload_n 3, 1) := by decide +kernel
theorem dX5_wantFor_27 : decode cX5_wantFor 27 = .ok (.getfield 111, 3) := by decide +kernel
theorem dX5_wantFor_30 : decode cX5_wantFor 30 = .ok (.sipush 9999, 3) := by decide +kernel
theorem dX5_wantFor_33 : decode cX5_wantFor 33 = .ok (.if_icmp .ne 7, 3) := by decide +kernel
theorem dX5_wantFor_36 : decode cX5_wantFor 36 = .ok (.sipush 999, 3) := by decide +kernel
theorem dX5_wantFor_39 : decode cX5_wantFor 39 = .ok (.ireturn, 1) := by decide +kernel
theorem dX5_wantFor_40 : decode cX5_wantFor 40 = .ok (.aload_n 0, 1) := by decide +kernel
theorem dX5_wantFor_41 : decode cX5_wantFor 41 = .ok (.invokevirtual 152, 3) := by decide +kernel
theorem dX5_wantFor_44 : decode cX5_wantFor 44 = .ok (.astore 4, 2) := by decide +kernel
theorem dX5_wantFor_46 : decode cX5_wantFor 46 = .ok (.sipush 999, 3) := by decide +kernel
theorem dX5_wantFor_49 : decode cX5_wantFor 49 = .ok (.istore 5, 2) := by decide +kernel
theorem dX5_wantFor_51 : decode cX5_wantFor 51 = .ok (.iconst 1, 1) := by decide +kernel
theorem dX5_wantFor_52 : decode cX5_wantFor 52 = .ok (.istore 6, 2) := by decide +kernel
theorem dX5_wantFor_54 : decode cX5_wantFor 54 = .ok (.iload 6, 2) := by decide +kernel
theorem dX5_wantFor_56 : decode cX5_wantFor 56 = .ok (.iload_n 2, 1) := by decide +kernel
theorem dX5_wantFor_57 : decode cX5_wantFor 57 = .ok (.if_icmp .gt 32, 3) := by decide +kernel
theorem dX5_wantFor_60 : decode cX5_wantFor 60 = .ok (.aload 4, 2) := by decide +kernel
theorem dX5_wantFor_62 : decode cX5_wantFor 62 = .ok (.iconst 1, 1) := by decide +kernel
theorem dX5_wantFor_63 : decode cX5_wantFor 63 = .ok (.invokevirtual 156, 3) := by decide +kernel
theorem dX5_wantFor_66 : decode cX5_wantFor 66 = .ok (.iload 5, 2) := by decide +kernel
theorem dX5_wantFor_68 : decode cX5_wantFor 68 = .ok (.aload 4, 2) := by decide +kernel
theorem dX5_wantFor_70 : decode cX5_wantFor 70 = .ok (.getfield 63, 3) := by decide +kernel
theorem dX5_wantFor_73 : decode cX5_wantFor 73 = .ok (.aload_n 3, 1) := by decide +kernel
theorem dX5_wantFor_74 : decode cX5_wantFor 74 = .ok (.getfield 102, 3) := by decide +kernel
theorem dX5_wantFor_77 : decode cX5_wantFor 77 = .ok (.iaload, 1) := by decide +kernel
theorem dX5_wantFor_78 : decode cX5_wantFor 78 = .ok (.invokestatic 172, 3) := by decide +kernel
theorem dX5_wantFor_81 : decode cX5_wantFor 81 = .ok (.istore 5, 2) := by decide +kernel
theorem dX5_wantFor_83 : decode cX5_wantFor 83 = .ok (.iinc 6 1, 3) := by decide +kernel
theorem dX5_wantFor_86 : decode cX5_wantFor 86 = .ok (.goto (-32), 3) := by decide +kernel
theorem dX5_wantFor_89 : decode cX5_wantFor 89 = .ok (.iload 5, 2) := by decide +kernel
theorem dX5_wantFor_91 : decode cX5_wantFor 91 = .ok (.ireturn, 1) := by decide +kernel
theorem dX5_watch_0 : decode cX5_watch 0 = .ok (.iload_n 1, 1) := by decide +kernel
theorem dX5_watch_1 : decode cX5_watch 1 = .ok (.iconst 1, 1) := by decide +kernel
theorem dX5_watch_2 : decode cX5_watch 2 = .ok (.if_icmp .lt 9, 3) := by decide +kernel
theorem dX5_watch_5 : decode cX5_watch 5 = .ok (.iload_n 1, 1) := by decide +kernel
theorem dX5_watch_6 : decode cX5_watch 6 = .ok (.bipush 60, 2) := by decide +kernel
theorem dX5_watch_8 : decode cX5_watch 8 = .ok (.if_icmp .le 10, 3) := by decide +kernel
theorem dX5_watch_11 : decode cX5_watch 11 = .ok (.aload_n 0, 1) := by decide +kernel
theorem dX5_watch_12 : decode cX5_watch 12 = .ok (.ldc 54, 2) := by decide +kernel
theorem dX5_watch_14 : decode cX5_watch 14 = .ok (.invokevirtual 55, 3) := by decide +kernel
theorem dX5_watch_17 : decode cX5_watch 17 = .ok (.ireturn, 1) := by decide +kernel
theorem dX5_watch_18 : decode cX5_watch 18 = .ok (.aload_n 0, 1) := by decide +kernel
theorem dX5_watch_19 : decode cX5_watch 19 = .ok (.iload_n 1, 1) := by decide +kernel
theorem dX5_watch_20 : decode cX5_watch 20 = .ok (.invokevirtual 199, 3) := by decide +kernel
theorem dX5_watch_23 : decode cX5_watch 23 = .ok (.iconst 0, 1) := by decide +kernel
theorem dX5_watch_24 : decode cX5_watch 24 = .ok (.istore_n 2, 1) := by decide +kernel
theorem dX5_watch_25 : decode cX5_watch 25 = .ok (.iconst 1, 1) := by decide +kernel
theorem dX5_watch_26 : decode cX5_watch 26 = .ok (.istore_n 3, 1) := by decide +kernel
theorem dX5_watch_27 : decode cX5_watch 27 = .ok (.iload_n 3, 1) := by decide +kernel
theorem dX5_watch_28 : decode cX5_watch 28 = .ok (.bipush 12, 2) := by decide +kernel
theorem dX5_watch_30 : decode cX5_watch 30 = .ok (.if_icmp .ge 26, 3) := by decide +kernel
theorem dX5_watch_33 : decode cX5_watch 33 = .ok (.aload_n 0, 1) := by decide +kernel
theorem dX5_watch_34 : decode cX5_watch 34 = .ok (.getfield 25, 3) := by decide +kernel
theorem dX5_watch_37 : decode cX5_watch 37 = .ok (.iload_n 3, 1) := by decide +kernel
theorem dX5_watch_38 : decode cX5_watch 38 = .ok (.iaload, 1) := by decide +kernel
theorem dX5_watch_39 : decode cX5_watch 39 = .ok (.aload_n 0, 1) := by decide +kernel
theorem dX5_watch_40 : decode cX5_watch 40 = .ok (.getfield 25, 3) := by decide +kernel
theorem dX5_watch_43 : decode cX5_watch 43 = .ok (.iload_n 2, 1) := by decide +kernel
theorem dX5_watch_44 : decode cX5_watch 44 = .ok (.iaload, 1) := by decide +kernel
theorem dX5_watch_45 : decode cX5_watch 45 = .ok (.if_icmp .le 5, 3) := by decide +kernel
theorem dX5_watch_48 : decode cX5_watch 48 = .ok (.iload_n 3, 1) := by decide +kernel
theorem dX5_watch_49 : decode cX5_watch 49 = .ok (.istore_n 2, 1) := by decide +kernel
theorem dX5_watch_50 : decode cX5_watch 50 = .ok (.iinc 3 1, 3) := by decide +kernel
theorem dX5_watch_53 : decode cX5_watch 53 = .ok (.goto (-26), 3) := by decide +kernel
theorem dX5_watch_56 : decode cX5_watch 56 = .ok (.iload_n 2, 1) := by decide +kernel
theorem dX5_watch_57 : decode cX5_watch 57 = .ok (.ireturn, 1) := by decide +kernel
theorem dX5_fits_0 : decode cX5_fits 0 = .ok (.aload_n 0, 1) := by decide +kernel
theorem dX5_fits_1 : decode cX5_fits 1 = .ok (.iload_n 1, 1) := by decide +kernel
theorem dX5_fits_2 : decode cX5_fits 2 = .ok (.iload_n 2, 1) := by decide +kernel
theorem dX5_fits_3 : decode cX5_fits 3 = .ok (.iload_n 3, 1) := by decide +kernel
theorem dX5_fits_4 : decode cX5_fits 4 = .ok (.invokevirtual 202, 3) := by decide +kernel
theorem dX5_fits_7 : decode cX5_fits 7 = .ok (.istore 4, 2) := by decide +kernel
theorem dX5_fits_9 : decode cX5_fits 9 = .ok (.iload 4, 2) := by decide +kernel
theorem dX5_fits_11 : decode cX5_fits 11 = .ok (.ifCond .eq 10, 3) := by decide +kernel
theorem dX5_fits_14 : decode cX5_fits 14 = .ok (.aload_n 0, 1) := by decide +kernel
theorem dX5_fits_15 : decode cX5_fits 15 = .ok (.iload 4, 2) := by decide +kernel
theorem dX5_fits_17 : decode cX5_fits 17 = .ok (.invokevirtual 55, 3) := by decide +kernel
theorem dX5_fits_20 : decode cX5_fits 20 = .ok (.ireturn, 1) := by decide +kernel
theorem dX5_fits_21 : decode cX5_fits 21 = .ok (.iconst 0, 1) := by decide +kernel
theorem dX5_fits_22 : decode cX5_fits 22 = .ok (.istore 5, 2) := by decide +kernel
theorem dX5_fits_24 : decode cX5_fits 24 = .ok (.iconst 0, 1) := by decide +kernel
theorem dX5_fits_25 : decode cX5_fits 25 = .ok (.istore 6, 2) := by decide +kernel
theorem dX5_fits_27 : decode cX5_fits 27 = .ok (.iload 6, 2) := by decide +kernel
theorem dX5_fits_29 : decode cX5_fits 29 = .ok (.bipush 99, 2) := by decide +kernel
theorem dX5_fits_31 : decode cX5_fits 31 = .ok (.if_icmp .gt 29, 3) := by decide +kernel
theorem dX5_fits_34 : decode cX5_fits 34 = .ok (.aload_n 0, 1) := by decide +kernel
theorem dX5_fits_35 : decode cX5_fits 35 = .ok (.iload 6, 2) := by decide +kernel
theorem dX5_fits_37 : decode cX5_fits 37 = .ok (.aload_n 0, 1) := by decide +kernel
theorem dX5_fits_38 : decode cX5_fits 38 = .ok (.getfield 32, 3) := by decide +kernel
theorem dX5_fits_41 : decode cX5_fits 41 = .ok (.iload_n 1, 1) := by decide +kernel
theorem dX5_fits_42 : decode cX5_fits 42 = .ok (.aaload, 1) := by decide +kernel
theorem dX5_fits_43 : decode cX5_fits 43 = .ok (.iload_n 2, 1) := by decide +kernel
theorem dX5_fits_44 : decode cX5_fits 44 = .ok (.iload_n 3, 1) := by decide +kernel
theorem dX5_fits_45 : decode cX5_fits 45 = .ok (.invokevirtual 205, 3) := by decide +kernel
theorem dX5_fits_48 : decode cX5_fits 48 = .ok (.ifCond .eq 6, 3) := by decide +kernel
theorem dX5_fits_51 : decode cX5_fits 51 = .ok (.iinc 5 1, 3) := by decide +kernel
theorem dX5_fits_54 : decode cX5_fits 54 = .ok (.iinc 6 1, 3) := by decide +kernel
theorem dX5_fits_57 : decode cX5_fits 57 = .ok (.goto (-30), 3) := by decide +kernel
theorem dX5_fits_60 : decode cX5_fits 60 = .ok (.iload 5, 2) := by decide +kernel
theorem dX5_fits_62 : decode cX5_fits 62 = .ok (.ireturn, 1) := by decide +kernel
theorem dX5_opened_0 : decode cX5_opened 0 = .ok (.aload_n 0, 1) := by decide +kernel
theorem dX5_opened_1 : decode cX5_opened 1 = .ok (.iload_n 1, 1) := by decide +kernel
theorem dX5_opened_2 : decode cX5_opened 2 = .ok (.iload_n 2, 1) := by decide +kernel
theorem dX5_opened_3 : decode cX5_opened 3 = .ok (.iload_n 3, 1) := by decide +kernel
theorem dX5_opened_4 : decode cX5_opened 4 = .ok (.invokevirtual 202, 3) := by decide +kernel
theorem dX5_opened_7 : decode cX5_opened 7 = .ok (.istore 4, 2) := by decide +kernel
theorem dX5_opened_9 : decode cX5_opened 9 = .ok (.iload 4, 2) := by decide +kernel
theorem dX5_opened_11 : decode cX5_opened 11 = .ok (.ifCond .eq 10, 3) := by decide +kernel
theorem dX5_opened_14 : decode cX5_opened 14 = .ok (.aload_n 0, 1) := by decide +kernel
theorem dX5_opened_15 : decode cX5_opened 15 = .ok (.iload 4, 2) := by decide +kernel
theorem dX5_opened_17 : decode cX5_opened 17 = .ok (.invokevirtual 55, 3) := by decide +kernel
theorem dX5_opened_20 : decode cX5_opened 20 = .ok (.ireturn, 1) := by decide +kernel
theorem dX5_opened_21 : decode cX5_opened 21 = .ok (.iconst 0, 1) := by decide +kernel
theorem dX5_opened_22 : decode cX5_opened 22 = .ok (.istore 5, 2) := by decide +kernel
theorem dX5_opened_24 : decode cX5_opened 24 = .ok (.iload 5, 2) := by decide +kernel
theorem dX5_opened_26 : decode cX5_opened 26 = .ok (.bipush 99, 2) := by decide +kernel
theorem dX5_opened_28 : decode cX5_opened 28 = .ok (.if_icmp .gt 29, 3) := by decide +kernel
theorem dX5_opened_31 : decode cX5_opened 31 = .ok (.aload_n 0, 1) := by decide +kernel
theorem dX5_opened_32 : decode cX5_opened 32 = .ok (.iload 5, 2) := by decide +kernel
theorem dX5_opened_34 : decode cX5_opened 34 = .ok (.aload_n 0, 1) := by decide +kernel
theorem dX5_opened_35 : decode cX5_opened 35 = .ok (.getfield 32, 3) := by decide +kernel
theorem dX5_opened_38 : decode cX5_opened 38 = .ok (.iload_n 1, 1) := by decide +kernel
theorem dX5_opened_39 : decode cX5_opened 39 = .ok (.aaload, 1) := by decide +kernel
theorem dX5_opened_40 : decode cX5_opened 40 = .ok (.iload_n 2, 1) := by decide +kernel
theorem dX5_opened_41 : decode cX5_opened 41 = .ok (.iload_n 3, 1) := by decide +kernel
theorem dX5_opened_42 : decode cX5_opened 42 = .ok (.invokevirtual 205, 3) := by decide +kernel
theorem dX5_opened_45 : decode cX5_opened 45 = .ok (.ifCond .eq 6, 3) := by decide +kernel
theorem dX5_opened_48 : decode cX5_opened 48 = .ok (.iload 5, 2) := by decide +kernel
theorem dX5_opened_50 : decode cX5_opened 50 = .ok (.ireturn, 1) := by decide +kernel
theorem dX5_opened_51 : decode cX5_opened 51 = .ok (.iinc 5 1, 3) := by decide +kernel
theorem dX5_opened_54 : decode cX5_opened 54 = .ok (.goto (-30), 3) := by decide +kernel
theorem dX5_opened_57 : decode cX5_opened 57 = .ok (.aload_n 0, 1) := by decide +kernel
theorem dX5_opened_58 : decode cX5_opened 58 = .ok (.ldc 166, 2) := by decide +kernel
theorem dX5_opened_60 : decode cX5_opened 60 = .ok (.invokevirtual 55, 3) := by decide +kernel
theorem dX5_opened_63 : decode cX5_opened 63 = .ok (.ireturn, 1) := by decide +kernel
theorem dX5_kinds_0 : decode cX5_kinds 0 = .ok (.aload_n 0, 1) := by decide +kernel
theorem dX5_kinds_1 : decode cX5_kinds 1 = .ok (.iload_n 1, 1) := by decide +kernel
theorem dX5_kinds_2 : decode cX5_kinds 2 = .ok (.invokevirtual 209, 3) := by decide +kernel
theorem dX5_kinds_5 : decode cX5_kinds 5 = .ok (.istore_n 3, 1) := by decide +kernel
theorem dX5_kinds_6 : decode cX5_kinds 6 = .ok (.iload_n 3, 1) := by decide +kernel
theorem dX5_kinds_7 : decode cX5_kinds 7 = .ok (.ifCond .eq 9, 3) := by decide +kernel
theorem dX5_kinds_10 : decode cX5_kinds 10 = .ok (.aload_n 0, 1) := by decide +kernel
theorem dX5_kinds_11 : decode cX5_kinds 11 = .ok (.iload_n 3, 1) := by decide +kernel
theorem dX5_kinds_12 : decode cX5_kinds 12 = .ok (.invokevirtual 55, 3) := by decide +kernel
theorem dX5_kinds_15 : decode cX5_kinds 15 = .ok (.ireturn, 1) := by decide +kernel
theorem dX5_kinds_16 : decode cX5_kinds 16 = .ok (.aload_n 0, 1) := by decide +kernel
theorem dX5_kinds_17 : decode cX5_kinds 17 = .ok (.iload_n 2, 1) := by decide +kernel
theorem dX5_kinds_18 : decode cX5_kinds 18 = .ok (.invokevirtual 88, 3) := by decide +kernel
theorem dX5_kinds_21 : decode cX5_kinds 21 = .ok (.ifCond .eq 10, 3) := by decide +kernel
theorem dX5_kinds_24 : decode cX5_kinds 24 = .ok (.aload_n 0, 1) := by decide +kernel
theorem dX5_kinds_25 : decode cX5_kinds 25 = .ok (.ldc 54, 2) := by decide +kernel
theorem dX5_kinds_27 : decode cX5_kinds 27 = .ok (.invokevirtual 55, 3) := by decide +kernel
theorem dX5_kinds_30 : decode cX5_kinds 30 = .ok (.ireturn, 1) := by decide +kernel
theorem dX5_kinds_31 : decode cX5_kinds 31 = .ok (.iconst 0, 1) := by decide +kernel
theorem dX5_kinds_32 : decode cX5_kinds 32 = .ok (.istore 4, 2) := by decide +kernel
theorem dX5_kinds_34 : decode cX5_kinds 34 = .ok (.iconst 0, 1) := by decide +kernel
theorem dX5_kinds_35 : decode cX5_kinds 35 = .ok (.istore 5, 2) := by decide +kernel
theorem dX5_kinds_37 : decode cX5_kinds 37 = .ok (.iload 5, 2) := by decide +kernel
theorem dX5_kinds_39 : decode cX5_kinds 39 = .ok (.bipush 7, 2) := by decide +kernel
theorem dX5_kinds_41 : decode cX5_kinds 41 = .ok (.if_icmp .ge 34, 3) := by decide +kernel
theorem dX5_kinds_44 : decode cX5_kinds 44 = .ok (.aload_n 0, 1) := by decide +kernel
theorem dX5_kinds_45 : decode cX5_kinds 45 = .ok (.iload 5, 2) := by decide +kernel
theorem dX5_kinds_47 : decode cX5_kinds 47 = .ok (.aload_n 0, 1) := by decide +kernel
theorem dX5_kinds_48 : decode cX5_kinds 48 = .ok (.getfield 32, 3) := by decide +kernel
theorem dX5_kinds_51 : decode cX5_kinds 51 = .ok (.iload_n 1, 1) := by decide +kernel
theorem dX5_kinds_52 : decode cX5_kinds 52 = .ok (.aaload, 1) := by decide +kernel
theorem dX5_kinds_53 : decode cX5_kinds 53 = .ok (.iload_n 2, 1) := by decide +kernel
theorem dX5_kinds_54 : decode cX5_kinds 54 = .ok (.invokevirtual 212, 3) := by decide +kernel
theorem dX5_kinds_57 : decode cX5_kinds 57 = .ok (.ifCond .eq 12, 3) := by decide +kernel
theorem dX5_kinds_60 : decode cX5_kinds 60 = .ok (.iload 4, 2) := by decide +kernel
theorem dX5_kinds_62 : decode cX5_kinds 62 = .ok (.iconst 1, 1) := by decide +kernel
theorem dX5_kinds_63 : decode cX5_kinds 63 = .ok (.iload 5, 2) := by decide +kernel
theorem dX5_kinds_65 : decode cX5_kinds 65 = .ok (.ishl, 1) := by decide +kernel
theorem dX5_kinds_66 : decode cX5_kinds 66 = .ok (.ior, 1) := by decide +kernel
theorem dX5_kinds_67 : decode cX5_kinds 67 = .ok (.istore 4, 2) := by decide +kernel
theorem dX5_kinds_69 : decode cX5_kinds 69 = .ok (.iinc 5 1, 3) := by decide +kernel
theorem dX5_kinds_72 : decode cX5_kinds 72 = .ok (.goto (-35), 3) := by decide +kernel
theorem dX5_kinds_75 : decode cX5_kinds 75 = .ok (.iload 4, 2) := by decide +kernel
theorem dX5_kinds_77 : decode cX5_kinds 77 = .ok (.ireturn, 1) := by decide +kernel
theorem dX5_nights_0 : decode cX5_nights 0 = .ok (.iload_n 1, 1) := by decide +kernel
theorem dX5_nights_1 : decode cX5_nights 1 = .ok (.iconst 1, 1) := by decide +kernel
theorem dX5_nights_2 : decode cX5_nights 2 = .ok (.if_icmp .lt 9, 3) := by decide +kernel
theorem dX5_nights_5 : decode cX5_nights 5 = .ok (.iload_n 1, 1) := by decide +kernel
theorem dX5_nights_6 : decode cX5_nights 6 = .ok (.bipush 20, 2) := by decide +kernel
theorem dX5_nights_8 : decode cX5_nights 8 = .ok (.if_icmp .le 10, 3) := by decide +kernel
theorem dX5_nights_11 : decode cX5_nights 11 = .ok (.aload_n 0, 1) := by decide +kernel
theorem dX5_nights_12 : decode cX5_nights 12 = .ok (.ldc 54, 2) := by decide +kernel
theorem dX5_nights_14 : decode cX5_nights 14 = .ok (.invokevirtual 55, 3) := by decide +kernel
theorem dX5_nights_17 : decode cX5_nights 17 = .ok (.ireturn, 1) := by decide +kernel
theorem dX5_nights_18 : decode cX5_nights 18 = .ok (.aload_n 0, 1) := by decide +kernel
theorem dX5_nights_19 : decode cX5_nights 19 = .ok (.getfield 12, 3) := by decide +kernel
theorem dX5_nights_22 : decode cX5_nights 22 = .ok (.getfield 59, 3) := by decide +kernel
theorem dX5_nights_25 : decode cX5_nights 25 = .ok (.getfield 129, 3) := by decide +kernel
theorem dX5_nights_28 : decode cX5_nights 28 = .ok (.iload_n 1, 1) := by decide +kernel
theorem dX5_nights_29 : decode cX5_nights 29 = .ok (.iadd, 1) := by decide +kernel
theorem dX5_nights_30 : decode cX5_nights 30 = .ok (.ldc 132, 2) := by decide +kernel
theorem dX5_nights_32 : decode cX5_nights 32 = .ok (.if_icmp .le 10, 3) := by decide +kernel
theorem dX5_nights_35 : decode cX5_nights 35 = .ok (.aload_n 0, 1) := by decide +kernel
theorem dX5_nights_36 : decode cX5_nights 36 = .ok (.ldc 133, 2) := by decide +kernel
theorem dX5_nights_38 : decode cX5_nights 38 = .ok (.invokevirtual 55, 3) := by decide +kernel
theorem dX5_nights_41 : decode cX5_nights 41 = .ok (.ireturn, 1) := by decide +kernel
theorem dX5_nights_42 : decode cX5_nights 42 = .ok (.iconst 0, 1) := by decide +kernel
theorem dX5_nights_43 : decode cX5_nights 43 = .ok (.istore_n 2, 1) := by decide +kernel
theorem dX5_nights_44 : decode cX5_nights 44 = .ok (.iload_n 2, 1) := by decide +kernel
theorem dX5_nights_45 : decode cX5_nights 45 = .ok (.iload_n 1, 1) := by decide +kernel
theorem dX5_nights_46 : decode cX5_nights 46 = .ok (.if_icmp .ge 50, 3) := by decide +kernel
theorem dX5_nights_49 : decode cX5_nights 49 = .ok (.aload_n 0, 1) := by decide +kernel
theorem dX5_nights_50 : decode cX5_nights 50 = .ok (.getfield 12, 3) := by decide +kernel
theorem dX5_nights_53 : decode cX5_nights 53 = .ok (.invokevirtual 216, 3) := by decide +kernel
theorem dX5_nights_56 : decode cX5_nights 56 = .ok (.bipush 8, 2) := by decide +kernel
theorem dX5_nights_58 : decode cX5_nights 58 = .ok (.irem, 1) := by decide +kernel
theorem dX5_nights_59 : decode cX5_nights 59 = .ok (.istore_n 3, 1) := by decide +kernel
theorem dX5_nights_60 : decode cX5_nights 60 = .ok (.aload_n 0, 1) := by decide +kernel
theorem dX5_nights_61 : decode cX5_nights 61 = .ok (.getfield 12, 3) := by decide +kernel
theorem dX5_nights_64 : decode cX5_nights 64 = .ok (.getfield 59, 3) := by decide +kernel
theorem dX5_nights_67 : decode cX5_nights 67 = .ok (.getfield 68, 3) := by decide +kernel
theorem dX5_nights_70 : decode cX5_nights 70 = .ok (.iload_n 3, 1) := by decide +kernel
theorem dX5_nights_71 : decode cX5_nights 71 = .ok (.aload_n 0, 1) := by decide +kernel
theorem dX5_nights_72 : decode cX5_nights 72 = .ok (.getfield 12, 3) := by decide +kernel
theorem dX5_nights_75 : decode cX5_nights 75 = .ok (.invokevirtual 216, 3) := by decide +kernel
theorem dX5_nights_78 : decode cX5_nights 78 = .ok (.bipush 40, 2) := by decide +kernel
theorem dX5_nights_80 : decode cX5_nights 80 = .ok (.irem, 1) := by decide +kernel
theorem dX5_nights_81 : decode cX5_nights 81 = .ok (.iastore, 1) := by decide +kernel
theorem dX5_nights_82 : decode cX5_nights 82 = .ok (.aload_n 0, 1) := by decide +kernel
theorem dX5_nights_83 : decode cX5_nights 83 = .ok (.getfield 12, 3) := by decide +kernel
theorem dX5_nights_86 : decode cX5_nights 86 = .ok (.iconst 1, 1) := by decide +kernel
theorem dX5_nights_87 : decode cX5_nights 87 = .ok (.invokevirtual 134, 3) := by decide +kernel
theorem dX5_nights_90 : decode cX5_nights 90 = .ok (.iinc 2 1, 3) := by decide +kernel
theorem dX5_nights_93 : decode cX5_nights 93 = .ok (.goto (-49), 3) := by decide +kernel
theorem dX5_nights_96 : decode cX5_nights 96 = .ok (.aload_n 0, 1) := by decide +kernel
theorem dX5_nights_97 : decode cX5_nights 97 = .ok (.getfield 12, 3) := by decide +kernel
theorem dX5_nights_100 : decode cX5_nights 100 = .ok (.invokevirtual 137, 3) := by decide +kernel
theorem dX5_nights_103 : decode cX5_nights 103 = .ok (.invokestatic 183, 3) := by decide +kernel
theorem dX5_nights_106 : decode cX5_nights 106 = .ok (.ireturn, 1) := by decide +kernel
theorem dX5_odds_0 : decode cX5_odds 0 = .ok (.iload_n 1, 1) := by decide +kernel
theorem dX5_odds_1 : decode cX5_odds 1 = .ok (.bipush 20, 2) := by decide +kernel
theorem dX5_odds_3 : decode cX5_odds 3 = .ok (.invokestatic 50, 3) := by decide +kernel
theorem dX5_odds_6 : decode cX5_odds 6 = .ok (.ifCond .ne 11, 3) := by decide +kernel
theorem dX5_odds_9 : decode cX5_odds 9 = .ok (.iload_n 2, 1) := by decide +kernel
theorem dX5_odds_10 : decode cX5_odds 10 = .ok (.iconst 1, 1) := by decide +kernel
theorem dX5_odds_11 : decode cX5_odds 11 = .ok (.invokestatic 50, 3) := by decide +kernel
theorem dX5_odds_14 : decode cX5_odds 14 = .ok (.ifCond .eq 11, 3) := by decide +kernel
theorem dX5_odds_17 : decode cX5_odds 17 = .ok (.aload_n 0, 1) := by decide +kernel
theorem dX5_odds_18 : decode cX5_odds 18 = .ok (.ldc 54, 2) := by decide +kernel
theorem dX5_odds_20 : decode cX5_odds 20 = .ok (.invokevirtual 55, 3) := by decide +kernel
theorem dX5_odds_23 : decode cX5_odds 23 = .ok (.i2l, 1) := by decide +kernel
theorem dX5_odds_24 : decode cX5_odds 24 = .ok (.lreturn, 1) := by decide +kernel
theorem dX5_odds_25 : decode cX5_odds 25 = .ok (.aload_n 0, 1) := by decide +kernel
theorem dX5_odds_26 : decode cX5_odds 26 = .ok (.getfield 12, 3) := by decide +kernel
theorem dX5_odds_29 : decode cX5_odds 29 = .ok (.getfield 59, 3) := by decide +kernel
theorem dX5_odds_32 : decode cX5_odds 32 = .ok (.invokevirtual 219, 3) := by decide +kernel
theorem dX5_odds_35 : decode cX5_odds 35 = .ok (.istore_n 3, 1) := by decide +kernel
theorem dX5_odds_36 : decode cX5_odds 36 = .ok (.iload_n 3, 1) := by decide +kernel
theorem dX5_odds_37 : decode cX5_odds 37 = .ok (.invokestatic 222, 3) := by decide +kernel
theorem dX5_odds_40 : decode cX5_odds 40 = .ok (.istore 4, 2) := by decide +kernel
theorem dX5_odds_42 : decode cX5_odds 42 = .ok (.iload_n 2, 1) := by decide +kernel
theorem dX5_odds_43 : decode cX5_odds 43 = .ok (.ifCond .ne 10, 3) := by decide +kernel
theorem dX5_odds_46 : decode cX5_odds 46 = .ok (.iload_n 3, 1) := by decide +kernel
theorem dX5_odds_47 : decode cX5_odds 47 = .ok (.iload 4, 2) := by decide +kernel
theorem dX5_odds_49 : decode cX5_odds 49 = .ok (.idiv, 1) := by decide +kernel
theorem dX5_odds_50 : decode cX5_odds 50 = .ok (.goto 8, 3) := by decide +kernel
theorem dX5_odds_53 : decode cX5_odds 53 = .ok (.bipush 8, 2) := by decide +kernel
theorem dX5_odds_55 : decode cX5_odds 55 = .ok (.iload 4, 2) := by decide +kernel
theorem dX5_odds_57 : decode cX5_odds 57 = .ok (.idiv, 1) := by decide +kernel
theorem dX5_odds_58 : decode cX5_odds 58 = .ok (.iload_n 1, 1) := by decide +kernel
theorem dX5_odds_59 : decode cX5_odds 59 = .ok (.invokestatic 225, 3) := by decide +kernel
theorem dX5_odds_62 : decode cX5_odds 62 = .ok (.lreturn, 1) := by decide +kernel
theorem dX5_seed_0 : decode cX5_seed 0 = .ok (.aload_n 0, 1) := by decide +kernel
theorem dX5_seed_1 : decode cX5_seed 1 = .ok (.getfield 12, 3) := by decide +kernel
theorem dX5_seed_4 : decode cX5_seed 4 = .ok (.getfield 229, 3) := by decide +kernel
theorem dX5_seed_7 : decode cX5_seed 7 = .ok (.istore_n 2, 1) := by decide +kernel
theorem dX5_seed_8 : decode cX5_seed 8 = .ok (.aload_n 0, 1) := by decide +kernel
theorem dX5_seed_9 : decode cX5_seed 9 = .ok (.getfield 12, 3) := by decide +kernel
theorem dX5_seed_12 : decode cX5_seed 12 = .ok (.iload_n 1, 1) := by decide +kernel
theorem dX5_seed_13 : decode cX5_seed 13 = .ok (.putfield 229, 3) := by decide +kernel
theorem dX5_seed_16 : decode cX5_seed 16 = .ok (.iload_n 2, 1) := by decide +kernel
theorem dX5_seed_17 : decode cX5_seed 17 = .ok (.ireturn, 1) := by decide +kernel
theorem dX5_feed_0 : decode cX5_feed 0 = .ok (.iload_n 2, 1) := by decide +kernel
theorem dX5_feed_1 : decode cX5_feed 1 = .ok (.iconst 1, 1) := by decide +kernel
theorem dX5_feed_2 : decode cX5_feed 2 = .ok (.if_icmp .lt 8, 3) := by decide +kernel
theorem dX5_feed_5 : decode cX5_feed 5 = .ok (.iload_n 2, 1) := by decide +kernel
theorem dX5_feed_6 : decode cX5_feed 6 = .ok (.iconst 4, 1) := by decide +kernel
theorem dX5_feed_7 : decode cX5_feed 7 = .ok (.if_icmp .le 10, 3) := by decide +kernel
theorem dX5_feed_10 : decode cX5_feed 10 = .ok (.aload_n 0, 1) := by decide +kernel
theorem dX5_feed_11 : decode cX5_feed 11 = .ok (.ldc 54, 2) := by decide +kernel
theorem dX5_feed_13 : decode cX5_feed 13 = .ok (.invokevirtual 55, 3) := by decide +kernel
theorem dX5_feed_16 : decode cX5_feed 16 = .ok (.ireturn, 1) := by decide +kernel
theorem dX5_feed_17 : decode cX5_feed 17 = .ok (.aload_n 0, 1) := by decide +kernel
theorem dX5_feed_18 : decode cX5_feed 18 = .ok (.getfield 39, 3) := by decide +kernel
theorem dX5_feed_21 : decode cX5_feed 21 = .ok (.getfield 232, 3) := by decide +kernel
theorem dX5_feed_24 : decode cX5_feed 24 = .ok (.iload_n 2, 1) := by decide +kernel
theorem dX5_feed_25 : decode cX5_feed 25 = .ok (.iadd, 1) := by decide +kernel
theorem dX5_feed_26 : decode cX5_feed 26 = .ok (.bipush 120, 2) := by decide +kernel
theorem dX5_feed_28 : decode cX5_feed 28 = .ok (.if_icmp .le 10, 3) := by decide +kernel
theorem dX5_feed_31 : decode cX5_feed 31 = .ok (.aload_n 0, 1) := by decide +kernel
theorem dX5_feed_32 : decode cX5_feed 32 = .ok (.ldc 83, 2) := by decide +kernel
theorem dX5_feed_34 : decode cX5_feed 34 = .ok (.invokevirtual 55, 3) := by decide +kernel
theorem dX5_feed_37 : decode cX5_feed 37 = .ok (.ireturn, 1) := by decide +kernel
theorem dX5_feed_38 : decode cX5_feed 38 = .ok (.iload_n 2, 1) := by decide +kernel
theorem dX5_feed_39 : decode cX5_feed 39 = .ok (.iconst 1, 1) := by decide +kernel
theorem dX5_feed_40 : decode cX5_feed 40 = .ok (.isub, 1) := by decide +kernel
theorem dX5_feed_41 : decode cX5_feed 41 = .ok (.istore_n 3, 1) := by decide +kernel
theorem dX5_feed_42 : decode cX5_feed 42 = .ok (.iload_n 3, 1) := by decide +kernel
theorem dX5_feed_43 : decode cX5_feed 43 = .ok (.ifCond .lt 26, 3) := by decide +kernel
theorem dX5_feed_46 : decode cX5_feed 46 = .ok (.aload_n 0, 1) := by decide +kernel
theorem dX5_feed_47 : decode cX5_feed 47 = .ok (.getfield 39, 3) := by decide +kernel
theorem dX5_feed_50 : decode cX5_feed 50 = .ok (.iload_n 1, 1) := by decide +kernel
theorem dX5_feed_51 : decode cX5_feed 51 = .ok (.bipush 8, 2) := by decide +kernel
theorem dX5_feed_53 : decode cX5_feed 53 = .ok (.iload_n 3, 1) := by decide +kernel
theorem dX5_feed_54 : decode cX5_feed 54 = .ok (.imul, 1) := by decide +kernel
theorem dX5_feed_55 : decode cX5_feed 55 = .ok (.iushr, 1) := by decide +kernel
theorem dX5_feed_56 : decode cX5_feed 56 = .ok (.sipush 255, 3) := by decide +kernel
theorem dX5_feed_59 : decode cX5_feed 59 = .ok (.iand, 1) := by decide +kernel
theorem dX5_feed_60 : decode cX5_feed 60 = .ok (.invokevirtual 235, 3) := by decide +kernel
theorem dX5_feed_63 : decode cX5_feed 63 = .ok (.iinc 3 (-1), 3) := by decide +kernel
theorem dX5_feed_66 : decode cX5_feed 66 = .ok (.goto (-24), 3) := by decide +kernel
theorem dX5_feed_69 : decode cX5_feed 69 = .ok (.aload_n 0, 1) := by decide +kernel
theorem dX5_feed_70 : decode cX5_feed 70 = .ok (.getfield 39, 3) := by decide +kernel
theorem dX5_feed_73 : decode cX5_feed 73 = .ok (.getfield 232, 3) := by decide +kernel
theorem dX5_feed_76 : decode cX5_feed 76 = .ok (.ireturn, 1) := by decide +kernel
theorem dX5_wipe_0 : decode cX5_wipe 0 = .ok (.aload_n 0, 1) := by decide +kernel
theorem dX5_wipe_1 : decode cX5_wipe 1 = .ok (.getfield 39, 3) := by decide +kernel
theorem dX5_wipe_4 : decode cX5_wipe 4 = .ok (.getfield 232, 3) := by decide +kernel
theorem dX5_wipe_7 : decode cX5_wipe 7 = .ok (.istore_n 1, 1) := by decide +kernel
theorem dX5_wipe_8 : decode cX5_wipe 8 = .ok (.aload_n 0, 1) := by decide +kernel
theorem dX5_wipe_9 : decode cX5_wipe 9 = .ok (.getfield 39, 3) := by decide +kernel
theorem dX5_wipe_12 : decode cX5_wipe 12 = .ok (.iconst 0, 1) := by decide +kernel
theorem dX5_wipe_13 : decode cX5_wipe 13 = .ok (.putfield 232, 3) := by decide +kernel
theorem dX5_wipe_16 : decode cX5_wipe 16 = .ok (.iload_n 1, 1) := by decide +kernel
theorem dX5_wipe_17 : decode cX5_wipe 17 = .ok (.ireturn, 1) := by decide +kernel
theorem dX5_text_0 : decode cX5_text 0 = .ok (.aload_n 0, 1) := by decide +kernel
theorem dX5_text_1 : decode cX5_text 1 = .ok (.getfield 19, 3) := by decide +kernel
theorem dX5_text_4 : decode cX5_text 4 = .ok (.aload_n 0, 1) := by decide +kernel
theorem dX5_text_5 : decode cX5_text 5 = .ok (.getfield 12, 3) := by decide +kernel
theorem dX5_text_8 : decode cX5_text 8 = .ok (.invokevirtual 159, 3) := by decide +kernel
theorem dX5_text_11 : decode cX5_text 11 = .ok (.aload_n 0, 1) := by decide +kernel
theorem dX5_text_12 : decode cX5_text 12 = .ok (.getfield 39, 3) := by decide +kernel
theorem dX5_text_15 : decode cX5_text 15 = .ok (.aload_n 0, 1) := by decide +kernel
theorem dX5_text_16 : decode cX5_text 16 = .ok (.getfield 19, 3) := by decide +kernel
theorem dX5_text_19 : decode cX5_text 19 = .ok (.invokevirtual 238, 3) := by decide +kernel
theorem dX5_text_22 : decode cX5_text 22 = .ok (.istore_n 1, 1) := by decide +kernel
theorem dX5_text_23 : decode cX5_text 23 = .ok (.aload_n 0, 1) := by decide +kernel
theorem dX5_text_24 : decode cX5_text 24 = .ok (.getfield 39, 3) := by decide +kernel
theorem dX5_text_27 : decode cX5_text 27 = .ok (.iconst 0, 1) := by decide +kernel
theorem dX5_text_28 : decode cX5_text 28 = .ok (.putfield 232, 3) := by decide +kernel
theorem dX5_text_31 : decode cX5_text 31 = .ok (.aload_n 0, 1) := by decide +kernel
theorem dX5_text_32 : decode cX5_text 32 = .ok (.getfield 39, 3) := by decide +kernel
theorem dX5_text_35 : decode cX5_text 35 = .ok (.invokevirtual 242, 3) := by decide +kernel
theorem dX5_text_38 : decode cX5_text 38 = .ok (.ifCond .eq 13, 3) := by decide +kernel
theorem dX5_text_41 : decode cX5_text 41 = .ok (.iconst (-1), 1) := by decide +kernel
theorem dX5_text_42 : decode cX5_text 42 = .ok (.aload_n 0, 1) := by decide +kernel
theorem dX5_text_43 : decode cX5_text 43 = .ok (.getfield 39, 3) := by decide +kernel
theorem dX5_text_46 : decode cX5_text 46 = .ok (.getfield 245, 3) := by decide +kernel
theorem dX5_text_49 : decode cX5_text 49 = .ok (.isub, 1) := by decide +kernel
theorem dX5_text_50 : decode cX5_text 50 = .ok (.ireturn, 1) := by decide +kernel
theorem dX5_text_51 : decode cX5_text 51 = .ok (.aload_n 0, 1) := by decide +kernel
theorem dX5_text_52 : decode cX5_text 52 = .ok (.getfield 12, 3) := by decide +kernel
theorem dX5_text_55 : decode cX5_text 55 = .ok (.aload_n 0, 1) := by decide +kernel
theorem dX5_text_56 : decode cX5_text 56 = .ok (.getfield 19, 3) := by decide +kernel
theorem dX5_text_59 : decode cX5_text 59 = .ok (.invokevirtual 159, 3) := by decide +kernel
theorem dX5_text_62 : decode cX5_text 62 = .ok (.iload_n 1, 1) := by decide +kernel
theorem dX5_text_63 : decode cX5_text 63 = .ok (.ireturn, 1) := by decide +kernel
theorem dX5_hold_0 : decode cX5_hold 0 = .ok (.iload_n 1, 1) := by decide +kernel
theorem dX5_hold_1 : decode cX5_hold 1 = .ok (.bipush 9, 2) := by decide +kernel
theorem dX5_hold_3 : decode cX5_hold 3 = .ok (.invokestatic 50, 3) := by decide +kernel
theorem dX5_hold_6 : decode cX5_hold 6 = .ok (.ifCond .ne 16, 3) := by decide +kernel
theorem dX5_hold_9 : decode cX5_hold 9 = .ok (.iload_n 2, 1) := by decide +kernel
theorem dX5_hold_10 : decode cX5_hold 10 = .ok (.iconst (-1), 1) := by decide +kernel
theorem dX5_hold_11 : decode cX5_hold 11 = .ok (.if_icmp .eq 18, 3) := by decide +kernel
theorem dX5_hold_14 : decode cX5_hold 14 = .ok (.aload_n 0, 1) := by decide +kernel
theorem dX5_hold_15 : decode cX5_hold 15 = .ok (.iload_n 2, 1) := by decide +kernel
theorem dX5_hold_16 : decode cX5_hold 16 = .ok (.invokevirtual 88, 3) := by decide +kernel
theorem dX5_hold_19 : decode cX5_hold 19 = .ok (.ifCond .eq 10, 3) := by decide +kernel
theorem dX5_hold_22 : decode cX5_hold 22 = .ok (.aload_n 0, 1) := by decide +kernel
theorem dX5_hold_23 : decode cX5_hold 23 = .ok (.ldc 54, 2) := by decide +kernel
theorem dX5_hold_25 : decode cX5_hold 25 = .ok (.invokevirtual 55, 3) := by decide +kernel
theorem dX5_hold_28 : decode cX5_hold 28 = .ok (.ireturn, 1) := by decide +kernel
theorem dX5_hold_29 : decode cX5_hold 29 = .ok (.aload_n 0, 1) := by decide +kernel
theorem dX5_hold_30 : decode cX5_hold 30 = .ok (.getfield 12, 3) := by decide +kernel
theorem dX5_hold_33 : decode cX5_hold 33 = .ok (.getfield 248, 3) := by decide +kernel
theorem dX5_hold_36 : decode cX5_hold 36 = .ok (.iload_n 1, 1) := by decide +kernel
theorem dX5_hold_37 : decode cX5_hold 37 = .ok (.iload_n 2, 1) := by decide +kernel
theorem dX5_hold_38 : decode cX5_hold 38 = .ok (.iastore, 1) := by decide +kernel
theorem dX5_hold_39 : decode cX5_hold 39 = .ok (.iconst 1, 1) := by decide +kernel
theorem dX5_hold_40 : decode cX5_hold 40 = .ok (.ireturn, 1) := by decide +kernel
theorem dX5_as_0 : decode cX5_as 0 = .ok (.iload_n 1, 1) := by decide +kernel
theorem dX5_as_1 : decode cX5_as 1 = .ok (.bipush 9, 2) := by decide +kernel
theorem dX5_as_3 : decode cX5_as 3 = .ok (.invokestatic 50, 3) := by decide +kernel
theorem dX5_as_6 : decode cX5_as 6 = .ok (.ifCond .ne 12, 3) := by decide +kernel
theorem dX5_as_9 : decode cX5_as 9 = .ok (.iload_n 2, 1) := by decide +kernel
theorem dX5_as_10 : decode cX5_as 10 = .ok (.bipush 6, 2) := by decide +kernel
theorem dX5_as_12 : decode cX5_as 12 = .ok (.invokestatic 50, 3) := by decide +kernel
theorem dX5_as_15 : decode cX5_as 15 = .ok (.ifCond .eq 10, 3) := by decide +kernel
theorem dX5_as_18 : decode cX5_as 18 = .ok (.aload_n 0, 1) := by decide +kernel
theorem dX5_as_19 : decode cX5_as 19 = .ok (.ldc 54, 2) := by decide +kernel
theorem dX5_as_21 : decode cX5_as 21 = .ok (.invokevirtual 55, 3) := by decide +kernel
theorem dX5_as_24 : decode cX5_as 24 = .ok (.ireturn, 1) := by decide +kernel
theorem dX5_as_25 : decode cX5_as 25 = .ok (.aload_n 0, 1) := by decide +kernel
theorem dX5_as_26 : decode cX5_as 26 = .ok (.getfield 12, 3) := by decide +kernel
theorem dX5_as_29 : decode cX5_as 29 = .ok (.getfield 248, 3) := by decide +kernel
theorem dX5_as_32 : decode cX5_as 32 = .ok (.iload_n 1, 1) := by decide +kernel
theorem dX5_as_33 : decode cX5_as 33 = .ok (.iaload, 1) := by decide +kernel
theorem dX5_as_34 : decode cX5_as 34 = .ok (.istore_n 3, 1) := by decide +kernel
theorem dX5_as_35 : decode cX5_as 35 = .ok (.aload_n 0, 1) := by decide +kernel
theorem dX5_as_36 : decode cX5_as 36 = .ok (.iload_n 3, 1) := by decide +kernel
theorem dX5_as_37 : decode cX5_as 37 = .ok (.invokevirtual 88, 3) := by decide +kernel
theorem dX5_as_40 : decode cX5_as 40 = .ok (.ifCond .eq 10, 3) := by decide +kernel
theorem dX5_as_43 : decode cX5_as 43 = .ok (.aload_n 0, 1) := by decide +kernel
theorem dX5_as_44 : decode cX5_as 44 = .ok (.ldc 251, 2) := by decide +kernel
theorem dX5_as_46 : decode cX5_as 46 = .ok (.invokevirtual 55, 3) := by decide +kernel
theorem dX5_as_49 : decode cX5_as 49 = .ok (.ireturn, 1) := by decide +kernel
theorem dX5_as_50 : decode cX5_as 50 = .ok (.aload_n 0, 1) := by decide +kernel
theorem dX5_as_51 : decode cX5_as 51 = .ok (.getfield 12, 3) := by decide +kernel
theorem dX5_as_54 : decode cX5_as 54 = .ok (.getfield 92, 3) := by decide +kernel
theorem dX5_as_57 : decode cX5_as 57 = .ok (.iload_n 3, 1) := by decide +kernel
theorem dX5_as_58 : decode cX5_as 58 = .ok (.aaload, 1) := by decide +kernel
theorem dX5_as_59 : decode cX5_as 59 = .ok (.iload_n 2, 1) := by decide +kernel
theorem dX5_as_60 : decode cX5_as 60 = .ok (.invokevirtual 252, 3) := by decide +kernel
theorem dX5_as_63 : decode cX5_as 63 = .ok (.ifCond .eq 7, 3) := by decide +kernel
theorem dX5_as_66 : decode cX5_as 66 = .ok (.iload_n 3, 1) := by decide +kernel
theorem dX5_as_67 : decode cX5_as 67 = .ok (.goto 9, 3) := by decide +kernel
theorem dX5_as_70 : decode cX5_as 70 = .ok (.aload_n 0, 1) := by decide +kernel
theorem dX5_as_71 : decode cX5_as 71 = .ok (.ldc 255, 2) := by decide +kernel
theorem dX5_as_73 : decode cX5_as 73 = .ok (.invokevirtual 55, 3) := by decide +kernel
theorem dX5_as_76 : decode cX5_as 76 = .ok (.ireturn, 1) := by decide +kernel
theorem dX5_sheet_0 : decode cX5_sheet 0 = .ok (.iload_n 1, 1) := by decide +kernel
theorem dX5_sheet_1 : decode cX5_sheet 1 = .ok (.iconst 3, 1) := by decide +kernel
theorem dX5_sheet_2 : decode cX5_sheet 2 = .ok (.invokestatic 50, 3) := by decide +kernel
theorem dX5_sheet_5 : decode cX5_sheet 5 = .ok (.ifCond .ne 25, 3) := by decide +kernel
theorem dX5_sheet_8 : decode cX5_sheet 8 = .ok (.iload_n 2, 1) := by decide +kernel
theorem dX5_sheet_9 : decode cX5_sheet 9 = .ok (.ifCond .eq 28, 3) := by decide +kernel
theorem dX5_sheet_12 : decode cX5_sheet 12 = .ok (.iload_n 2, 1) := by decide +kernel
theorem dX5_sheet_13 : decode cX5_sheet 13 = .ok (.bipush 8, 2) := by decide +kernel
theorem dX5_sheet_15 : decode cX5_sheet 15 = .ok (.if_icmp .eq 22, 3) := by decide +kernel
theorem dX5_sheet_18 : decode cX5_sheet 18 = .ok (.iload_n 2, 1) := by decide +kernel
theorem dX5_sheet_19 : decode cX5_sheet 19 = .ok (.bipush 16, 2) := by decide +kernel
theorem dX5_sheet_21 : decode cX5_sheet 21 = .ok (.if_icmp .eq 16, 3) := by decide +kernel
theorem dX5_sheet_24 : decode cX5_sheet 24 = .ok (.iload_n 2, 1) := by decide +kernel
theorem dX5_sheet_25 : decode cX5_sheet 25 = .ok (.bipush 32, 2) := by decide +kernel
theorem dX5_sheet_27 : decode cX5_sheet 27 = .ok (.if_icmp .eq 10, 3) := by decide +kernel
theorem dX5_sheet_30 : decode cX5_sheet 30 = .ok (.aload_n 0, 1) := by decide +kernel
theorem dX5_sheet_31 : decode cX5_sheet 31 = .ok (.ldc 54, 2) := by decide +kernel
theorem dX5_sheet_33 : decode cX5_sheet 33 = .ok (.invokevirtual 55, 3) := by decide +kernel
theorem dX5_sheet_36 : decode cX5_sheet 36 = .ok (.ireturn, 1) := by decide +kernel
theorem dX5_sheet_37 : decode cX5_sheet 37 = .ok (.iload_n 3, 1) := by decide +kernel
theorem dX5_sheet_38 : decode cX5_sheet 38 = .ok (.ifCond .ge 11, 3) := by decide +kernel
theorem dX5_sheet_41 : decode cX5_sheet 41 = .ok (.aload_n 0, 1) := by decide +kernel
theorem dX5_sheet_42 : decode cX5_sheet 42 = .ok (.ldc_w 256, 3) := by decide +kernel
theorem dX5_sheet_45 : decode cX5_sheet 45 = .ok (.invokevirtual 55, 3) := by decide +kernel
theorem dX5_sheet_48 : decode cX5_sheet 48 = .ok (.ireturn, 1) := by decide +kernel
theorem dX5_sheet_49 : decode cX5_sheet 49 = .ok (.iload_n 3, 1) := by decide +kernel
theorem dX5_sheet_50 : decode cX5_sheet 50 = .ok (.bipush 40, 2) := by decide +kernel
theorem dX5_sheet_52 : decode cX5_sheet 52 = .ok (.if_icmp .le 10, 3) := by decide +kernel
theorem dX5_sheet_55 : decode cX5_sheet 55 = .ok (.aload_n 0, 1) := by decide +kernel
theorem dX5_sheet_56 : decode cX5_sheet 56 = .ok (.ldc 54, 2) := by decide +kernel
theorem dX5_sheet_58 : decode cX5_sheet 58 = .ok (.invokevirtual 55, 3) := by decide +kernel
theorem dX5_sheet_61 : decode cX5_sheet 61 = .ok (.ireturn, 1) := by decide +kernel
theorem dX5_sheet_62 : decode cX5_sheet 62 = .ok (.aload_n 0, 1) := by decide +kernel
theorem dX5_sheet_63 : decode cX5_sheet 63 = .ok (.getfield 32, 3) := by decide +kernel
theorem dX5_sheet_66 : decode cX5_sheet 66 = .ok (.iload_n 1, 1) := by decide +kernel
theorem dX5_sheet_67 : decode cX5_sheet 67 = .ok (.aaload, 1) := by decide +kernel
theorem dX5_sheet_68 : decode cX5_sheet 68 = .ok (.iload_n 2, 1) := by decide +kernel
theorem dX5_sheet_69 : decode cX5_sheet 69 = .ok (.iload_n 3, 1) := by decide +kernel
theorem dX5_sheet_70 : decode cX5_sheet 70 = .ok (.invokevirtual 257, 3) := by decide +kernel
theorem dX5_sheet_73 : decode cX5_sheet 73 = .ok (.aload_n 0, 1) := by decide +kernel
theorem dX5_sheet_74 : decode cX5_sheet 74 = .ok (.getfield 32, 3) := by decide +kernel
theorem dX5_sheet_77 : decode cX5_sheet 77 = .ok (.iload_n 1, 1) := by decide +kernel
theorem dX5_sheet_78 : decode cX5_sheet 78 = .ok (.aaload, 1) := by decide +kernel
theorem dX5_sheet_79 : decode cX5_sheet 79 = .ok (.getfield 261, 3) := by decide +kernel
theorem dX5_sheet_82 : decode cX5_sheet 82 = .ok (.ireturn, 1) := by decide +kernel
theorem dX5_write_0 : decode cX5_write 0 = .ok (.aload_n 0, 1) := by decide +kernel
theorem dX5_write_1 : decode cX5_write 1 = .ok (.iload_n 1, 1) := by decide +kernel
theorem dX5_write_2 : decode cX5_write 2 = .ok (.invokevirtual 209, 3) := by decide +kernel
theorem dX5_write_5 : decode cX5_write 5 = .ok (.istore 4, 2) := by decide +kernel
theorem dX5_write_7 : decode cX5_write 7 = .ok (.iload 4, 2) := by decide +kernel
theorem dX5_write_9 : decode cX5_write 9 = .ok (.ifCond .eq 10, 3) := by decide +kernel
theorem dX5_write_12 : decode cX5_write 12 = .ok (.aload_n 0, 1) := by decide +kernel
theorem dX5_write_13 : decode cX5_write 13 = .ok (.iload 4, 2) := by decide +kernel
theorem dX5_write_15 : decode cX5_write 15 = .ok (.invokevirtual 55, 3) := by decide +kernel
theorem dX5_write_18 : decode cX5_write 18 = .ok (.ireturn, 1) := by decide +kernel
theorem dX5_write_19 : decode cX5_write 19 = .ok (.iload_n 2, 1) := by decide +kernel
theorem dX5_write_20 : decode cX5_write 20 = .ok (.aload_n 0, 1) := by decide +kernel
theorem dX5_write_21 : decode cX5_write 21 = .ok (.getfield 32, 3) := by decide +kernel
theorem dX5_write_24 : decode cX5_write 24 = .ok (.iload_n 1, 1) := by decide +kernel
theorem dX5_write_25 : decode cX5_write 25 = .ok (.aaload, 1) := by decide +kernel
theorem dX5_write_26 : decode cX5_write 26 = .ok (.getfield 261, 3) := by decide +kernel
theorem dX5_write_29 : decode cX5_write 29 = .ok (.iconst 1, 1) := by decide +kernel
theorem dX5_write_30 : decode cX5_write 30 = .ok (.isub, 1) := by decide +kernel
theorem dX5_write_31 : decode cX5_write 31 = .ok (.invokestatic 50, 3) := by decide +kernel
theorem dX5_write_34 : decode cX5_write 34 = .ok (.ifCond .eq 10, 3) := by decide +kernel
theorem dX5_write_37 : decode cX5_write 37 = .ok (.aload_n 0, 1) := by decide +kernel
theorem dX5_write_38 : decode cX5_write 38 = .ok (.ldc 54, 2) := by decide +kernel
theorem dX5_write_40 : decode cX5_write 40 = .ok (.invokevirtual 55, 3) := by decide +kernel
theorem dX5_write_43 : decode cX5_write 43 = .ok (.ireturn, 1) := by decide +kernel
theorem dX5_write_44 : decode cX5_write 44 = .ok (.aload_n 0, 1) := by decide +kernel
theorem dX5_write_45 : decode cX5_write 45 = .ok (.getfield 32, 3) := by decide +kernel
theorem dX5_write_48 : decode cX5_write 48 = .ok (.iload_n 1, 1) := by decide +kernel
theorem dX5_write_49 : decode cX5_write 49 = .ok (.aaload, 1) := by decide +kernel
theorem dX5_write_50 : decode cX5_write 50 = .ok (.iload_n 2, 1) := by decide +kernel
theorem dX5_write_51 : decode cX5_write 51 = .ok (.iload_n 3, 1) := by decide +kernel
theorem dX5_write_52 : decode cX5_write 52 = .ok (.invokevirtual 264, 3) := by decide +kernel
theorem dX5_write_55 : decode cX5_write 55 = .ok (.iconst 1, 1) := by decide +kernel
theorem dX5_write_56 : decode cX5_write 56 = .ok (.ireturn, 1) := by decide +kernel
theorem dX5_copy_0 : decode cX5_copy 0 = .ok (.iload_n 1, 1) := by decide +kernel
theorem dX5_copy_1 : decode cX5_copy 1 = .ok (.iconst 3, 1) := by decide +kernel
theorem dX5_copy_2 : decode cX5_copy 2 = .ok (.invokestatic 50, 3) := by decide +kernel
theorem dX5_copy_5 : decode cX5_copy 5 = .ok (.ifCond .ne 11, 3) := by decide +kernel
theorem dX5_copy_8 : decode cX5_copy 8 = .ok (.iload_n 3, 1) := by decide +kernel
theorem dX5_copy_9 : decode cX5_copy 9 = .ok (.iconst 3, 1) := by decide +kernel
theorem dX5_copy_10 : decode cX5_copy 10 = .ok (.invokestatic 50, 3) := by decide +kernel
theorem dX5_copy_13 : decode cX5_copy 13 = .ok (.ifCond .eq 10, 3) := by decide +kernel
theorem dX5_copy_16 : decode cX5_copy 16 = .ok (.aload_n 0, 1) := by decide +kernel
theorem dX5_copy_17 : decode cX5_copy 17 = .ok (.ldc 54, 2) := by decide +kernel
theorem dX5_copy_19 : decode cX5_copy 19 = .ok (.invokevirtual 55, 3) := by decide +kernel
theorem dX5_copy_22 : decode cX5_copy 22 = .ok (.ireturn, 1) := by decide +kernel
theorem dX5_copy_23 : decode cX5_copy 23 = .ok (.aload_n 0, 1) := by decide +kernel
theorem dX5_copy_24 : decode cX5_copy 24 = .ok (.getfield 32, 3) := by decide +kernel
theorem dX5_copy_27 : decode cX5_copy 27 = .ok (.iload_n 1, 1) := by decide +kernel
theorem dX5_copy_28 : decode cX5_copy 28 = .ok (.aaload, 1) := by decide +kernel
theorem dX5_copy_29 : decode cX5_copy 29 = .ok (.astore 6, 2) := by decide +kernel
theorem dX5_copy_31 : decode cX5_copy 31 = .ok (.aload_n 0, 1) := by decide +kernel
theorem dX5_copy_32 : decode cX5_copy 32 = .ok (.getfield 32, 3) := by decide +kernel
theorem dX5_copy_35 : decode cX5_copy 35 = .ok (.iload_n 3, 1) := by decide +kernel
theorem dX5_copy_36 : decode cX5_copy 36 = .ok (.aaload, 1) := by decide +kernel
theorem dX5_copy_37 : decode cX5_copy 37 = .ok (.astore 7, 2) := by decide +kernel
theorem dX5_copy_39 : decode cX5_copy 39 = .ok (.aload 6, 2) := by decide +kernel
theorem dX5_copy_41 : decode cX5_copy 41 = .ok (.invokevirtual 266, 3) := by decide +kernel
theorem dX5_copy_44 : decode cX5_copy 44 = .ok (.ifCond .ne 11, 3) := by decide +kernel
theorem dX5_copy_47 : decode cX5_copy 47 = .ok (.aload 7, 2) := by decide +kernel
theorem dX5_copy_49 : decode cX5_copy 49 = .ok (.invokevirtual 266, 3) := by decide +kernel
theorem dX5_copy_52 : decode cX5_copy 52 = .ok (.ifCond .eq 10, 3) := by decide +kernel
theorem dX5_copy_55 : decode cX5_copy 55 = .ok (.aload_n 0, 1) := by decide +kernel
theorem dX5_copy_56 : decode cX5_copy 56 = .ok (.ldc 251, 2) := by decide +kernel
theorem dX5_copy_58 : decode cX5_copy 58 = .ok (.invokevirtual 55, 3) := by decide +kernel
theorem dX5_copy_61 : decode cX5_copy 61 = .ok (.ireturn, 1) := by decide +kernel
theorem dX5_copy_62 : decode cX5_copy 62 = .ok (.aload 6, 2) := by decide +kernel
theorem dX5_copy_64 : decode cX5_copy 64 = .ok (.getfield 269, 3) := by decide +kernel
theorem dX5_copy_67 : decode cX5_copy 67 = .ok (.aload 7, 2) := by decide +kernel
theorem dX5_copy_69 : decode cX5_copy 69 = .ok (.getfield 269, 3) := by decide +kernel
theorem dX5_copy_72 : decode cX5_copy 72 = .ok (.if_icmp .eq 10, 3) := by decide +kernel
theorem dX5_copy_75 : decode cX5_copy 75 = .ok (.aload_n 0, 1) := by decide +kernel
theorem dX5_copy_76 : decode cX5_copy 76 = .ok (.ldc 255, 2) := by decide +kernel
theorem dX5_copy_78 : decode cX5_copy 78 = .ok (.invokevirtual 55, 3) := by decide +kernel
theorem dX5_copy_81 : decode cX5_copy 81 = .ok (.ireturn, 1) := by decide +kernel
theorem dX5_copy_82 : decode cX5_copy 82 = .ok (.aload 6, 2) := by decide +kernel
theorem dX5_copy_84 : decode cX5_copy 84 = .ok (.iload_n 2, 1) := by decide +kernel
theorem dX5_copy_85 : decode cX5_copy 85 = .ok (.iload 5, 2) := by decide +kernel
theorem dX5_copy_87 : decode cX5_copy 87 = .ok (.invokevirtual 272, 3) := by decide +kernel
theorem dX5_copy_90 : decode cX5_copy 90 = .ok (.ifCond .eq 15, 3) := by decide +kernel
theorem dX5_copy_93 : decode cX5_copy 93 = .ok (.aload 7, 2) := by decide +kernel
theorem dX5_copy_95 : decode cX5_copy 95 = .ok (.iload 4, 2) := by decide +kernel
theorem dX5_copy_97 : decode cX5_copy 97 = .ok (.iload 5, 2) := by decide +kernel
theorem dX5_copy_99 : decode cX5_copy 99 = .ok (.invokevirtual 272, 3) := by decide +kernel
theorem dX5_copy_102 : decode cX5_copy 102 = .ok (.ifCond .ne 10, 3) := by decide +kernel
theorem dX5_copy_105 : decode cX5_copy 105 = .ok (.aload_n 0, 1) := by decide +kernel
theorem dX5_copy_106 : decode cX5_copy 106 = .ok (.ldc 54, 2) := by decide +kernel
theorem dX5_copy_108 : decode cX5_copy 108 = .ok (.invokevirtual 55, 3) := by decide +kernel
theorem dX5_copy_111 : decode cX5_copy 111 = .ok (.ireturn, 1) := by decide +kernel
theorem dX5_copy_112 : decode cX5_copy 112 = .ok (.aload 6, 2) := by decide +kernel
theorem dX5_copy_114 : decode cX5_copy 114 = .ok (.getfield 275, 3) := by decide +kernel
theorem dX5_copy_117 : decode cX5_copy 117 = .ok (.iload_n 2, 1) := by decide +kernel
theorem dX5_copy_118 : decode cX5_copy 118 = .ok (.aload 7, 2) := by decide +kernel
theorem dX5_copy_120 : decode cX5_copy 120 = .ok (.getfield 275, 3) := by decide +kernel
theorem dX5_copy_123 : decode cX5_copy 123 = .ok (.iload 4, 2) := by decide +kernel
theorem dX5_copy_125 : decode cX5_copy 125 = .ok (.iload 5, 2) := by decide +kernel
theorem dX5_copy_127 : decode cX5_copy 127 = .ok (.invokestatic 278, 3) := by decide +kernel
theorem dX5_copy_130 : decode cX5_copy 130 = .ok (.iload 5, 2) := by decide +kernel
theorem dX5_copy_132 : decode cX5_copy 132 = .ok (.ireturn, 1) := by decide +kernel
theorem dX5_load_0 : decode cX5_load 0 = .ok (.aload_n 0, 1) := by decide +kernel
theorem dX5_load_1 : decode cX5_load 1 = .ok (.iload_n 1, 1) := by decide +kernel
theorem dX5_load_2 : decode cX5_load 2 = .ok (.invokevirtual 209, 3) := by decide +kernel
theorem dX5_load_5 : decode cX5_load 5 = .ok (.istore_n 2, 1) := by decide +kernel
theorem dX5_load_6 : decode cX5_load 6 = .ok (.iload_n 2, 1) := by decide +kernel
theorem dX5_load_7 : decode cX5_load 7 = .ok (.ifCond .eq 9, 3) := by decide +kernel
theorem dX5_load_10 : decode cX5_load 10 = .ok (.aload_n 0, 1) := by decide +kernel
theorem dX5_load_11 : decode cX5_load 11 = .ok (.iload_n 2, 1) := by decide +kernel
theorem dX5_load_12 : decode cX5_load 12 = .ok (.invokevirtual 55, 3) := by decide +kernel
theorem dX5_load_15 : decode cX5_load 15 = .ok (.ireturn, 1) := by decide +kernel
theorem dX5_load_16 : decode cX5_load 16 = .ok (.aload_n 0, 1) := by decide +kernel
theorem dX5_load_17 : decode cX5_load 17 = .ok (.getfield 32, 3) := by decide +kernel
theorem dX5_load_20 : decode cX5_load 20 = .ok (.iload_n 1, 1) := by decide +kernel
theorem dX5_load_21 : decode cX5_load 21 = .ok (.aaload, 1) := by decide +kernel
theorem dX5_load_22 : decode cX5_load 22 = .ok (.astore_n 3, 1) := by decide +kernel
theorem dX5_load_23 : decode cX5_load 23 = .ok (.iconst 0, 1) := by decide +kernel
theorem dX5_load_24 : decode cX5_load 24 = .ok (.istore 4, 2) := by decide +kernel
theorem dX5_load_26 : decode cX5_load 26 = .ok (.iload 4, 2) := by decide +kernel
theorem dX5_load_28 : decode cX5_load 28 = .ok (.aload_n 3, 1) := by decide +kernel
theorem dX5_load_29 : decode cX5_load 29 = .ok (.getfield 261, 3) := by decide +kernel
theorem dX5_load_32 : decode cX5_load 32 = .ok (.if_icmp .ge 51, 3) := by decide +kernel
theorem dX5_load_35 : decode cX5_load 35 = .ok (.iload 4, 2) := by decide +kernel
theorem dX5_load_37 : decode cX5_load 37 = .ok (.bipush 8, 2) := by decide +kernel
theorem dX5_load_39 : decode cX5_load 39 = .ok (.if_icmp .ge 44, 3) := by decide +kernel
theorem dX5_load_42 : decode cX5_load 42 = .ok (.aload_n 3, 1) := by decide +kernel
theorem dX5_load_43 : decode cX5_load 43 = .ok (.getfield 275, 3) := by decide +kernel
theorem dX5_load_46 : decode cX5_load 46 = .ok (.iload 4, 2) := by decide +kernel
theorem dX5_load_48 : decode cX5_load 48 = .ok (.iaload, 1) := by decide +kernel
theorem dX5_load_49 : decode cX5_load 49 = .ok (.bipush 99, 2) := by decide +kernel
theorem dX5_load_51 : decode cX5_load 51 = .ok (.invokestatic 50, 3) := by decide +kernel
theorem dX5_load_54 : decode cX5_load 54 = .ok (.ifCond .ne 29, 3) := by decide +kernel
theorem dX5_load_57 : decode cX5_load 57 = .ok (.aload_n 0, 1) := by decide +kernel
theorem dX5_load_58 : decode cX5_load 58 = .ok (.getfield 12, 3) := by decide +kernel
theorem dX5_load_61 : decode cX5_load 61 = .ok (.getfield 59, 3) := by decide +kernel
theorem dX5_load_64 : decode cX5_load 64 = .ok (.getfield 68, 3) := by decide +kernel
theorem dX5_load_67 : decode cX5_load 67 = .ok (.iload 4, 2) := by decide +kernel
theorem dX5_load_69 : decode cX5_load 69 = .ok (.aload_n 3, 1) := by decide +kernel
theorem dX5_load_70 : decode cX5_load 70 = .ok (.getfield 275, 3) := by decide +kernel
theorem dX5_load_73 : decode cX5_load 73 = .ok (.iload 4, 2) := by decide +kernel
theorem dX5_load_75 : decode cX5_load 75 = .ok (.iaload, 1) := by decide +kernel
theorem dX5_load_76 : decode cX5_load 76 = .ok (.iastore, 1) := by decide +kernel
theorem dX5_load_77 : decode cX5_load 77 = .ok (.iinc 4 1, 3) := by decide +kernel
theorem dX5_load_80 : decode cX5_load 80 = .ok (.goto (-54), 3) := by decide +kernel
theorem dX5_load_83 : decode cX5_load 83 = .ok (.iload 4, 2) := by decide +kernel
theorem dX5_load_85 : decode cX5_load 85 = .ok (.ireturn, 1) := by decide +kernel
theorem dX5_judge_0 : decode cX5_judge 0 = .ok (.aload_n 0, 1) := by decide +kernel
theorem dX5_judge_1 : decode cX5_judge 1 = .ok (.iload_n 1, 1) := by decide +kernel
theorem dX5_judge_2 : decode cX5_judge 2 = .ok (.invokevirtual 209, 3) := by decide +kernel
theorem dX5_judge_5 : decode cX5_judge 5 = .ok (.istore_n 2, 1) := by decide +kernel
theorem dX5_judge_6 : decode cX5_judge 6 = .ok (.iload_n 2, 1) := by decide +kernel
theorem dX5_judge_7 : decode cX5_judge 7 = .ok (.ifCond .eq 9, 3) := by decide +kernel
theorem dX5_judge_10 : decode cX5_judge 10 = .ok (.aload_n 0, 1) := by decide +kernel
theorem dX5_judge_11 : decode cX5_judge 11 = .ok (.iload_n 2, 1) := by decide +kernel
theorem dX5_judge_12 : decode cX5_judge 12 = .ok (.invokevirtual 55, 3) := by decide +kernel
theorem dX5_judge_15 : decode cX5_judge 15 = .ok (.ireturn, 1) := by decide +kernel
theorem dX5_judge_16 : decode cX5_judge 16 = .ok (.aload_n 0, 1) := by decide +kernel
theorem dX5_judge_17 : decode cX5_judge 17 = .ok (.getfield 32, 3) := by decide +kernel
theorem dX5_judge_20 : decode cX5_judge 20 = .ok (.iload_n 1, 1) := by decide +kernel
theorem dX5_judge_21 : decode cX5_judge 21 = .ok (.aaload, 1) := by decide +kernel
theorem dX5_judge_22 : decode cX5_judge 22 = .ok (.astore_n 3, 1) := by decide +kernel
theorem dX5_judge_23 : decode cX5_judge 23 = .ok (.iconst 0, 1) := by decide +kernel
theorem dX5_judge_24 : decode cX5_judge 24 = .ok (.istore 4, 2) := by decide +kernel
theorem dX5_judge_26 : decode cX5_judge 26 = .ok (.iload 4, 2) := by decide +kernel
theorem dX5_judge_28 : decode cX5_judge 28 = .ok (.aload_n 3, 1) := by decide +kernel
theorem dX5_judge_29 : decode cX5_judge 29 = .ok (.getfield 261, 3) := by decide +kernel
theorem dX5_judge_32 : decode cX5_judge 32 = .ok (.if_icmp .ge 44, 3) := by decide +kernel
theorem dX5_judge_35 : decode cX5_judge 35 = .ok (.iload 4, 2) := by decide +kernel
theorem dX5_judge_37 : decode cX5_judge 37 = .ok (.bipush 12, 2) := by decide +kernel
theorem dX5_judge_39 : decode cX5_judge 39 = .ok (.if_icmp .ge 26, 3) := by decide +kernel
theorem dX5_judge_42 : decode cX5_judge 42 = .ok (.aload_n 3, 1) := by decide +kernel
theorem dX5_judge_43 : decode cX5_judge 43 = .ok (.getfield 275, 3) := by decide +kernel
theorem dX5_judge_46 : decode cX5_judge 46 = .ok (.iload 4, 2) := by decide +kernel
theorem dX5_judge_48 : decode cX5_judge 48 = .ok (.iaload, 1) := by decide +kernel
theorem dX5_judge_49 : decode cX5_judge 49 = .ok (.aload_n 0, 1) := by decide +kernel
theorem dX5_judge_50 : decode cX5_judge 50 = .ok (.getfield 12, 3) := by decide +kernel
theorem dX5_judge_53 : decode cX5_judge 53 = .ok (.getfield 59, 3) := by decide +kernel
theorem dX5_judge_56 : decode cX5_judge 56 = .ok (.getfield 63, 3) := by decide +kernel
theorem dX5_judge_59 : decode cX5_judge 59 = .ok (.iload 4, 2) := by decide +kernel
theorem dX5_judge_61 : decode cX5_judge 61 = .ok (.iaload, 1) := by decide +kernel
theorem dX5_judge_62 : decode cX5_judge 62 = .ok (.if_icmp .eq 8, 3) := by decide +kernel
theorem dX5_judge_65 : decode cX5_judge 65 = .ok (.iconst 1, 1) := by decide +kernel
theorem dX5_judge_66 : decode cX5_judge 66 = .ok (.iload 4, 2) := by decide +kernel
theorem dX5_judge_68 : decode cX5_judge 68 = .ok (.iadd, 1) := by decide +kernel
theorem dX5_judge_69 : decode cX5_judge 69 = .ok (.ireturn, 1) := by decide +kernel
theorem dX5_judge_70 : decode cX5_judge 70 = .ok (.iinc 4 1, 3) := by decide +kernel
theorem dX5_judge_73 : decode cX5_judge 73 = .ok (.goto (-47), 3) := by decide +kernel
theorem dX5_judge_76 : decode cX5_judge 76 = .ok (.iconst 0, 1) := by decide +kernel
theorem dX5_judge_77 : decode cX5_judge 77 = .ok (.ireturn, 1) := by decide +kernel
theorem dX5_image_0 : decode cX5_image 0 = .ok (.aload_n 0, 1) := by decide +kernel
theorem dX5_image_1 : decode cX5_image 1 = .ok (.getfield 16, 3) := by decide +kernel
theorem dX5_image_4 : decode cX5_image 4 = .ok (.aload_n 0, 1) := by decide +kernel
theorem dX5_image_5 : decode cX5_image 5 = .ok (.getfield 12, 3) := by decide +kernel
theorem dX5_image_8 : decode cX5_image 8 = .ok (.invokevirtual 159, 3) := by decide +kernel
theorem dX5_image_11 : decode cX5_image 11 = .ok (.aload_n 0, 1) := by decide +kernel
theorem dX5_image_12 : decode cX5_image 12 = .ok (.iconst 1, 1) := by decide +kernel
theorem dX5_image_13 : decode cX5_image 13 = .ok (.putfield 46, 3) := by decide +kernel
theorem dX5_image_16 : decode cX5_image 16 = .ok (.iconst 1, 1) := by decide +kernel
theorem dX5_image_17 : decode cX5_image 17 = .ok (.ireturn, 1) := by decide +kernel
theorem dX5_undo_0 : decode cX5_undo 0 = .ok (.aload_n 0, 1) := by decide +kernel
theorem dX5_undo_1 : decode cX5_undo 1 = .ok (.getfield 46, 3) := by decide +kernel
theorem dX5_undo_4 : decode cX5_undo 4 = .ok (.ifCond .ne 10, 3) := by decide +kernel
theorem dX5_undo_7 : decode cX5_undo 7 = .ok (.aload_n 0, 1) := by decide +kernel
theorem dX5_undo_8 : decode cX5_undo 8 = .ok (.ldc 166, 2) := by decide +kernel
theorem dX5_undo_10 : decode cX5_undo 10 = .ok (.invokevirtual 55, 3) := by decide +kernel
theorem dX5_undo_13 : decode cX5_undo 13 = .ok (.ireturn, 1) := by decide +kernel
theorem dX5_undo_14 : decode cX5_undo 14 = .ok (.aload_n 0, 1) := by decide +kernel
theorem dX5_undo_15 : decode cX5_undo 15 = .ok (.getfield 12, 3) := by decide +kernel
theorem dX5_undo_18 : decode cX5_undo 18 = .ok (.aload_n 0, 1) := by decide +kernel
theorem dX5_undo_19 : decode cX5_undo 19 = .ok (.getfield 16, 3) := by decide +kernel
theorem dX5_undo_22 : decode cX5_undo 22 = .ok (.invokevirtual 159, 3) := by decide +kernel
theorem dX5_undo_25 : decode cX5_undo 25 = .ok (.aload_n 0, 1) := by decide +kernel
theorem dX5_undo_26 : decode cX5_undo 26 = .ok (.getfield 12, 3) := by decide +kernel
theorem dX5_undo_29 : decode cX5_undo 29 = .ok (.getfield 59, 3) := by decide +kernel
theorem dX5_undo_32 : decode cX5_undo 32 = .ok (.getfield 129, 3) := by decide +kernel
theorem dX5_undo_35 : decode cX5_undo 35 = .ok (.ireturn, 1) := by decide +kernel
theorem dX5_tear_0 : decode cX5_tear 0 = .ok (.aload_n 0, 1) := by decide +kernel
theorem dX5_tear_1 : decode cX5_tear 1 = .ok (.getfield 46, 3) := by decide +kernel
theorem dX5_tear_4 : decode cX5_tear 4 = .ok (.ifCond .eq 7, 3) := by decide +kernel
theorem dX5_tear_7 : decode cX5_tear 7 = .ok (.iconst 1, 1) := by decide +kernel
theorem dX5_tear_8 : decode cX5_tear 8 = .ok (.goto 4, 3) := by decide +kernel
theorem dX5_tear_11 : decode cX5_tear 11 = .ok (.iconst 0, 1) := by decide +kernel
theorem dX5_tear_12 : decode cX5_tear 12 = .ok (.istore_n 1, 1) := by decide +kernel
theorem dX5_tear_13 : decode cX5_tear 13 = .ok (.aload_n 0, 1) := by decide +kernel
theorem dX5_tear_14 : decode cX5_tear 14 = .ok (.iconst 0, 1) := by decide +kernel
theorem dX5_tear_15 : decode cX5_tear 15 = .ok (.putfield 46, 3) := by decide +kernel
theorem dX5_tear_18 : decode cX5_tear 18 = .ok (.iload_n 1, 1) := by decide +kernel
theorem dX5_tear_19 : decode cX5_tear 19 = .ok (.ireturn, 1) := by decide +kernel
theorem dX5_count_0 : decode cX5_count 0 = .ok (.iload_n 1, 1) := by decide +kernel
theorem dX5_count_1 : decode cX5_count 1 = .ok (.tableswitch 120 0 7 #[47, 58, 66, 77, 88, 96, 104, 112], 47) := by decide +kernel
theorem dX5_count_48 : decode cX5_count 48 = .ok (.aload_n 0, 1) := by decide +kernel
theorem dX5_count_49 : decode cX5_count 49 = .ok (.getfield 12, 3) := by decide +kernel
theorem dX5_count_52 : decode cX5_count 52 = .ok (.getfield 59, 3) := by decide +kernel
theorem dX5_count_55 : decode cX5_count 55 = .ok (.getfield 129, 3) := by decide +kernel
theorem dX5_count_58 : decode cX5_count 58 = .ok (.ireturn, 1) := by decide +kernel
theorem dX5_count_59 : decode cX5_count 59 = .ok (.aload_n 0, 1) := by decide +kernel
theorem dX5_count_60 : decode cX5_count 60 = .ok (.getfield 12, 3) := by decide +kernel
theorem dX5_count_63 : decode cX5_count 63 = .ok (.getfield 284, 3) := by decide +kernel
theorem dX5_count_66 : decode cX5_count 66 = .ok (.ireturn, 1) := by decide +kernel
theorem dX5_count_67 : decode cX5_count 67 = .ok (.aload_n 0, 1) := by decide +kernel
theorem dX5_count_68 : decode cX5_count 68 = .ok (.getfield 12, 3) := by decide +kernel
theorem dX5_count_71 : decode cX5_count 71 = .ok (.invokevirtual 137, 3) := by decide +kernel
theorem dX5_count_74 : decode cX5_count 74 = .ok (.invokestatic 183, 3) := by decide +kernel
theorem dX5_count_77 : decode cX5_count 77 = .ok (.ireturn, 1) := by decide +kernel
theorem dX5_count_78 : decode cX5_count 78 = .ok (.aload_n 0, 1) := by decide +kernel
theorem dX5_count_79 : decode cX5_count 79 = .ok (.getfield 12, 3) := by decide +kernel
theorem dX5_count_82 : decode cX5_count 82 = .ok (.getfield 59, 3) := by decide +kernel
theorem dX5_count_85 : decode cX5_count 85 = .ok (.invokevirtual 140, 3) := by decide +kernel
theorem dX5_count_88 : decode cX5_count 88 = .ok (.ireturn, 1) := by decide +kernel
theorem dX5_count_89 : decode cX5_count 89 = .ok (.aload_n 0, 1) := by decide +kernel
theorem dX5_count_90 : decode cX5_count 90 = .ok (.getfield 12, 3) := by decide +kernel
theorem dX5_count_93 : decode cX5_count 93 = .ok (.invokevirtual 149, 3) := by decide +kernel
theorem dX5_count_96 : decode cX5_count 96 = .ok (.ireturn, 1) := by decide +kernel
theorem dX5_count_97 : decode cX5_count 97 = .ok (.aload_n 0, 1) := by decide +kernel
theorem dX5_count_98 : decode cX5_count 98 = .ok (.getfield 39, 3) := by decide +kernel
theorem dX5_count_101 : decode cX5_count 101 = .ok (.getfield 232, 3) := by decide +kernel
theorem dX5_count_104 : decode cX5_count 104 = .ok (.ireturn, 1) := by decide +kernel
theorem dX5_count_105 : decode cX5_count 105 = .ok (.aload_n 0, 1) := by decide +kernel
theorem dX5_count_106 : decode cX5_count 106 = .ok (.getfield 12, 3) := by decide +kernel
theorem dX5_count_109 : decode cX5_count 109 = .ok (.getfield 229, 3) := by decide +kernel
theorem dX5_count_112 : decode cX5_count 112 = .ok (.ireturn, 1) := by decide +kernel
theorem dX5_count_113 : decode cX5_count 113 = .ok (.aload_n 0, 1) := by decide +kernel
theorem dX5_count_114 : decode cX5_count 114 = .ok (.getfield 12, 3) := by decide +kernel
theorem dX5_count_117 : decode cX5_count 117 = .ok (.invokevirtual 287, 3) := by decide +kernel
theorem dX5_count_120 : decode cX5_count 120 = .ok (.ireturn, 1) := by decide +kernel
theorem dX5_count_121 : decode cX5_count 121 = .ok (.aload_n 0, 1) := by decide +kernel
theorem dX5_count_122 : decode cX5_count 122 = .ok (.ldc 54, 2) := by decide +kernel
theorem dX5_count_124 : decode cX5_count 124 = .ok (.invokevirtual 55, 3) := by decide +kernel
theorem dX5_count_127 : decode cX5_count 127 = .ok (.ireturn, 1) := by decide +kernel
theorem dX5_status_0 : decode cX5_status 0 = .ok (.iload_n 1, 1) := by decide +kernel
theorem dX5_status_1 : decode cX5_status 1 = .ok (.iconst (-1), 1) := by decide +kernel
theorem dX5_status_2 : decode cX5_status 2 = .ok (.if_icmp .ne 11, 3) := by decide +kernel
theorem dX5_status_5 : decode cX5_status 5 = .ok (.aload_n 0, 1) := by decide +kernel
theorem dX5_status_6 : decode cX5_status 6 = .ok (.getfield 43, 3) := by decide +kernel
theorem dX5_status_9 : decode cX5_status 9 = .ok (.invokestatic 290, 3) := by decide +kernel
theorem dX5_status_12 : decode cX5_status 12 = .ok (.ireturn, 1) := by decide +kernel
theorem dX5_status_13 : decode cX5_status 13 = .ok (.iload_n 1, 1) := by decide +kernel
theorem dX5_status_14 : decode cX5_status 14 = .ok (.bipush 6, 2) := by decide +kernel
theorem dX5_status_16 : decode cX5_status 16 = .ok (.invokestatic 50, 3) := by decide +kernel
theorem dX5_status_19 : decode cX5_status 19 = .ok (.ifCond .eq 10, 3) := by decide +kernel
theorem dX5_status_22 : decode cX5_status 22 = .ok (.aload_n 0, 1) := by decide +kernel
theorem dX5_status_23 : decode cX5_status 23 = .ok (.ldc 54, 2) := by decide +kernel
theorem dX5_status_25 : decode cX5_status 25 = .ok (.invokevirtual 55, 3) := by decide +kernel
theorem dX5_status_28 : decode cX5_status 28 = .ok (.ireturn, 1) := by decide +kernel
theorem dX5_status_29 : decode cX5_status 29 = .ok (.aload_n 0, 1) := by decide +kernel
theorem dX5_status_30 : decode cX5_status 30 = .ok (.getfield 43, 3) := by decide +kernel
theorem dX5_status_33 : decode cX5_status 33 = .ok (.iload_n 1, 1) := by decide +kernel
theorem dX5_status_34 : decode cX5_status 34 = .ok (.iaload, 1) := by decide +kernel
theorem dX5_status_35 : decode cX5_status 35 = .ok (.ireturn, 1) := by decide +kernel
theorem dX5_outside_0 : decode cX5_outside 0 = .ok (.iload_n 0, 1) := by decide +kernel
theorem dX5_outside_1 : decode cX5_outside 1 = .ok (.ifCond .lt 8, 3) := by decide +kernel
theorem dX5_outside_4 : decode cX5_outside 4 = .ok (.iload_n 0, 1) := by decide +kernel
theorem dX5_outside_5 : decode cX5_outside 5 = .ok (.iload_n 1, 1) := by decide +kernel
theorem dX5_outside_6 : decode cX5_outside 6 = .ok (.if_icmp .le 7, 3) := by decide +kernel
theorem dX5_outside_9 : decode cX5_outside 9 = .ok (.iconst 1, 1) := by decide +kernel
theorem dX5_outside_10 : decode cX5_outside 10 = .ok (.goto 4, 3) := by decide +kernel
theorem dX5_outside_13 : decode cX5_outside 13 = .ok (.iconst 0, 1) := by decide +kernel
theorem dX5_outside_14 : decode cX5_outside 14 = .ok (.ireturn, 1) := by decide +kernel
theorem dX5_together_0 : decode cX5_together 0 = .ok (.iconst 0, 1) := by decide +kernel
theorem dX5_together_1 : decode cX5_together 1 = .ok (.istore_n 1, 1) := by decide +kernel
theorem dX5_together_2 : decode cX5_together 2 = .ok (.iconst 0, 1) := by decide +kernel
theorem dX5_together_3 : decode cX5_together 3 = .ok (.istore_n 2, 1) := by decide +kernel
theorem dX5_together_4 : decode cX5_together 4 = .ok (.iload_n 2, 1) := by decide +kernel
theorem dX5_together_5 : decode cX5_together 5 = .ok (.aload_n 0, 1) := by decide +kernel
theorem dX5_together_6 : decode cX5_together 6 = .ok (.arraylength, 1) := by decide +kernel
theorem dX5_together_7 : decode cX5_together 7 = .ok (.if_icmp .ge 15, 3) := by decide +kernel
theorem dX5_together_10 : decode cX5_together 10 = .ok (.iload_n 1, 1) := by decide +kernel
theorem dX5_together_11 : decode cX5_together 11 = .ok (.aload_n 0, 1) := by decide +kernel
theorem dX5_together_12 : decode cX5_together 12 = .ok (.iload_n 2, 1) := by decide +kernel
theorem dX5_together_13 : decode cX5_together 13 = .ok (.iaload, 1) := by decide +kernel
theorem dX5_together_14 : decode cX5_together 14 = .ok (.iadd, 1) := by decide +kernel
theorem dX5_together_15 : decode cX5_together 15 = .ok (.istore_n 1, 1) := by decide +kernel
theorem dX5_together_16 : decode cX5_together 16 = .ok (.iinc 2 1, 3) := by decide +kernel
theorem dX5_together_19 : decode cX5_together 19 = .ok (.goto (-15), 3) := by decide +kernel
theorem dX5_together_22 : decode cX5_together 22 = .ok (.iload_n 1, 1) := by decide +kernel
theorem dX5_together_23 : decode cX5_together 23 = .ok (.ireturn, 1) := by decide +kernel
theorem dX5_finding_0 : decode cX5_finding 0 = .ok (.ldc 54, 2) := by decide +kernel
theorem dX5_finding_2 : decode cX5_finding 2 = .ok (.iload_n 1, 1) := by decide +kernel
theorem dX5_finding_3 : decode cX5_finding 3 = .ok (.isub, 1) := by decide +kernel
theorem dX5_finding_4 : decode cX5_finding 4 = .ok (.istore_n 2, 1) := by decide +kernel
theorem dX5_finding_5 : decode cX5_finding 5 = .ok (.iload_n 2, 1) := by decide +kernel
theorem dX5_finding_6 : decode cX5_finding 6 = .ok (.ifCond .lt 19, 3) := by decide +kernel
theorem dX5_finding_9 : decode cX5_finding 9 = .ok (.iload_n 2, 1) := by decide +kernel
theorem dX5_finding_10 : decode cX5_finding 10 = .ok (.bipush 7, 2) := by decide +kernel
theorem dX5_finding_12 : decode cX5_finding 12 = .ok (.if_icmp .ge 13, 3) := by decide +kernel
theorem dX5_finding_15 : decode cX5_finding 15 = .ok (.aload_n 0, 1) := by decide +kernel
theorem dX5_finding_16 : decode cX5_finding 16 = .ok (.getfield 43, 3) := by decide +kernel
theorem dX5_finding_19 : decode cX5_finding 19 = .ok (.iload_n 2, 1) := by decide +kernel
theorem dX5_finding_20 : decode cX5_finding 20 = .ok (.dup2, 1) := by decide +kernel
theorem dX5_finding_21 : decode cX5_finding 21 = .ok (.iaload, 1) := by decide +kernel
theorem dX5_finding_22 : decode cX5_finding 22 = .ok (.iconst 1, 1) := by decide +kernel
theorem dX5_finding_23 : decode cX5_finding 23 = .ok (.iadd, 1) := by decide +kernel
theorem dX5_finding_24 : decode cX5_finding 24 = .ok (.iastore, 1) := by decide +kernel
theorem dX5_finding_25 : decode cX5_finding 25 = .ok (.iload_n 1, 1) := by decide +kernel
theorem dX5_finding_26 : decode cX5_finding 26 = .ok (.ireturn, 1) := by decide +kernel
theorem dX5_noWatcher_0 : decode cX5_noWatcher 0 = .ok (.iload_n 1, 1) := by decide +kernel
theorem dX5_noWatcher_1 : decode cX5_noWatcher 1 = .ok (.aload_n 0, 1) := by decide +kernel
theorem dX5_noWatcher_2 : decode cX5_noWatcher 2 = .ok (.getfield 12, 3) := by decide +kernel
theorem dX5_noWatcher_5 : decode cX5_noWatcher 5 = .ok (.getfield 284, 3) := by decide +kernel
theorem dX5_noWatcher_8 : decode cX5_noWatcher 8 = .ok (.iconst 1, 1) := by decide +kernel
theorem dX5_noWatcher_9 : decode cX5_noWatcher 9 = .ok (.isub, 1) := by decide +kernel
theorem dX5_noWatcher_10 : decode cX5_noWatcher 10 = .ok (.invokestatic 50, 3) := by decide +kernel
theorem dX5_noWatcher_13 : decode cX5_noWatcher 13 = .ok (.ireturn, 1) := by decide +kernel
theorem dX5_noTrial_0 : decode cX5_noTrial 0 = .ok (.aload_n 0, 1) := by decide +kernel
theorem dX5_noTrial_1 : decode cX5_noTrial 1 = .ok (.iload_n 1, 1) := by decide +kernel
theorem dX5_noTrial_2 : decode cX5_noTrial 2 = .ok (.invokevirtual 88, 3) := by decide +kernel
theorem dX5_noTrial_5 : decode cX5_noTrial 5 = .ok (.ifCond .ne 12, 3) := by decide +kernel
theorem dX5_noTrial_8 : decode cX5_noTrial 8 = .ok (.iload_n 2, 1) := by decide +kernel
theorem dX5_noTrial_9 : decode cX5_noTrial 9 = .ok (.bipush 60, 2) := by decide +kernel
theorem dX5_noTrial_11 : decode cX5_noTrial 11 = .ok (.invokestatic 50, 3) := by decide +kernel
theorem dX5_noTrial_14 : decode cX5_noTrial 14 = .ok (.ifCond .eq 7, 3) := by decide +kernel
theorem dX5_noTrial_17 : decode cX5_noTrial 17 = .ok (.iconst 1, 1) := by decide +kernel
theorem dX5_noTrial_18 : decode cX5_noTrial 18 = .ok (.goto 4, 3) := by decide +kernel
theorem dX5_noTrial_21 : decode cX5_noTrial 21 = .ok (.iconst 0, 1) := by decide +kernel
theorem dX5_noTrial_22 : decode cX5_noTrial 22 = .ok (.ireturn, 1) := by decide +kernel
theorem dX5_mostOf_0 : decode cX5_mostOf 0 = .ok (.iload_n 0, 1) := by decide +kernel
theorem dX5_mostOf_1 : decode cX5_mostOf 1 = .ok (.tableswitch 52 0 4 #[35, 38, 41, 45, 48], 35) := by decide +kernel
theorem dX5_mostOf_36 : decode cX5_mostOf 36 = .ok (.bipush 6, 2) := by decide +kernel
theorem dX5_mostOf_38 : decode cX5_mostOf 38 = .ok (.ireturn, 1) := by decide +kernel
theorem dX5_mostOf_39 : decode cX5_mostOf 39 = .ok (.bipush 11, 2) := by decide +kernel
theorem dX5_mostOf_41 : decode cX5_mostOf 41 = .ok (.ireturn, 1) := by decide +kernel
theorem dX5_mostOf_42 : decode cX5_mostOf 42 = .ok (.sipush 999, 3) := by decide +kernel
theorem dX5_mostOf_45 : decode cX5_mostOf 45 = .ok (.ireturn, 1) := by decide +kernel
theorem dX5_mostOf_46 : decode cX5_mostOf 46 = .ok (.bipush 99, 2) := by decide +kernel
theorem dX5_mostOf_48 : decode cX5_mostOf 48 = .ok (.ireturn, 1) := by decide +kernel
theorem dX5_mostOf_49 : decode cX5_mostOf 49 = .ok (.sipush 9999, 3) := by decide +kernel
theorem dX5_mostOf_52 : decode cX5_mostOf 52 = .ok (.ireturn, 1) := by decide +kernel
theorem dX5_mostOf_53 : decode cX5_mostOf 53 = .ok (.iconst (-1), 1) := by decide +kernel
theorem dX5_mostOf_54 : decode cX5_mostOf 54 = .ok (.ireturn, 1) := by decide +kernel
theorem dX5_waterTried_0 : decode cX5_waterTried 0 = .ok (.aload_n 0, 1) := by decide +kernel
theorem dX5_waterTried_1 : decode cX5_waterTried 1 = .ok (.getfield 19, 3) := by decide +kernel
theorem dX5_waterTried_4 : decode cX5_waterTried 4 = .ok (.getfield 59, 3) := by decide +kernel
theorem dX5_waterTried_7 : decode cX5_waterTried 7 = .ok (.aload_n 0, 1) := by decide +kernel
theorem dX5_waterTried_8 : decode cX5_waterTried 8 = .ok (.getfield 12, 3) := by decide +kernel
theorem dX5_waterTried_11 : decode cX5_waterTried 11 = .ok (.getfield 59, 3) := by decide +kernel
theorem dX5_waterTried_14 : decode cX5_waterTried 14 = .ok (.invokevirtual 294, 3) := by decide +kernel
theorem dX5_waterTried_17 : decode cX5_waterTried 17 = .ok (.aload_n 0, 1) := by decide +kernel
theorem dX5_waterTried_18 : decode cX5_waterTried 18 = .ok (.getfield 19, 3) := by decide +kernel
theorem dX5_waterTried_21 : decode cX5_waterTried 21 = .ok (.getfield 59, 3) := by decide +kernel
theorem dX5_waterTried_24 : decode cX5_waterTried 24 = .ok (.areturn, 1) := by decide +kernel
theorem dX5_isEnough_0 : decode cX5_isEnough 0 = .ok (.aload_n 0, 1) := by decide +kernel
theorem dX5_isEnough_1 : decode cX5_isEnough 1 = .ok (.getfield 19, 3) := by decide +kernel
theorem dX5_isEnough_4 : decode cX5_isEnough 4 = .ok (.aload_n 0, 1) := by decide +kernel
theorem dX5_isEnough_5 : decode cX5_isEnough 5 = .ok (.getfield 12, 3) := by decide +kernel
theorem dX5_isEnough_8 : decode cX5_isEnough 8 = .ok (.invokevirtual 159, 3) := by decide +kernel
theorem dX5_isEnough_11 : decode cX5_isEnough 11 = .ok (.aload_n 0, 1) := by decide +kernel
theorem dX5_isEnough_12 : decode cX5_isEnough 12 = .ok (.getfield 19, 3) := by decide +kernel
theorem dX5_isEnough_15 : decode cX5_isEnough 15 = .ok (.getfield 59, 3) := by decide +kernel
theorem dX5_isEnough_18 : decode cX5_isEnough 18 = .ok (.iload_n 1, 1) := by decide +kernel
theorem dX5_isEnough_19 : decode cX5_isEnough 19 = .ok (.invokevirtual 75, 3) := by decide +kernel
theorem dX5_isEnough_22 : decode cX5_isEnough 22 = .ok (.aload_n 0, 1) := by decide +kernel
theorem dX5_isEnough_23 : decode cX5_isEnough 23 = .ok (.getfield 19, 3) := by decide +kernel
theorem dX5_isEnough_26 : decode cX5_isEnough 26 = .ok (.getfield 59, 3) := by decide +kernel
theorem dX5_isEnough_29 : decode cX5_isEnough 29 = .ok (.iload_n 2, 1) := by decide +kernel
theorem dX5_isEnough_30 : decode cX5_isEnough 30 = .ok (.invokevirtual 156, 3) := by decide +kernel
theorem dX5_isEnough_33 : decode cX5_isEnough 33 = .ok (.aload_n 0, 1) := by decide +kernel
theorem dX5_isEnough_34 : decode cX5_isEnough 34 = .ok (.getfield 19, 3) := by decide +kernel
theorem dX5_isEnough_37 : decode cX5_isEnough 37 = .ok (.invokevirtual 146, 3) := by decide +kernel
theorem dX5_isEnough_40 : decode cX5_isEnough 40 = .ok (.ifCond .ne 7, 3) := by decide +kernel
theorem dX5_isEnough_43 : decode cX5_isEnough 43 = .ok (.iconst 1, 1) := by decide +kernel
theorem dX5_isEnough_44 : decode cX5_isEnough 44 = .ok (.goto 4, 3) := by decide +kernel
theorem dX5_isEnough_47 : decode cX5_isEnough 47 = .ok (.iconst 0, 1) := by decide +kernel
theorem dX5_isEnough_48 : decode cX5_isEnough 48 = .ok (.ireturn, 1) := by decide +kernel
theorem dX5_mostBelieving_0 : decode cX5_mostBelieving 0 = .ok (.iconst 0, 1) := by decide +kernel
theorem dX5_mostBelieving_1 : decode cX5_mostBelieving 1 = .ok (.istore 4, 2) := by decide +kernel
theorem dX5_mostBelieving_3 : decode cX5_mostBelieving 3 = .ok (.iconst (-1), 1) := by decide +kernel
theorem dX5_mostBelieving_4 : decode cX5_mostBelieving 4 = .ok (.istore 5, 2) := by decide +kernel
theorem dX5_mostBelieving_6 : decode cX5_mostBelieving 6 = .ok (.iconst 0, 1) := by decide +kernel
theorem dX5_mostBelieving_7 : decode cX5_mostBelieving 7 = .ok (.istore 6, 2) := by decide +kernel
theorem dX5_mostBelieving_9 : decode cX5_mostBelieving 9 = .ok (.iload 6, 2) := by decide +kernel
theorem dX5_mostBelieving_11 : decode cX5_mostBelieving 11 = .ok (.iload_n 2, 1) := by decide +kernel
theorem dX5_mostBelieving_12 : decode cX5_mostBelieving 12 = .ok (.invokestatic 123, 3) := by decide +kernel
theorem dX5_mostBelieving_15 : decode cX5_mostBelieving 15 = .ok (.if_icmp .gt 73, 3) := by decide +kernel
theorem dX5_mostBelieving_18 : decode cX5_mostBelieving 18 = .ok (.aload_n 0, 1) := by decide +kernel
theorem dX5_mostBelieving_19 : decode cX5_mostBelieving 19 = .ok (.getfield 19, 3) := by decide +kernel
theorem dX5_mostBelieving_22 : decode cX5_mostBelieving 22 = .ok (.aload_n 0, 1) := by decide +kernel
theorem dX5_mostBelieving_23 : decode cX5_mostBelieving 23 = .ok (.getfield 12, 3) := by decide +kernel
theorem dX5_mostBelieving_26 : decode cX5_mostBelieving 26 = .ok (.invokevirtual 159, 3) := by decide +kernel
theorem dX5_mostBelieving_29 : decode cX5_mostBelieving 29 = .ok (.aload_n 0, 1) := by decide +kernel
theorem dX5_mostBelieving_30 : decode cX5_mostBelieving 30 = .ok (.getfield 19, 3) := by decide +kernel
theorem dX5_mostBelieving_33 : decode cX5_mostBelieving 33 = .ok (.getfield 92, 3) := by decide +kernel
theorem dX5_mostBelieving_36 : decode cX5_mostBelieving 36 = .ok (.iload_n 1, 1) := by decide +kernel
theorem dX5_mostBelieving_37 : decode cX5_mostBelieving 37 = .ok (.aaload, 1) := by decide +kernel
theorem dX5_mostBelieving_38 : decode cX5_mostBelieving 38 = .ok (.iload_n 2, 1) := by decide +kernel
theorem dX5_mostBelieving_39 : decode cX5_mostBelieving 39 = .ok (.iload 6, 2) := by decide +kernel
theorem dX5_mostBelieving_41 : decode cX5_mostBelieving 41 = .ok (.invokevirtual 126, 3) := by decide +kernel
theorem dX5_mostBelieving_44 : decode cX5_mostBelieving 44 = .ok (.pop, 1) := by decide +kernel
theorem dX5_mostBelieving_45 : decode cX5_mostBelieving 45 = .ok (.aload_n 0, 1) := by decide +kernel
theorem dX5_mostBelieving_46 : decode cX5_mostBelieving 46 = .ok (.getfield 19, 3) := by decide +kernel
theorem dX5_mostBelieving_49 : decode cX5_mostBelieving 49 = .ok (.iload_n 3, 1) := by decide +kernel
theorem dX5_mostBelieving_50 : decode cX5_mostBelieving 50 = .ok (.invokevirtual 134, 3) := by decide +kernel
theorem dX5_mostBelieving_53 : decode cX5_mostBelieving 53 = .ok (.aload_n 0, 1) := by decide +kernel
theorem dX5_mostBelieving_54 : decode cX5_mostBelieving 54 = .ok (.getfield 19, 3) := by decide +kernel
theorem dX5_mostBelieving_57 : decode cX5_mostBelieving 57 = .ok (.getfield 92, 3) := by decide +kernel
theorem dX5_mostBelieving_60 : decode cX5_mostBelieving 60 = .ok (.iload_n 1, 1) := by decide +kernel
theorem dX5_mostBelieving_61 : decode cX5_mostBelieving 61 = .ok (.aaload, 1) := by decide +kernel
theorem dX5_mostBelieving_62 : decode cX5_mostBelieving 62 = .ok (.getfield 108, 3) := by decide +kernel
theorem dX5_mostBelieving_65 : decode cX5_mostBelieving 65 = .ok (.istore 7, 2) := by decide +kernel
theorem dX5_mostBelieving_67 : decode cX5_mostBelieving 67 = .ok (.iload 7, 2) := by decide +kernel
theorem dX5_mostBelieving_69 : decode cX5_mostBelieving 69 = .ok (.iload 5, 2) := by decide +kernel
theorem dX5_mostBelieving_71 : decode cX5_mostBelieving 71 = .ok (.if_icmp .le 11, 3) := by decide +kernel
theorem dX5_mostBelieving_74 : decode cX5_mostBelieving 74 = .ok (.iload 7, 2) := by decide +kernel
theorem dX5_mostBelieving_76 : decode cX5_mostBelieving 76 = .ok (.istore 5, 2) := by decide +kernel
theorem dX5_mostBelieving_78 : decode cX5_mostBelieving 78 = .ok (.iload 6, 2) := by decide +kernel
theorem dX5_mostBelieving_80 : decode cX5_mostBelieving 80 = .ok (.istore 4, 2) := by decide +kernel
theorem dX5_mostBelieving_82 : decode cX5_mostBelieving 82 = .ok (.iinc 6 1, 3) := by decide +kernel
theorem dX5_mostBelieving_85 : decode cX5_mostBelieving 85 = .ok (.goto (-76), 3) := by decide +kernel
theorem dX5_mostBelieving_88 : decode cX5_mostBelieving 88 = .ok (.iload 4, 2) := by decide +kernel
theorem dX5_mostBelieving_90 : decode cX5_mostBelieving 90 = .ok (.ireturn, 1) := by decide +kernel
theorem dX5_stir_0 : decode cX5_stir 0 = .ok (.iconst 0, 1) := by decide +kernel
theorem dX5_stir_1 : decode cX5_stir 1 = .ok (.istore_n 2, 1) := by decide +kernel
theorem dX5_stir_2 : decode cX5_stir 2 = .ok (.iload_n 2, 1) := by decide +kernel
theorem dX5_stir_3 : decode cX5_stir 3 = .ok (.bipush 12, 2) := by decide +kernel
theorem dX5_stir_5 : decode cX5_stir 5 = .ok (.if_icmp .ge 16, 3) := by decide +kernel
theorem dX5_stir_8 : decode cX5_stir 8 = .ok (.aload_n 0, 1) := by decide +kernel
theorem dX5_stir_9 : decode cX5_stir 9 = .ok (.getfield 25, 3) := by decide +kernel
theorem dX5_stir_12 : decode cX5_stir 12 = .ok (.iload_n 2, 1) := by decide +kernel
theorem dX5_stir_13 : decode cX5_stir 13 = .ok (.iconst 0, 1) := by decide +kernel
theorem dX5_stir_14 : decode cX5_stir 14 = .ok (.iastore, 1) := by decide +kernel
theorem dX5_stir_15 : decode cX5_stir 15 = .ok (.iinc 2 1, 3) := by decide +kernel
theorem dX5_stir_18 : decode cX5_stir 18 = .ok (.goto (-16), 3) := by decide +kernel
theorem dX5_stir_21 : decode cX5_stir 21 = .ok (.aload_n 0, 1) := by decide +kernel
theorem dX5_stir_22 : decode cX5_stir 22 = .ok (.invokevirtual 152, 3) := by decide +kernel
theorem dX5_stir_25 : decode cX5_stir 25 = .ok (.astore_n 2, 1) := by decide +kernel
theorem dX5_stir_26 : decode cX5_stir 26 = .ok (.iconst 1, 1) := by decide +kernel
theorem dX5_stir_27 : decode cX5_stir 27 = .ok (.istore_n 3, 1) := by decide +kernel
theorem dX5_stir_28 : decode cX5_stir 28 = .ok (.iload_n 3, 1) := by decide +kernel
theorem dX5_stir_29 : decode cX5_stir 29 = .ok (.iload_n 1, 1) := by decide +kernel
theorem dX5_stir_30 : decode cX5_stir 30 = .ok (.if_icmp .gt 58, 3) := by decide +kernel
theorem dX5_stir_33 : decode cX5_stir 33 = .ok (.aload_n 2, 1) := by decide +kernel
theorem dX5_stir_34 : decode cX5_stir 34 = .ok (.iconst 1, 1) := by decide +kernel
theorem dX5_stir_35 : decode cX5_stir 35 = .ok (.invokevirtual 156, 3) := by decide +kernel
theorem dX5_stir_38 : decode cX5_stir 38 = .ok (.iconst 0, 1) := by decide +kernel
theorem dX5_stir_39 : decode cX5_stir 39 = .ok (.istore 4, 2) := by decide +kernel
theorem dX5_stir_41 : decode cX5_stir 41 = .ok (.iload 4, 2) := by decide +kernel
theorem dX5_stir_43 : decode cX5_stir 43 = .ok (.bipush 12, 2) := by decide +kernel
theorem dX5_stir_45 : decode cX5_stir 45 = .ok (.if_icmp .ge 37, 3) := by decide +kernel
theorem dX5_stir_48 : decode cX5_stir 48 = .ok (.aload_n 0, 1) := by decide +kernel
theorem dX5_stir_49 : decode cX5_stir 49 = .ok (.getfield 25, 3) := by decide +kernel
theorem dX5_stir_52 : decode cX5_stir 52 = .ok (.iload 4, 2) := by decide +kernel
theorem dX5_stir_54 : decode cX5_stir 54 = .ok (.dup2, 1) := by decide +kernel
theorem dX5_stir_55 : decode cX5_stir 55 = .ok (.iaload, 1) := by decide +kernel
theorem dX5_stir_56 : decode cX5_stir 56 = .ok (.aload_n 2, 1) := by decide +kernel
theorem dX5_stir_57 : decode cX5_stir 57 = .ok (.getfield 63, 3) := by decide +kernel
theorem dX5_stir_60 : decode cX5_stir 60 = .ok (.iload 4, 2) := by decide +kernel
theorem dX5_stir_62 : decode cX5_stir 62 = .ok (.iaload, 1) := by decide +kernel
theorem dX5_stir_63 : decode cX5_stir 63 = .ok (.aload_n 2, 1) := by decide +kernel
theorem dX5_stir_64 : decode cX5_stir 64 = .ok (.getfield 297, 3) := by decide +kernel
theorem dX5_stir_67 : decode cX5_stir 67 = .ok (.iload 4, 2) := by decide +kernel
theorem dX5_stir_69 : decode cX5_stir 69 = .ok (.iaload, 1) := by decide +kernel
theorem dX5_stir_70 : decode cX5_stir 70 = .ok (.isub, 1) := by decide +kernel
theorem dX5_stir_71 : decode cX5_stir 71 = .ok (.invokestatic 300, 3) := by decide +kernel
theorem dX5_stir_74 : decode cX5_stir 74 = .ok (.iadd, 1) := by decide +kernel
theorem dX5_stir_75 : decode cX5_stir 75 = .ok (.iastore, 1) := by decide +kernel
theorem dX5_stir_76 : decode cX5_stir 76 = .ok (.iinc 4 1, 3) := by decide +kernel
theorem dX5_stir_79 : decode cX5_stir 79 = .ok (.goto (-38), 3) := by decide +kernel
theorem dX5_stir_82 : decode cX5_stir 82 = .ok (.iinc 3 1, 3) := by decide +kernel
theorem dX5_stir_85 : decode cX5_stir 85 = .ok (.goto (-57), 3) := by decide +kernel
theorem dX5_stir_88 : decode cX5_stir 88 = .ok (.return_, 1) := by decide +kernel
theorem dX5_sheetTrouble_0 : decode cX5_sheetTrouble 0 = .ok (.iload_n 1, 1) := by decide +kernel
theorem dX5_sheetTrouble_1 : decode cX5_sheetTrouble 1 = .ok (.iconst 3, 1) := by decide +kernel
theorem dX5_sheetTrouble_2 : decode cX5_sheetTrouble 2 = .ok (.invokestatic 50, 3) := by decide +kernel
theorem dX5_sheetTrouble_5 : decode cX5_sheetTrouble 5 = .ok (.ifCond .eq 6, 3) := by decide +kernel
theorem dX5_sheetTrouble_8 : decode cX5_sheetTrouble 8 = .ok (.ldc 54, 2) := by decide +kernel
theorem dX5_sheetTrouble_10 : decode cX5_sheetTrouble 10 = .ok (.ireturn, 1) := by decide +kernel
theorem dX5_sheetTrouble_11 : decode cX5_sheetTrouble 11 = .ok (.aload_n 0, 1) := by decide +kernel
theorem dX5_sheetTrouble_12 : decode cX5_sheetTrouble 12 = .ok (.getfield 32, 3) := by decide +kernel
theorem dX5_sheetTrouble_15 : decode cX5_sheetTrouble 15 = .ok (.iload_n 1, 1) := by decide +kernel
theorem dX5_sheetTrouble_16 : decode cX5_sheetTrouble 16 = .ok (.aaload, 1) := by decide +kernel
theorem dX5_sheetTrouble_17 : decode cX5_sheetTrouble 17 = .ok (.invokevirtual 266, 3) := by decide +kernel
theorem dX5_sheetTrouble_20 : decode cX5_sheetTrouble 20 = .ok (.ifCond .eq 8, 3) := by decide +kernel
theorem dX5_sheetTrouble_23 : decode cX5_sheetTrouble 23 = .ok (.ldc 251, 2) := by decide +kernel
theorem dX5_sheetTrouble_25 : decode cX5_sheetTrouble 25 = .ok (.goto 4, 3) := by decide +kernel
theorem dX5_sheetTrouble_28 : decode cX5_sheetTrouble 28 = .ok (.iconst 0, 1) := by decide +kernel
theorem dX5_sheetTrouble_29 : decode cX5_sheetTrouble 29 = .ok (.ireturn, 1) := by decide +kernel
theorem dX5_fittingTrouble_0 : decode cX5_fittingTrouble 0 = .ok (.aload_n 0, 1) := by decide +kernel
theorem dX5_fittingTrouble_1 : decode cX5_fittingTrouble 1 = .ok (.iload_n 1, 1) := by decide +kernel
theorem dX5_fittingTrouble_2 : decode cX5_fittingTrouble 2 = .ok (.invokevirtual 209, 3) := by decide +kernel
theorem dX5_fittingTrouble_5 : decode cX5_fittingTrouble 5 = .ok (.istore 4, 2) := by decide +kernel
theorem dX5_fittingTrouble_7 : decode cX5_fittingTrouble 7 = .ok (.iload 4, 2) := by decide +kernel
theorem dX5_fittingTrouble_9 : decode cX5_fittingTrouble 9 = .ok (.ifCond .eq 6, 3) := by decide +kernel
theorem dX5_fittingTrouble_12 : decode cX5_fittingTrouble 12 = .ok (.iload 4, 2) := by decide +kernel
theorem dX5_fittingTrouble_14 : decode cX5_fittingTrouble 14 = .ok (.ireturn, 1) := by decide +kernel
theorem dX5_fittingTrouble_15 : decode cX5_fittingTrouble 15 = .ok (.iload_n 2, 1) := by decide +kernel
theorem dX5_fittingTrouble_16 : decode cX5_fittingTrouble 16 = .ok (.bipush 7, 2) := by decide +kernel
theorem dX5_fittingTrouble_18 : decode cX5_fittingTrouble 18 = .ok (.invokestatic 50, 3) := by decide +kernel
theorem dX5_fittingTrouble_21 : decode cX5_fittingTrouble 21 = .ok (.ifCond .ne 12, 3) := by decide +kernel
theorem dX5_fittingTrouble_24 : decode cX5_fittingTrouble 24 = .ok (.iload_n 3, 1) := by decide +kernel
theorem dX5_fittingTrouble_25 : decode cX5_fittingTrouble 25 = .ok (.bipush 11, 2) := by decide +kernel
theorem dX5_fittingTrouble_27 : decode cX5_fittingTrouble 27 = .ok (.invokestatic 50, 3) := by decide +kernel
theorem dX5_fittingTrouble_30 : decode cX5_fittingTrouble 30 = .ok (.ifCond .eq 8, 3) := by decide +kernel
theorem dX5_fittingTrouble_33 : decode cX5_fittingTrouble 33 = .ok (.ldc 54, 2) := by decide +kernel
theorem dX5_fittingTrouble_35 : decode cX5_fittingTrouble 35 = .ok (.goto 4, 3) := by decide +kernel
theorem dX5_fittingTrouble_38 : decode cX5_fittingTrouble 38 = .ok (.iconst 0, 1) := by decide +kernel
theorem dX5_fittingTrouble_39 : decode cX5_fittingTrouble 39 = .ok (.ireturn, 1) := by decide +kernel
theorem dX5_couldBeOpened_0 : decode cX5_couldBeOpened 0 = .ok (.aload_n 0, 1) := by decide +kernel
theorem dX5_couldBeOpened_1 : decode cX5_couldBeOpened 1 = .ok (.invokevirtual 152, 3) := by decide +kernel
theorem dX5_couldBeOpened_4 : decode cX5_couldBeOpened 4 = .ok (.astore 5, 2) := by decide +kernel
theorem dX5_couldBeOpened_6 : decode cX5_couldBeOpened 6 = .ok (.aload 5, 2) := by decide +kernel
theorem dX5_couldBeOpened_8 : decode cX5_couldBeOpened 8 = .ok (.getfield 68, 3) := by decide +kernel
theorem dX5_couldBeOpened_11 : decode cX5_couldBeOpened 11 = .ok (.iload_n 3, 1) := by decide +kernel
theorem dX5_couldBeOpened_12 : decode cX5_couldBeOpened 12 = .ok (.iload_n 1, 1) := by decide +kernel
theorem dX5_couldBeOpened_13 : decode cX5_couldBeOpened 13 = .ok (.iastore, 1) := by decide +kernel
theorem dX5_couldBeOpened_14 : decode cX5_couldBeOpened 14 = .ok (.iconst 0, 1) := by decide +kernel
theorem dX5_couldBeOpened_15 : decode cX5_couldBeOpened 15 = .ok (.istore 6, 2) := by decide +kernel
theorem dX5_couldBeOpened_17 : decode cX5_couldBeOpened 17 = .ok (.iload 6, 2) := by decide +kernel
theorem dX5_couldBeOpened_19 : decode cX5_couldBeOpened 19 = .ok (.aload_n 2, 1) := by decide +kernel
theorem dX5_couldBeOpened_20 : decode cX5_couldBeOpened 20 = .ok (.getfield 261, 3) := by decide +kernel
theorem dX5_couldBeOpened_23 : decode cX5_couldBeOpened 23 = .ok (.if_icmp .ge 34, 3) := by decide +kernel
theorem dX5_couldBeOpened_26 : decode cX5_couldBeOpened 26 = .ok (.aload_n 2, 1) := by decide +kernel
theorem dX5_couldBeOpened_27 : decode cX5_couldBeOpened 27 = .ok (.iload 6, 2) := by decide +kernel
theorem dX5_couldBeOpened_29 : decode cX5_couldBeOpened 29 = .ok (.aload 5, 2) := by decide +kernel
theorem dX5_couldBeOpened_31 : decode cX5_couldBeOpened 31 = .ok (.getfield 63, 3) := by decide +kernel
theorem dX5_couldBeOpened_34 : decode cX5_couldBeOpened 34 = .ok (.iload 4, 2) := by decide +kernel
theorem dX5_couldBeOpened_36 : decode cX5_couldBeOpened 36 = .ok (.iaload, 1) := by decide +kernel
theorem dX5_couldBeOpened_37 : decode cX5_couldBeOpened 37 = .ok (.invokevirtual 303, 3) := by decide +kernel
theorem dX5_couldBeOpened_40 : decode cX5_couldBeOpened 40 = .ok (.ifCond .ne 5, 3) := by decide +kernel
theorem dX5_couldBeOpened_43 : decode cX5_couldBeOpened 43 = .ok (.iconst 0, 1) := by decide +kernel
theorem dX5_couldBeOpened_44 : decode cX5_couldBeOpened 44 = .ok (.ireturn, 1) := by decide +kernel
theorem dX5_couldBeOpened_45 : decode cX5_couldBeOpened 45 = .ok (.aload 5, 2) := by decide +kernel
theorem dX5_couldBeOpened_47 : decode cX5_couldBeOpened 47 = .ok (.iconst 1, 1) := by decide +kernel
theorem dX5_couldBeOpened_48 : decode cX5_couldBeOpened 48 = .ok (.invokevirtual 156, 3) := by decide +kernel
theorem dX5_couldBeOpened_51 : decode cX5_couldBeOpened 51 = .ok (.iinc 6 1, 3) := by decide +kernel
theorem dX5_couldBeOpened_54 : decode cX5_couldBeOpened 54 = .ok (.goto (-37), 3) := by decide +kernel
theorem dX5_couldBeOpened_57 : decode cX5_couldBeOpened 57 = .ok (.iconst 1, 1) := by decide +kernel
theorem dX5_couldBeOpened_58 : decode cX5_couldBeOpened 58 = .ok (.ireturn, 1) := by decide +kernel
theorem dX5_couldBeOfKind_0 : decode cX5_couldBeOfKind 0 = .ok (.aload_n 0, 1) := by decide +kernel
theorem dX5_couldBeOfKind_1 : decode cX5_couldBeOfKind 1 = .ok (.getfield 19, 3) := by decide +kernel
theorem dX5_couldBeOfKind_4 : decode cX5_couldBeOfKind 4 = .ok (.aload_n 0, 1) := by decide +kernel
theorem dX5_couldBeOfKind_5 : decode cX5_couldBeOfKind 5 = .ok (.getfield 12, 3) := by decide +kernel
theorem dX5_couldBeOfKind_8 : decode cX5_couldBeOfKind 8 = .ok (.invokevirtual 159, 3) := by decide +kernel
theorem dX5_couldBeOfKind_11 : decode cX5_couldBeOfKind 11 = .ok (.aload_n 0, 1) := by decide +kernel
theorem dX5_couldBeOfKind_12 : decode cX5_couldBeOfKind 12 = .ok (.getfield 19, 3) := by decide +kernel
theorem dX5_couldBeOfKind_15 : decode cX5_couldBeOfKind 15 = .ok (.getfield 92, 3) := by decide +kernel
theorem dX5_couldBeOfKind_18 : decode cX5_couldBeOfKind 18 = .ok (.iload_n 3, 1) := by decide +kernel
theorem dX5_couldBeOfKind_19 : decode cX5_couldBeOfKind 19 = .ok (.aaload, 1) := by decide +kernel
theorem dX5_couldBeOfKind_20 : decode cX5_couldBeOfKind 20 = .ok (.iload_n 1, 1) := by decide +kernel
theorem dX5_couldBeOfKind_21 : decode cX5_couldBeOfKind 21 = .ok (.putfield 96, 3) := by decide +kernel
theorem dX5_couldBeOfKind_24 : decode cX5_couldBeOfKind 24 = .ok (.iconst 0, 1) := by decide +kernel
theorem dX5_couldBeOfKind_25 : decode cX5_couldBeOfKind 25 = .ok (.istore 4, 2) := by decide +kernel
theorem dX5_couldBeOfKind_27 : decode cX5_couldBeOfKind 27 = .ok (.iload 4, 2) := by decide +kernel
theorem dX5_couldBeOfKind_29 : decode cX5_couldBeOfKind 29 = .ok (.aload_n 2, 1) := by decide +kernel
theorem dX5_couldBeOfKind_30 : decode cX5_couldBeOfKind 30 = .ok (.getfield 261, 3) := by decide +kernel
theorem dX5_couldBeOfKind_33 : decode cX5_couldBeOfKind 33 = .ok (.if_icmp .ge 40, 3) := by decide +kernel
theorem dX5_couldBeOfKind_36 : decode cX5_couldBeOfKind 36 = .ok (.aload_n 2, 1) := by decide +kernel
theorem dX5_couldBeOfKind_37 : decode cX5_couldBeOfKind 37 = .ok (.iload 4, 2) := by decide +kernel
theorem dX5_couldBeOfKind_39 : decode cX5_couldBeOfKind 39 = .ok (.aload_n 0, 1) := by decide +kernel
theorem dX5_couldBeOfKind_40 : decode cX5_couldBeOfKind 40 = .ok (.getfield 19, 3) := by decide +kernel
theorem dX5_couldBeOfKind_43 : decode cX5_couldBeOfKind 43 = .ok (.getfield 92, 3) := by decide +kernel
theorem dX5_couldBeOfKind_46 : decode cX5_couldBeOfKind 46 = .ok (.iload_n 3, 1) := by decide +kernel
theorem dX5_couldBeOfKind_47 : decode cX5_couldBeOfKind 47 = .ok (.aaload, 1) := by decide +kernel
theorem dX5_couldBeOfKind_48 : decode cX5_couldBeOfKind 48 = .ok (.getfield 108, 3) := by decide +kernel
theorem dX5_couldBeOfKind_51 : decode cX5_couldBeOfKind 51 = .ok (.invokevirtual 303, 3) := by decide +kernel
theorem dX5_couldBeOfKind_54 : decode cX5_couldBeOfKind 54 = .ok (.ifCond .ne 5, 3) := by decide +kernel
theorem dX5_couldBeOfKind_57 : decode cX5_couldBeOfKind 57 = .ok (.iconst 0, 1) := by decide +kernel
theorem dX5_couldBeOfKind_58 : decode cX5_couldBeOfKind 58 = .ok (.ireturn, 1) := by decide +kernel
theorem dX5_couldBeOfKind_59 : decode cX5_couldBeOfKind 59 = .ok (.aload_n 0, 1) := by decide +kernel
theorem dX5_couldBeOfKind_60 : decode cX5_couldBeOfKind 60 = .ok (.getfield 19, 3) := by decide +kernel
theorem dX5_couldBeOfKind_63 : decode cX5_couldBeOfKind 63 = .ok (.iconst 1, 1) := by decide +kernel
theorem dX5_couldBeOfKind_64 : decode cX5_couldBeOfKind 64 = .ok (.invokevirtual 134, 3) := by decide +kernel
theorem dX5_couldBeOfKind_67 : decode cX5_couldBeOfKind 67 = .ok (.iinc 4 1, 3) := by decide +kernel
theorem dX5_couldBeOfKind_70 : decode cX5_couldBeOfKind 70 = .ok (.goto (-43), 3) := by decide +kernel
theorem dX5_couldBeOfKind_73 : decode cX5_couldBeOfKind 73 = .ok (.iconst 1, 1) := by decide +kernel
theorem dX5_couldBeOfKind_74 : decode cX5_couldBeOfKind 74 = .ok (.ireturn, 1) := by decide +kernel
theorem dX5_commonDivisor_0 : decode cX5_commonDivisor 0 = .ok (.iconst 1, 1) := by decide +kernel
theorem dX5_commonDivisor_1 : decode cX5_commonDivisor 1 = .ok (.istore_n 1, 1) := by decide +kernel
theorem dX5_commonDivisor_2 : decode cX5_commonDivisor 2 = .ok (.iconst 2, 1) := by decide +kernel
theorem dX5_commonDivisor_3 : decode cX5_commonDivisor 3 = .ok (.istore_n 2, 1) := by decide +kernel
theorem dX5_commonDivisor_4 : decode cX5_commonDivisor 4 = .ok (.iload_n 2, 1) := by decide +kernel
theorem dX5_commonDivisor_5 : decode cX5_commonDivisor 5 = .ok (.bipush 8, 2) := by decide +kernel
theorem dX5_commonDivisor_7 : decode cX5_commonDivisor 7 = .ok (.if_icmp .gt 18, 3) := by decide +kernel
theorem dX5_commonDivisor_10 : decode cX5_commonDivisor 10 = .ok (.iload_n 0, 1) := by decide +kernel
theorem dX5_commonDivisor_11 : decode cX5_commonDivisor 11 = .ok (.iload_n 2, 1) := by decide +kernel
theorem dX5_commonDivisor_12 : decode cX5_commonDivisor 12 = .ok (.irem, 1) := by decide +kernel
theorem dX5_commonDivisor_13 : decode cX5_commonDivisor 13 = .ok (.ifCond .ne 5, 3) := by decide +kernel
theorem dX5_commonDivisor_16 : decode cX5_commonDivisor 16 = .ok (.iload_n 2, 1) := by decide +kernel
theorem dX5_commonDivisor_17 : decode cX5_commonDivisor 17 = .ok (.istore_n 1, 1) := by decide +kernel
theorem dX5_commonDivisor_18 : decode cX5_commonDivisor 18 = .ok (.iload_n 2, 1) := by decide +kernel
theorem dX5_commonDivisor_19 : decode cX5_commonDivisor 19 = .ok (.iconst 2, 1) := by decide +kernel
theorem dX5_commonDivisor_20 : decode cX5_commonDivisor 20 = .ok (.imul, 1) := by decide +kernel
theorem dX5_commonDivisor_21 : decode cX5_commonDivisor 21 = .ok (.istore_n 2, 1) := by decide +kernel
theorem dX5_commonDivisor_22 : decode cX5_commonDivisor 22 = .ok (.goto (-18), 3) := by decide +kernel
theorem dX5_commonDivisor_25 : decode cX5_commonDivisor 25 = .ok (.iload_n 1, 1) := by decide +kernel
theorem dX5_commonDivisor_26 : decode cX5_commonDivisor 26 = .ok (.ireturn, 1) := by decide +kernel
theorem dX5_power_0 : decode cX5_power 0 = .ok (.lconst 1, 1) := by decide +kernel
theorem dX5_power_1 : decode cX5_power 1 = .ok (.lstore_n 2, 1) := by decide +kernel
theorem dX5_power_2 : decode cX5_power 2 = .ok (.iconst 0, 1) := by decide +kernel
theorem dX5_power_3 : decode cX5_power 3 = .ok (.istore 4, 2) := by decide +kernel
theorem dX5_power_5 : decode cX5_power 5 = .ok (.iload 4, 2) := by decide +kernel
theorem dX5_power_7 : decode cX5_power 7 = .ok (.iload_n 1, 1) := by decide +kernel
theorem dX5_power_8 : decode cX5_power 8 = .ok (.if_icmp .ge 14, 3) := by decide +kernel
theorem dX5_power_11 : decode cX5_power 11 = .ok (.lload_n 2, 1) := by decide +kernel
theorem dX5_power_12 : decode cX5_power 12 = .ok (.iload_n 0, 1) := by decide +kernel
theorem dX5_power_13 : decode cX5_power 13 = .ok (.i2l, 1) := by decide +kernel
theorem dX5_power_14 : decode cX5_power 14 = .ok (.lmul, 1) := by decide +kernel
theorem dX5_power_15 : decode cX5_power 15 = .ok (.lstore_n 2, 1) := by decide +kernel
theorem dX5_power_16 : decode cX5_power 16 = .ok (.iinc 4 1, 3) := by decide +kernel
theorem dX5_power_19 : decode cX5_power 19 = .ok (.goto (-14), 3) := by decide +kernel
theorem dX5_power_22 : decode cX5_power 22 = .ok (.lload_n 2, 1) := by decide +kernel
theorem dX5_power_23 : decode cX5_power 23 = .ok (.lreturn, 1) := by decide +kernel
theorem dX6_init_0 : decode cX6_init 0 = .ok (.aload_n 0, 1) := by decide +kernel
theorem dX6_init_1 : decode cX6_init 1 = .ok (.invokespecial 1, 3) := by decide +kernel
theorem dX6_init_4 : decode cX6_init 4 = .ok (.aload_n 0, 1) := by decide +kernel
end
section
theorem dX6_init_5 : decode cX6_init 5 = .ok (.bipush 74, 2) := by decide +kernel
theorem dX6_init_7 : decode cX6_init 7 = .ok (.newarray .int, 2) := by decide +kernel
theorem dX6_init_9 : decode cX6_init 9 = .ok (.putfield 7, 3) := by decide +kernel
theorem dX6_init_12 : decode cX6_init 12 = .ok (.aload_n 0, 1) := by decide +kernel
theorem dX6_init_13 : decode cX6_init 13 = .ok (.bipush 74, 2) := by decide +kernel
theorem dX6_init_15 : decode cX6_init 15 = .ok (.newarray .int, 2) := by decide +kernel
theorem dX6_init_17 : decode cX6_init 17 = .ok (.putfield 13, 3) := by decide +kernel
theorem dX6_init_20 : decode cX6_init 20 = .ok (.aload_n 0, 1) := by decide +kernel
theorem dX6_init_21 : decode cX6_init 21 = .ok (.bipush 74, 2) := by decide +kernel
theorem dX6_init_23 : decode cX6_init 23 = .ok (.newarray .int, 2) := by decide +kernel
theorem dX6_init_25 : decode cX6_init 25 = .ok (.putfield 16, 3) := by decide +kernel
theorem dX6_init_28 : decode cX6_init 28 = .ok (.aload_n 0, 1) := by decide +kernel
theorem dX6_init_29 : decode cX6_init 29 = .ok (.bipush 74, 2) := by decide +kernel
theorem dX6_init_31 : decode cX6_init 31 = .ok (.newarray .int, 2) := by decide +kernel
theorem dX6_init_33 : decode cX6_init 33 = .ok (.putfield 19, 3) := by decide +kernel
theorem dX6_init_36 : decode cX6_init 36 = .ok (.aload_n 0, 1) := by decide +kernel
theorem dX6_init_37 : decode cX6_init 37 = .ok (.bipush 7, 2) := by decide +kernel
theorem dX6_init_39 : decode cX6_init 39 = .ok (.newarray .int, 2) := by decide +kernel
theorem dX6_init_41 : decode cX6_init 41 = .ok (.putfield 22, 3) := by decide +kernel
theorem dX6_init_44 : decode cX6_init 44 = .ok (.aload_n 0, 1) := by decide +kernel
theorem dX6_init_45 : decode cX6_init 45 = .ok (.bipush 12, 2) := by decide +kernel
theorem dX6_init_47 : decode cX6_init 47 = .ok (.newarray .int, 2) := by decide +kernel
theorem dX6_init_49 : decode cX6_init 49 = .ok (.putfield 25, 3) := by decide +kernel
theorem dX6_init_52 : decode cX6_init 52 = .ok (.aload_n 0, 1) := by decide +kernel
theorem dX6_init_53 : decode cX6_init 53 = .ok (.bipush 12, 2) := by decide +kernel
theorem dX6_init_55 : decode cX6_init 55 = .ok (.newarray .int, 2) := by decide +kernel
theorem dX6_init_57 : decode cX6_init 57 = .ok (.putfield 28, 3) := by decide +kernel
theorem dX6_init_60 : decode cX6_init 60 = .ok (.aload_n 0, 1) := by decide +kernel
theorem dX6_init_61 : decode cX6_init 61 = .ok (.bipush 120, 2) := by decide +kernel
theorem dX6_init_63 : decode cX6_init 63 = .ok (.newarray .int, 2) := by decide +kernel
theorem dX6_init_65 : decode cX6_init 65 = .ok (.putfield 31, 3) := by decide +kernel
theorem dX6_init_68 : decode cX6_init 68 = .ok (.aload_n 0, 1) := by decide +kernel
theorem dX6_init_69 : decode cX6_init 69 = .ok (.iconst 4, 1) := by decide +kernel
theorem dX6_init_70 : decode cX6_init 70 = .ok (.newarray .int, 2) := by decide +kernel
theorem dX6_init_72 : decode cX6_init 72 = .ok (.putfield 34, 3) := by decide +kernel
theorem dX6_init_75 : decode cX6_init 75 = .ok (.aload_n 0, 1) := by decide +kernel
theorem dX6_init_76 : decode cX6_init 76 = .ok (.iconst 4, 1) := by decide +kernel
theorem dX6_init_77 : decode cX6_init 77 = .ok (.newarray .int, 2) := by decide +kernel
theorem dX6_init_79 : decode cX6_init 79 = .ok (.putfield 37, 3) := by decide +kernel
theorem dX6_init_82 : decode cX6_init 82 = .ok (.aload_n 0, 1) := by decide +kernel
theorem dX6_init_83 : decode cX6_init 83 = .ok (.sipush 160, 3) := by decide +kernel
theorem dX6_init_86 : decode cX6_init 86 = .ok (.newarray .int, 2) := by decide +kernel
theorem dX6_init_88 : decode cX6_init 88 = .ok (.putfield 40, 3) := by decide +kernel
theorem dX6_init_91 : decode cX6_init 91 = .ok (.aload_n 0, 1) := by decide +kernel
theorem dX6_init_92 : decode cX6_init 92 = .ok (.bipush 40, 2) := by decide +kernel
theorem dX6_init_94 : decode cX6_init 94 = .ok (.newarray .int, 2) := by decide +kernel
theorem dX6_init_96 : decode cX6_init 96 = .ok (.putfield 43, 3) := by decide +kernel
theorem dX6_init_99 : decode cX6_init 99 = .ok (.aload_n 0, 1) := by decide +kernel
theorem dX6_init_100 : decode cX6_init 100 = .ok (.getfield 7, 3) := by decide +kernel
theorem dX6_init_103 : decode cX6_init 103 = .ok (.iconst 3, 1) := by decide +kernel
theorem dX6_init_104 : decode cX6_init 104 = .ok (.iconst 1, 1) := by decide +kernel
theorem dX6_init_105 : decode cX6_init 105 = .ok (.iastore, 1) := by decide +kernel
theorem dX6_init_106 : decode cX6_init 106 = .ok (.iconst 0, 1) := by decide +kernel
theorem dX6_init_107 : decode cX6_init 107 = .ok (.istore_n 1, 1) := by decide +kernel
theorem dX6_init_108 : decode cX6_init 108 = .ok (.iload_n 1, 1) := by decide +kernel
theorem dX6_init_109 : decode cX6_init 109 = .ok (.bipush 8, 2) := by decide +kernel
theorem dX6_init_111 : decode cX6_init 111 = .ok (.if_icmp .ge 19, 3) := by decide +kernel
theorem dX6_init_114 : decode cX6_init 114 = .ok (.aload_n 0, 1) := by decide +kernel
theorem dX6_init_115 : decode cX6_init 115 = .ok (.getfield 7, 3) := by decide +kernel
theorem dX6_init_118 : decode cX6_init 118 = .ok (.iconst 4, 1) := by decide +kernel
theorem dX6_init_119 : decode cX6_init 119 = .ok (.iload_n 1, 1) := by decide +kernel
theorem dX6_init_120 : decode cX6_init 120 = .ok (.iadd, 1) := by decide +kernel
theorem dX6_init_121 : decode cX6_init 121 = .ok (.bipush 10, 2) := by decide +kernel
theorem dX6_init_123 : decode cX6_init 123 = .ok (.iastore, 1) := by decide +kernel
theorem dX6_init_124 : decode cX6_init 124 = .ok (.iinc 1 1, 3) := by decide +kernel
theorem dX6_init_127 : decode cX6_init 127 = .ok (.goto (-19), 3) := by decide +kernel
theorem dX6_init_130 : decode cX6_init 130 = .ok (.iconst 0, 1) := by decide +kernel
theorem dX6_init_131 : decode cX6_init 131 = .ok (.istore_n 1, 1) := by decide +kernel
theorem dX6_init_132 : decode cX6_init 132 = .ok (.iload_n 1, 1) := by decide +kernel
theorem dX6_init_133 : decode cX6_init 133 = .ok (.bipush 10, 2) := by decide +kernel
theorem dX6_init_135 : decode cX6_init 135 = .ok (.if_icmp .ge 19, 3) := by decide +kernel
theorem dX6_init_138 : decode cX6_init 138 = .ok (.aload_n 0, 1) := by decide +kernel
theorem dX6_init_139 : decode cX6_init 139 = .ok (.getfield 7, 3) := by decide +kernel
theorem dX6_init_142 : decode cX6_init 142 = .ok (.bipush 64, 2) := by decide +kernel
theorem dX6_init_144 : decode cX6_init 144 = .ok (.iload_n 1, 1) := by decide +kernel
theorem dX6_init_145 : decode cX6_init 145 = .ok (.iadd, 1) := by decide +kernel
theorem dX6_init_146 : decode cX6_init 146 = .ok (.iconst (-1), 1) := by decide +kernel
theorem dX6_init_147 : decode cX6_init 147 = .ok (.iastore, 1) := by decide +kernel
theorem dX6_init_148 : decode cX6_init 148 = .ok (.iinc 1 1, 3) := by decide +kernel
theorem dX6_init_151 : decode cX6_init 151 = .ok (.goto (-19), 3) := by decide +kernel
theorem dX6_init_154 : decode cX6_init 154 = .ok (.return_, 1) := by decide +kernel
theorem dX6_in_0 : decode cX6_in 0 = .ok (.lload_n 0, 1) := by decide +kernel
theorem dX6_in_1 : decode cX6_in 1 = .ok (.lload_n 2, 1) := by decide +kernel
theorem dX6_in_2 : decode cX6_in 2 = .ok (.lcmp, 1) := by decide +kernel
theorem dX6_in_3 : decode cX6_in 3 = .ok (.ifCond .lt 14, 3) := by decide +kernel
theorem dX6_in_6 : decode cX6_in 6 = .ok (.lload_n 0, 1) := by decide +kernel
theorem dX6_in_7 : decode cX6_in 7 = .ok (.lload 4, 2) := by decide +kernel
theorem dX6_in_9 : decode cX6_in 9 = .ok (.lcmp, 1) := by decide +kernel
theorem dX6_in_10 : decode cX6_in 10 = .ok (.ifCond .gt 7, 3) := by decide +kernel
theorem dX6_in_13 : decode cX6_in 13 = .ok (.iconst 1, 1) := by decide +kernel
theorem dX6_in_14 : decode cX6_in 14 = .ok (.goto 4, 3) := by decide +kernel
theorem dX6_in_17 : decode cX6_in 17 = .ok (.iconst 0, 1) := by decide +kernel
theorem dX6_in_18 : decode cX6_in 18 = .ok (.ireturn, 1) := by decide +kernel
theorem dX6_finds_0 : decode cX6_finds 0 = .ok (.aload_n 0, 1) := by decide +kernel
theorem dX6_finds_1 : decode cX6_finds 1 = .ok (.getfield 22, 3) := by decide +kernel
theorem dX6_finds_4 : decode cX6_finds 4 = .ok (.ldc 46, 2) := by decide +kernel
theorem dX6_finds_6 : decode cX6_finds 6 = .ok (.iload_n 1, 1) := by decide +kernel
theorem dX6_finds_7 : decode cX6_finds 7 = .ok (.isub, 1) := by decide +kernel
theorem dX6_finds_8 : decode cX6_finds 8 = .ok (.dup2, 1) := by decide +kernel
theorem dX6_finds_9 : decode cX6_finds 9 = .ok (.iaload, 1) := by decide +kernel
theorem dX6_finds_10 : decode cX6_finds 10 = .ok (.iconst 1, 1) := by decide +kernel
theorem dX6_finds_11 : decode cX6_finds 11 = .ok (.iadd, 1) := by decide +kernel
theorem dX6_finds_12 : decode cX6_finds 12 = .ok (.iastore, 1) := by decide +kernel
theorem dX6_finds_13 : decode cX6_finds 13 = .ok (.iload_n 1, 1) := by decide +kernel
theorem dX6_finds_14 : decode cX6_finds 14 = .ok (.ireturn, 1) := by decide +kernel
theorem dX6_saves_0 : decode cX6_saves 0 = .ok (.iconst 0, 1) := by decide +kernel
theorem dX6_saves_1 : decode cX6_saves 1 = .ok (.istore_n 1, 1) := by decide +kernel
theorem dX6_saves_2 : decode cX6_saves 2 = .ok (.iload_n 1, 1) := by decide +kernel
theorem dX6_saves_3 : decode cX6_saves 3 = .ok (.bipush 74, 2) := by decide +kernel
theorem dX6_saves_5 : decode cX6_saves 5 = .ok (.if_icmp .ge 21, 3) := by decide +kernel
theorem dX6_saves_8 : decode cX6_saves 8 = .ok (.aload_n 0, 1) := by decide +kernel
theorem dX6_saves_9 : decode cX6_saves 9 = .ok (.getfield 16, 3) := by decide +kernel
theorem dX6_saves_12 : decode cX6_saves 12 = .ok (.iload_n 1, 1) := by decide +kernel
theorem dX6_saves_13 : decode cX6_saves 13 = .ok (.aload_n 0, 1) := by decide +kernel
theorem dX6_saves_14 : decode cX6_saves 14 = .ok (.getfield 7, 3) := by decide +kernel
theorem dX6_saves_17 : decode cX6_saves 17 = .ok (.iload_n 1, 1) := by decide +kernel
theorem dX6_saves_18 : decode cX6_saves 18 = .ok (.iaload, 1) := by decide +kernel
theorem dX6_saves_19 : decode cX6_saves 19 = .ok (.iastore, 1) := by decide +kernel
theorem dX6_saves_20 : decode cX6_saves 20 = .ok (.iinc 1 1, 3) := by decide +kernel
theorem dX6_saves_23 : decode cX6_saves 23 = .ok (.goto (-21), 3) := by decide +kernel
theorem dX6_saves_26 : decode cX6_saves 26 = .ok (.return_, 1) := by decide +kernel
theorem dX6_putsBack_0 : decode cX6_putsBack 0 = .ok (.iconst 0, 1) := by decide +kernel
theorem dX6_putsBack_1 : decode cX6_putsBack 1 = .ok (.istore_n 1, 1) := by decide +kernel
theorem dX6_putsBack_2 : decode cX6_putsBack 2 = .ok (.iload_n 1, 1) := by decide +kernel
theorem dX6_putsBack_3 : decode cX6_putsBack 3 = .ok (.bipush 74, 2) := by decide +kernel
theorem dX6_putsBack_5 : decode cX6_putsBack 5 = .ok (.if_icmp .ge 21, 3) := by decide +kernel
theorem dX6_putsBack_8 : decode cX6_putsBack 8 = .ok (.aload_n 0, 1) := by decide +kernel
theorem dX6_putsBack_9 : decode cX6_putsBack 9 = .ok (.getfield 7, 3) := by decide +kernel
theorem dX6_putsBack_12 : decode cX6_putsBack 12 = .ok (.iload_n 1, 1) := by decide +kernel
theorem dX6_putsBack_13 : decode cX6_putsBack 13 = .ok (.aload_n 0, 1) := by decide +kernel
theorem dX6_putsBack_14 : decode cX6_putsBack 14 = .ok (.getfield 16, 3) := by decide +kernel
theorem dX6_putsBack_17 : decode cX6_putsBack 17 = .ok (.iload_n 1, 1) := by decide +kernel
theorem dX6_putsBack_18 : decode cX6_putsBack 18 = .ok (.iaload, 1) := by decide +kernel
theorem dX6_putsBack_19 : decode cX6_putsBack 19 = .ok (.iastore, 1) := by decide +kernel
theorem dX6_putsBack_20 : decode cX6_putsBack 20 = .ok (.iinc 1 1, 3) := by decide +kernel
theorem dX6_putsBack_23 : decode cX6_putsBack 23 = .ok (.goto (-21), 3) := by decide +kernel
theorem dX6_putsBack_26 : decode cX6_putsBack 26 = .ok (.return_, 1) := by decide +kernel
theorem dX6_laysAside_0 : decode cX6_laysAside 0 = .ok (.iconst 0, 1) := by decide +kernel
theorem dX6_laysAside_1 : decode cX6_laysAside 1 = .ok (.istore_n 1, 1) := by decide +kernel
theorem dX6_laysAside_2 : decode cX6_laysAside 2 = .ok (.iload_n 1, 1) := by decide +kernel
theorem dX6_laysAside_3 : decode cX6_laysAside 3 = .ok (.bipush 74, 2) := by decide +kernel
theorem dX6_laysAside_5 : decode cX6_laysAside 5 = .ok (.if_icmp .ge 21, 3) := by decide +kernel
theorem dX6_laysAside_8 : decode cX6_laysAside 8 = .ok (.aload_n 0, 1) := by decide +kernel
theorem dX6_laysAside_9 : decode cX6_laysAside 9 = .ok (.getfield 19, 3) := by decide +kernel
theorem dX6_laysAside_12 : decode cX6_laysAside 12 = .ok (.iload_n 1, 1) := by decide +kernel
theorem dX6_laysAside_13 : decode cX6_laysAside 13 = .ok (.aload_n 0, 1) := by decide +kernel
theorem dX6_laysAside_14 : decode cX6_laysAside 14 = .ok (.getfield 7, 3) := by decide +kernel
theorem dX6_laysAside_17 : decode cX6_laysAside 17 = .ok (.iload_n 1, 1) := by decide +kernel
theorem dX6_laysAside_18 : decode cX6_laysAside 18 = .ok (.iaload, 1) := by decide +kernel
theorem dX6_laysAside_19 : decode cX6_laysAside 19 = .ok (.iastore, 1) := by decide +kernel
theorem dX6_laysAside_20 : decode cX6_laysAside 20 = .ok (.iinc 1 1, 3) := by decide +kernel
theorem dX6_laysAside_23 : decode cX6_laysAside 23 = .ok (.goto (-21), 3) := by decide +kernel
theorem dX6_laysAside_26 : decode cX6_laysAside 26 = .ok (.return_, 1) := by decide +kernel
theorem dX6_takesBack_0 : decode cX6_takesBack 0 = .ok (.iconst 0, 1) := by decide +kernel
theorem dX6_takesBack_1 : decode cX6_takesBack 1 = .ok (.istore_n 2, 1) := by decide +kernel
theorem dX6_takesBack_2 : decode cX6_takesBack 2 = .ok (.iload_n 2, 1) := by decide +kernel
theorem dX6_takesBack_3 : decode cX6_takesBack 3 = .ok (.bipush 74, 2) := by decide +kernel
theorem dX6_takesBack_5 : decode cX6_takesBack 5 = .ok (.if_icmp .ge 21, 3) := by decide +kernel
theorem dX6_takesBack_8 : decode cX6_takesBack 8 = .ok (.aload_n 0, 1) := by decide +kernel
theorem dX6_takesBack_9 : decode cX6_takesBack 9 = .ok (.getfield 7, 3) := by decide +kernel
theorem dX6_takesBack_12 : decode cX6_takesBack 12 = .ok (.iload_n 2, 1) := by decide +kernel
theorem dX6_takesBack_13 : decode cX6_takesBack 13 = .ok (.aload_n 0, 1) := by decide +kernel
theorem dX6_takesBack_14 : decode cX6_takesBack 14 = .ok (.getfield 19, 3) := by decide +kernel
theorem dX6_takesBack_17 : decode cX6_takesBack 17 = .ok (.iload_n 2, 1) := by decide +kernel
theorem dX6_takesBack_18 : decode cX6_takesBack 18 = .ok (.iaload, 1) := by decide +kernel
theorem dX6_takesBack_19 : decode cX6_takesBack 19 = .ok (.iastore, 1) := by decide +kernel
theorem dX6_takesBack_20 : decode cX6_takesBack 20 = .ok (.iinc 2 1, 3) := by decide +kernel
theorem dX6_takesBack_23 : decode cX6_takesBack 23 = .ok (.goto (-21), 3) := by decide +kernel
theorem dX6_takesBack_26 : decode cX6_takesBack 26 = .ok (.iload_n 1, 1) := by decide +kernel
theorem dX6_takesBack_27 : decode cX6_takesBack 27 = .ok (.ireturn, 1) := by decide +kernel
theorem dX6_becomes_0 : decode cX6_becomes 0 = .ok (.aload_n 0, 1) := by decide +kernel
theorem dX6_becomes_1 : decode cX6_becomes 1 = .ok (.getfield 7, 3) := by decide +kernel
theorem dX6_becomes_4 : decode cX6_becomes 4 = .ok (.iload_n 1, 1) := by decide +kernel
theorem dX6_becomes_5 : decode cX6_becomes 5 = .ok (.iaload, 1) := by decide +kernel
theorem dX6_becomes_6 : decode cX6_becomes 6 = .ok (.istore_n 3, 1) := by decide +kernel
theorem dX6_becomes_7 : decode cX6_becomes 7 = .ok (.aload_n 0, 1) := by decide +kernel
theorem dX6_becomes_8 : decode cX6_becomes 8 = .ok (.getfield 7, 3) := by decide +kernel
theorem dX6_becomes_11 : decode cX6_becomes 11 = .ok (.iload_n 1, 1) := by decide +kernel
theorem dX6_becomes_12 : decode cX6_becomes 12 = .ok (.iload_n 2, 1) := by decide +kernel
theorem dX6_becomes_13 : decode cX6_becomes 13 = .ok (.iastore, 1) := by decide +kernel
theorem dX6_becomes_14 : decode cX6_becomes 14 = .ok (.iload_n 3, 1) := by decide +kernel
theorem dX6_becomes_15 : decode cX6_becomes 15 = .ok (.ireturn, 1) := by decide +kernel
theorem dX6_isCell_0 : decode cX6_isCell 0 = .ok (.iload_n 0, 1) := by decide +kernel
theorem dX6_isCell_1 : decode cX6_isCell 1 = .ok (.i2l, 1) := by decide +kernel
theorem dX6_isCell_2 : decode cX6_isCell 2 = .ok (.lconst 0, 1) := by decide +kernel
theorem dX6_isCell_3 : decode cX6_isCell 3 = .ok (.ldc2_w 47, 3) := by decide +kernel
theorem dX6_isCell_6 : decode cX6_isCell 6 = .ok (.invokestatic 49, 3) := by decide +kernel
theorem dX6_isCell_9 : decode cX6_isCell 9 = .ok (.ireturn, 1) := by decide +kernel
theorem dX6_isHour_0 : decode cX6_isHour 0 = .ok (.iload_n 0, 1) := by decide +kernel
theorem dX6_isHour_1 : decode cX6_isHour 1 = .ok (.i2l, 1) := by decide +kernel
theorem dX6_isHour_2 : decode cX6_isHour 2 = .ok (.lconst 0, 1) := by decide +kernel
theorem dX6_isHour_3 : decode cX6_isHour 3 = .ok (.ldc2_w 53, 3) := by decide +kernel
theorem dX6_isHour_6 : decode cX6_isHour 6 = .ok (.invokestatic 49, 3) := by decide +kernel
theorem dX6_isHour_9 : decode cX6_isHour 9 = .ok (.ireturn, 1) := by decide +kernel
theorem dX6_isOpening_0 : decode cX6_isOpening 0 = .ok (.iload_n 0, 1) := by decide +kernel
theorem dX6_isOpening_1 : decode cX6_isOpening 1 = .ok (.i2l, 1) := by decide +kernel
theorem dX6_isOpening_2 : decode cX6_isOpening 2 = .ok (.lconst 0, 1) := by decide +kernel
theorem dX6_isOpening_3 : decode cX6_isOpening 3 = .ok (.ldc2_w 55, 3) := by decide +kernel
theorem dX6_isOpening_6 : decode cX6_isOpening 6 = .ok (.invokestatic 49, 3) := by decide +kernel
theorem dX6_isOpening_9 : decode cX6_isOpening 9 = .ok (.ireturn, 1) := by decide +kernel
theorem dX6_isWatcher_0 : decode cX6_isWatcher 0 = .ok (.iload_n 1, 1) := by decide +kernel
theorem dX6_isWatcher_1 : decode cX6_isWatcher 1 = .ok (.i2l, 1) := by decide +kernel
theorem dX6_isWatcher_2 : decode cX6_isWatcher 2 = .ok (.lconst 0, 1) := by decide +kernel
theorem dX6_isWatcher_3 : decode cX6_isWatcher 3 = .ok (.aload_n 0, 1) := by decide +kernel
theorem dX6_isWatcher_4 : decode cX6_isWatcher 4 = .ok (.getfield 7, 3) := by decide +kernel
theorem dX6_isWatcher_7 : decode cX6_isWatcher 7 = .ok (.iconst 1, 1) := by decide +kernel
theorem dX6_isWatcher_8 : decode cX6_isWatcher 8 = .ok (.iaload, 1) := by decide +kernel
theorem dX6_isWatcher_9 : decode cX6_isWatcher 9 = .ok (.iconst 1, 1) := by decide +kernel
theorem dX6_isWatcher_10 : decode cX6_isWatcher 10 = .ok (.isub, 1) := by decide +kernel
theorem dX6_isWatcher_11 : decode cX6_isWatcher 11 = .ok (.i2l, 1) := by decide +kernel
theorem dX6_isWatcher_12 : decode cX6_isWatcher 12 = .ok (.invokestatic 49, 3) := by decide +kernel
theorem dX6_isWatcher_15 : decode cX6_isWatcher 15 = .ok (.ireturn, 1) := by decide +kernel
theorem dX6_isKind_0 : decode cX6_isKind 0 = .ok (.iload_n 0, 1) := by decide +kernel
theorem dX6_isKind_1 : decode cX6_isKind 1 = .ok (.i2l, 1) := by decide +kernel
theorem dX6_isKind_2 : decode cX6_isKind 2 = .ok (.lconst 0, 1) := by decide +kernel
theorem dX6_isKind_3 : decode cX6_isKind 3 = .ok (.ldc2_w 57, 3) := by decide +kernel
theorem dX6_isKind_6 : decode cX6_isKind 6 = .ok (.invokestatic 49, 3) := by decide +kernel
theorem dX6_isKind_9 : decode cX6_isKind 9 = .ok (.ireturn, 1) := by decide +kernel
theorem dX6_place_0 : decode cX6_place 0 = .ok (.bipush 24, 2) := by decide +kernel
theorem dX6_place_2 : decode cX6_place 2 = .ok (.iconst 5, 1) := by decide +kernel
theorem dX6_place_3 : decode cX6_place 3 = .ok (.iload_n 0, 1) := by decide +kernel
theorem dX6_place_4 : decode cX6_place 4 = .ok (.imul, 1) := by decide +kernel
theorem dX6_place_5 : decode cX6_place 5 = .ok (.iadd, 1) := by decide +kernel
theorem dX6_place_6 : decode cX6_place 6 = .ok (.iload_n 1, 1) := by decide +kernel
theorem dX6_place_7 : decode cX6_place 7 = .ok (.iadd, 1) := by decide +kernel
theorem dX6_place_8 : decode cX6_place 8 = .ok (.ireturn, 1) := by decide +kernel
theorem dX6_its_0 : decode cX6_its 0 = .ok (.aload_n 0, 1) := by decide +kernel
theorem dX6_its_1 : decode cX6_its 1 = .ok (.getfield 7, 3) := by decide +kernel
theorem dX6_its_4 : decode cX6_its 4 = .ok (.iload_n 1, 1) := by decide +kernel
theorem dX6_its_5 : decode cX6_its 5 = .ok (.iload_n 2, 1) := by decide +kernel
theorem dX6_its_6 : decode cX6_its 6 = .ok (.invokestatic 59, 3) := by decide +kernel
theorem dX6_its_9 : decode cX6_its 9 = .ok (.iaload, 1) := by decide +kernel
theorem dX6_its_10 : decode cX6_its 10 = .ok (.ireturn, 1) := by decide +kernel
theorem dX6_there_0 : decode cX6_there 0 = .ok (.aload_n 0, 1) := by decide +kernel
theorem dX6_there_1 : decode cX6_there 1 = .ok (.getfield 7, 3) := by decide +kernel
theorem dX6_there_4 : decode cX6_there 4 = .ok (.bipush 12, 2) := by decide +kernel
theorem dX6_there_6 : decode cX6_there 6 = .ok (.aload_n 0, 1) := by decide +kernel
theorem dX6_there_7 : decode cX6_there 7 = .ok (.iload_n 1, 1) := by decide +kernel
theorem dX6_there_8 : decode cX6_there 8 = .ok (.iconst 1, 1) := by decide +kernel
theorem dX6_there_9 : decode cX6_there 9 = .ok (.invokevirtual 63, 3) := by decide +kernel
theorem dX6_there_12 : decode cX6_there 12 = .ok (.iadd, 1) := by decide +kernel
theorem dX6_there_13 : decode cX6_there 13 = .ok (.iaload, 1) := by decide +kernel
theorem dX6_there_14 : decode cX6_there 14 = .ok (.ireturn, 1) := by decide +kernel
theorem dX6_level_0 : decode cX6_level 0 = .ok (.iload_n 1, 1) := by decide +kernel
theorem dX6_level_1 : decode cX6_level 1 = .ok (.invokestatic 66, 3) := by decide +kernel
theorem dX6_level_4 : decode cX6_level 4 = .ok (.ifCond .eq 27, 3) := by decide +kernel
theorem dX6_level_7 : decode cX6_level 7 = .ok (.iload_n 2, 1) := by decide +kernel
theorem dX6_level_8 : decode cX6_level 8 = .ok (.i2l, 1) := by decide +kernel
theorem dX6_level_9 : decode cX6_level 9 = .ok (.lconst 0, 1) := by decide +kernel
theorem dX6_level_10 : decode cX6_level 10 = .ok (.ldc2_w 70, 3) := by decide +kernel
theorem dX6_level_13 : decode cX6_level 13 = .ok (.invokestatic 49, 3) := by decide +kernel
theorem dX6_level_16 : decode cX6_level 16 = .ok (.ifCond .eq 15, 3) := by decide +kernel
theorem dX6_level_19 : decode cX6_level 19 = .ok (.aload_n 0, 1) := by decide +kernel
theorem dX6_level_20 : decode cX6_level 20 = .ok (.bipush 12, 2) := by decide +kernel
theorem dX6_level_22 : decode cX6_level 22 = .ok (.iload_n 1, 1) := by decide +kernel
theorem dX6_level_23 : decode cX6_level 23 = .ok (.iadd, 1) := by decide +kernel
theorem dX6_level_24 : decode cX6_level 24 = .ok (.iload_n 2, 1) := by decide +kernel
theorem dX6_level_25 : decode cX6_level 25 = .ok (.invokevirtual 72, 3) := by decide +kernel
theorem dX6_level_28 : decode cX6_level 28 = .ok (.goto 9, 3) := by decide +kernel
theorem dX6_level_31 : decode cX6_level 31 = .ok (.aload_n 0, 1) := by decide +kernel
theorem dX6_level_32 : decode cX6_level 32 = .ok (.ldc 46, 2) := by decide +kernel
theorem dX6_level_34 : decode cX6_level 34 = .ok (.invokevirtual 75, 3) := by decide +kernel
theorem dX6_level_37 : decode cX6_level 37 = .ok (.ireturn, 1) := by decide +kernel
theorem dX6_stands_0 : decode cX6_stands 0 = .ok (.iload_n 1, 1) := by decide +kernel
theorem dX6_stands_1 : decode cX6_stands 1 = .ok (.invokestatic 66, 3) := by decide +kernel
theorem dX6_stands_4 : decode cX6_stands 4 = .ok (.ifCond .eq 15, 3) := by decide +kernel
theorem dX6_stands_7 : decode cX6_stands 7 = .ok (.aload_n 0, 1) := by decide +kernel
theorem dX6_stands_8 : decode cX6_stands 8 = .ok (.getfield 7, 3) := by decide +kernel
theorem dX6_stands_11 : decode cX6_stands 11 = .ok (.bipush 12, 2) := by decide +kernel
theorem dX6_stands_13 : decode cX6_stands 13 = .ok (.iload_n 1, 1) := by decide +kernel
theorem dX6_stands_14 : decode cX6_stands 14 = .ok (.iadd, 1) := by decide +kernel
theorem dX6_stands_15 : decode cX6_stands 15 = .ok (.iaload, 1) := by decide +kernel
theorem dX6_stands_16 : decode cX6_stands 16 = .ok (.goto 9, 3) := by decide +kernel
theorem dX6_stands_19 : decode cX6_stands 19 = .ok (.aload_n 0, 1) := by decide +kernel
theorem dX6_stands_20 : decode cX6_stands 20 = .ok (.ldc 46, 2) := by decide +kernel
theorem dX6_stands_22 : decode cX6_stands 22 = .ok (.invokevirtual 75, 3) := by decide +kernel
theorem dX6_stands_25 : decode cX6_stands 25 = .ok (.ireturn, 1) := by decide +kernel
theorem dX6_plan_0 : decode cX6_plan 0 = .ok (.iload_n 1, 1) := by decide +kernel
theorem dX6_plan_1 : decode cX6_plan 1 = .ok (.invokestatic 79, 3) := by decide +kernel
theorem dX6_plan_4 : decode cX6_plan 4 = .ok (.ifCond .eq 21, 3) := by decide +kernel
theorem dX6_plan_7 : decode cX6_plan 7 = .ok (.iload_n 2, 1) := by decide +kernel
theorem dX6_plan_8 : decode cX6_plan 8 = .ok (.invokestatic 82, 3) := by decide +kernel
theorem dX6_plan_11 : decode cX6_plan 11 = .ok (.ifCond .eq 14, 3) := by decide +kernel
theorem dX6_plan_14 : decode cX6_plan 14 = .ok (.aload_n 0, 1) := by decide +kernel
theorem dX6_plan_15 : decode cX6_plan 15 = .ok (.iconst 4, 1) := by decide +kernel
theorem dX6_plan_16 : decode cX6_plan 16 = .ok (.iload_n 1, 1) := by decide +kernel
theorem dX6_plan_17 : decode cX6_plan 17 = .ok (.iadd, 1) := by decide +kernel
theorem dX6_plan_18 : decode cX6_plan 18 = .ok (.iload_n 2, 1) := by decide +kernel
theorem dX6_plan_19 : decode cX6_plan 19 = .ok (.invokevirtual 72, 3) := by decide +kernel
theorem dX6_plan_22 : decode cX6_plan 22 = .ok (.goto 9, 3) := by decide +kernel
theorem dX6_plan_25 : decode cX6_plan 25 = .ok (.aload_n 0, 1) := by decide +kernel
theorem dX6_plan_26 : decode cX6_plan 26 = .ok (.ldc 46, 2) := by decide +kernel
theorem dX6_plan_28 : decode cX6_plan 28 = .ok (.invokevirtual 75, 3) := by decide +kernel
theorem dX6_plan_31 : decode cX6_plan 31 = .ok (.ireturn, 1) := by decide +kernel
theorem dX6_opening_0 : decode cX6_opening 0 = .ok (.iload_n 1, 1) := by decide +kernel
theorem dX6_opening_1 : decode cX6_opening 1 = .ok (.invokestatic 79, 3) := by decide +kernel
theorem dX6_opening_4 : decode cX6_opening 4 = .ok (.ifCond .eq 14, 3) := by decide +kernel
theorem dX6_opening_7 : decode cX6_opening 7 = .ok (.aload_n 0, 1) := by decide +kernel
theorem dX6_opening_8 : decode cX6_opening 8 = .ok (.getfield 7, 3) := by decide +kernel
theorem dX6_opening_11 : decode cX6_opening 11 = .ok (.iconst 4, 1) := by decide +kernel
theorem dX6_opening_12 : decode cX6_opening 12 = .ok (.iload_n 1, 1) := by decide +kernel
theorem dX6_opening_13 : decode cX6_opening 13 = .ok (.iadd, 1) := by decide +kernel
theorem dX6_opening_14 : decode cX6_opening 14 = .ok (.iaload, 1) := by decide +kernel
theorem dX6_opening_15 : decode cX6_opening 15 = .ok (.goto 9, 3) := by decide +kernel
theorem dX6_opening_18 : decode cX6_opening 18 = .ok (.aload_n 0, 1) := by decide +kernel
theorem dX6_opening_19 : decode cX6_opening 19 = .ok (.ldc 46, 2) := by decide +kernel
theorem dX6_opening_21 : decode cX6_opening 21 = .ok (.invokevirtual 75, 3) := by decide +kernel
theorem dX6_opening_24 : decode cX6_opening 24 = .ok (.ireturn, 1) := by decide +kernel
theorem dX6_openings_0 : decode cX6_openings 0 = .ok (.iconst 0, 1) := by decide +kernel
theorem dX6_openings_1 : decode cX6_openings 1 = .ok (.istore_n 1, 1) := by decide +kernel
theorem dX6_openings_2 : decode cX6_openings 2 = .ok (.iconst 0, 1) := by decide +kernel
theorem dX6_openings_3 : decode cX6_openings 3 = .ok (.istore_n 2, 1) := by decide +kernel
theorem dX6_openings_4 : decode cX6_openings 4 = .ok (.iload_n 2, 1) := by decide +kernel
theorem dX6_openings_5 : decode cX6_openings 5 = .ok (.bipush 8, 2) := by decide +kernel
theorem dX6_openings_7 : decode cX6_openings 7 = .ok (.if_icmp .ge 20, 3) := by decide +kernel
theorem dX6_openings_10 : decode cX6_openings 10 = .ok (.iload_n 1, 1) := by decide +kernel
theorem dX6_openings_11 : decode cX6_openings 11 = .ok (.aload_n 0, 1) := by decide +kernel
theorem dX6_openings_12 : decode cX6_openings 12 = .ok (.getfield 7, 3) := by decide +kernel
theorem dX6_openings_15 : decode cX6_openings 15 = .ok (.iconst 4, 1) := by decide +kernel
theorem dX6_openings_16 : decode cX6_openings 16 = .ok (.iload_n 2, 1) := by decide +kernel
theorem dX6_openings_17 : decode cX6_openings 17 = .ok (.iadd, 1) := by decide +kernel
theorem dX6_openings_18 : decode cX6_openings 18 = .ok (.iaload, 1) := by decide +kernel
theorem dX6_openings_19 : decode cX6_openings 19 = .ok (.iadd, 1) := by decide +kernel
theorem dX6_openings_20 : decode cX6_openings 20 = .ok (.istore_n 1, 1) := by decide +kernel
theorem dX6_openings_21 : decode cX6_openings 21 = .ok (.iinc 2 1, 3) := by decide +kernel
theorem dX6_openings_24 : decode cX6_openings 24 = .ok (.goto (-20), 3) := by decide +kernel
theorem dX6_openings_27 : decode cX6_openings 27 = .ok (.iload_n 1, 1) := by decide +kernel
theorem dX6_openings_28 : decode cX6_openings 28 = .ok (.ireturn, 1) := by decide +kernel
theorem dX6_opensAll_0 : decode cX6_opensAll 0 = .ok (.iconst 0, 1) := by decide +kernel
theorem dX6_opensAll_1 : decode cX6_opensAll 1 = .ok (.istore_n 2, 1) := by decide +kernel
theorem dX6_opensAll_2 : decode cX6_opensAll 2 = .ok (.iload_n 2, 1) := by decide +kernel
theorem dX6_opensAll_3 : decode cX6_opensAll 3 = .ok (.bipush 8, 2) := by decide +kernel
theorem dX6_opensAll_5 : decode cX6_opensAll 5 = .ok (.if_icmp .ge 18, 3) := by decide +kernel
theorem dX6_opensAll_8 : decode cX6_opensAll 8 = .ok (.aload_n 0, 1) := by decide +kernel
theorem dX6_opensAll_9 : decode cX6_opensAll 9 = .ok (.getfield 7, 3) := by decide +kernel
theorem dX6_opensAll_12 : decode cX6_opensAll 12 = .ok (.iconst 4, 1) := by decide +kernel
theorem dX6_opensAll_13 : decode cX6_opensAll 13 = .ok (.iload_n 2, 1) := by decide +kernel
theorem dX6_opensAll_14 : decode cX6_opensAll 14 = .ok (.iadd, 1) := by decide +kernel
theorem dX6_opensAll_15 : decode cX6_opensAll 15 = .ok (.iload_n 1, 1) := by decide +kernel
theorem dX6_opensAll_16 : decode cX6_opensAll 16 = .ok (.iastore, 1) := by decide +kernel
theorem dX6_opensAll_17 : decode cX6_opensAll 17 = .ok (.iinc 2 1, 3) := by decide +kernel
theorem dX6_opensAll_20 : decode cX6_opensAll 20 = .ok (.goto (-18), 3) := by decide +kernel
theorem dX6_opensAll_23 : decode cX6_opensAll 23 = .ok (.return_, 1) := by decide +kernel
theorem dX6_steady_0 : decode cX6_steady 0 = .ok (.iload_n 1, 1) := by decide +kernel
theorem dX6_steady_1 : decode cX6_steady 1 = .ok (.invokestatic 82, 3) := by decide +kernel
theorem dX6_steady_4 : decode cX6_steady 4 = .ok (.ifCond .ne 10, 3) := by decide +kernel
theorem dX6_steady_7 : decode cX6_steady 7 = .ok (.aload_n 0, 1) := by decide +kernel
theorem dX6_steady_8 : decode cX6_steady 8 = .ok (.ldc 46, 2) := by decide +kernel
theorem dX6_steady_10 : decode cX6_steady 10 = .ok (.invokevirtual 75, 3) := by decide +kernel
theorem dX6_steady_13 : decode cX6_steady 13 = .ok (.ireturn, 1) := by decide +kernel
theorem dX6_steady_14 : decode cX6_steady 14 = .ok (.aload_n 0, 1) := by decide +kernel
theorem dX6_steady_15 : decode cX6_steady 15 = .ok (.invokevirtual 85, 3) := by decide +kernel
theorem dX6_steady_18 : decode cX6_steady 18 = .ok (.istore_n 2, 1) := by decide +kernel
theorem dX6_steady_19 : decode cX6_steady 19 = .ok (.aload_n 0, 1) := by decide +kernel
theorem dX6_steady_20 : decode cX6_steady 20 = .ok (.iload_n 1, 1) := by decide +kernel
theorem dX6_steady_21 : decode cX6_steady 21 = .ok (.invokevirtual 89, 3) := by decide +kernel
theorem dX6_steady_24 : decode cX6_steady 24 = .ok (.iload_n 2, 1) := by decide +kernel
theorem dX6_steady_25 : decode cX6_steady 25 = .ok (.ireturn, 1) := by decide +kernel
theorem dX6_adds_0 : decode cX6_adds 0 = .ok (.aload_n 0, 1) := by decide +kernel
theorem dX6_adds_1 : decode cX6_adds 1 = .ok (.getfield 7, 3) := by decide +kernel
theorem dX6_adds_4 : decode cX6_adds 4 = .ok (.iconst 1, 1) := by decide +kernel
theorem dX6_adds_5 : decode cX6_adds 5 = .ok (.iaload, 1) := by decide +kernel
theorem dX6_adds_6 : decode cX6_adds 6 = .ok (.istore_n 3, 1) := by decide +kernel
theorem dX6_adds_7 : decode cX6_adds 7 = .ok (.aload_n 0, 1) := by decide +kernel
theorem dX6_adds_8 : decode cX6_adds 8 = .ok (.getfield 7, 3) := by decide +kernel
theorem dX6_adds_11 : decode cX6_adds 11 = .ok (.iload_n 3, 1) := by decide +kernel
theorem dX6_adds_12 : decode cX6_adds 12 = .ok (.iconst 0, 1) := by decide +kernel
theorem dX6_adds_13 : decode cX6_adds 13 = .ok (.invokestatic 59, 3) := by decide +kernel
theorem dX6_adds_16 : decode cX6_adds 16 = .ok (.iload_n 1, 1) := by decide +kernel
theorem dX6_adds_17 : decode cX6_adds 17 = .ok (.iastore, 1) := by decide +kernel
theorem dX6_adds_18 : decode cX6_adds 18 = .ok (.aload_n 0, 1) := by decide +kernel
theorem dX6_adds_19 : decode cX6_adds 19 = .ok (.getfield 7, 3) := by decide +kernel
theorem dX6_adds_22 : decode cX6_adds 22 = .ok (.iload_n 3, 1) := by decide +kernel
theorem dX6_adds_23 : decode cX6_adds 23 = .ok (.iconst 1, 1) := by decide +kernel
theorem dX6_adds_24 : decode cX6_adds 24 = .ok (.invokestatic 59, 3) := by decide +kernel
theorem dX6_adds_27 : decode cX6_adds 27 = .ok (.iload_n 2, 1) := by decide +kernel
theorem dX6_adds_28 : decode cX6_adds 28 = .ok (.iastore, 1) := by decide +kernel
theorem dX6_adds_29 : decode cX6_adds 29 = .ok (.aload_n 0, 1) := by decide +kernel
theorem dX6_adds_30 : decode cX6_adds 30 = .ok (.getfield 7, 3) := by decide +kernel
theorem dX6_adds_33 : decode cX6_adds 33 = .ok (.iload_n 3, 1) := by decide +kernel
theorem dX6_adds_34 : decode cX6_adds 34 = .ok (.iconst 2, 1) := by decide +kernel
theorem dX6_adds_35 : decode cX6_adds 35 = .ok (.invokestatic 59, 3) := by decide +kernel
theorem dX6_adds_38 : decode cX6_adds 38 = .ok (.iconst 5, 1) := by decide +kernel
theorem dX6_adds_39 : decode cX6_adds 39 = .ok (.iastore, 1) := by decide +kernel
theorem dX6_adds_40 : decode cX6_adds 40 = .ok (.aload_n 0, 1) := by decide +kernel
theorem dX6_adds_41 : decode cX6_adds 41 = .ok (.getfield 7, 3) := by decide +kernel
theorem dX6_adds_44 : decode cX6_adds 44 = .ok (.iload_n 3, 1) := by decide +kernel
theorem dX6_adds_45 : decode cX6_adds 45 = .ok (.iconst 3, 1) := by decide +kernel
theorem dX6_adds_46 : decode cX6_adds 46 = .ok (.invokestatic 59, 3) := by decide +kernel
theorem dX6_adds_49 : decode cX6_adds 49 = .ok (.bipush 50, 2) := by decide +kernel
theorem dX6_adds_51 : decode cX6_adds 51 = .ok (.iastore, 1) := by decide +kernel
theorem dX6_adds_52 : decode cX6_adds 52 = .ok (.aload_n 0, 1) := by decide +kernel
theorem dX6_adds_53 : decode cX6_adds 53 = .ok (.getfield 7, 3) := by decide +kernel
theorem dX6_adds_56 : decode cX6_adds 56 = .ok (.iload_n 3, 1) := by decide +kernel
theorem dX6_adds_57 : decode cX6_adds 57 = .ok (.iconst 4, 1) := by decide +kernel
theorem dX6_adds_58 : decode cX6_adds 58 = .ok (.invokestatic 59, 3) := by decide +kernel
theorem dX6_adds_61 : decode cX6_adds 61 = .ok (.iconst 0, 1) := by decide +kernel
theorem dX6_adds_62 : decode cX6_adds 62 = .ok (.iastore, 1) := by decide +kernel
theorem dX6_adds_63 : decode cX6_adds 63 = .ok (.aload_n 0, 1) := by decide +kernel
theorem dX6_adds_64 : decode cX6_adds 64 = .ok (.getfield 7, 3) := by decide +kernel
theorem dX6_adds_67 : decode cX6_adds 67 = .ok (.iconst 1, 1) := by decide +kernel
theorem dX6_adds_68 : decode cX6_adds 68 = .ok (.dup2, 1) := by decide +kernel
theorem dX6_adds_69 : decode cX6_adds 69 = .ok (.iaload, 1) := by decide +kernel
theorem dX6_adds_70 : decode cX6_adds 70 = .ok (.iconst 1, 1) := by decide +kernel
theorem dX6_adds_71 : decode cX6_adds 71 = .ok (.iadd, 1) := by decide +kernel
theorem dX6_adds_72 : decode cX6_adds 72 = .ok (.iastore, 1) := by decide +kernel
theorem dX6_adds_73 : decode cX6_adds 73 = .ok (.iload_n 3, 1) := by decide +kernel
theorem dX6_adds_74 : decode cX6_adds 74 = .ok (.ireturn, 1) := by decide +kernel
theorem dX6_watcher_0 : decode cX6_watcher 0 = .ok (.iload_n 1, 1) := by decide +kernel
theorem dX6_watcher_1 : decode cX6_watcher 1 = .ok (.invokestatic 93, 3) := by decide +kernel
theorem dX6_watcher_4 : decode cX6_watcher 4 = .ok (.ifCond .eq 10, 3) := by decide +kernel
theorem dX6_watcher_7 : decode cX6_watcher 7 = .ok (.iload_n 2, 1) := by decide +kernel
theorem dX6_watcher_8 : decode cX6_watcher 8 = .ok (.invokestatic 66, 3) := by decide +kernel
theorem dX6_watcher_11 : decode cX6_watcher 11 = .ok (.ifCond .ne 10, 3) := by decide +kernel
theorem dX6_watcher_14 : decode cX6_watcher 14 = .ok (.aload_n 0, 1) := by decide +kernel
theorem dX6_watcher_15 : decode cX6_watcher 15 = .ok (.ldc 46, 2) := by decide +kernel
theorem dX6_watcher_17 : decode cX6_watcher 17 = .ok (.invokevirtual 75, 3) := by decide +kernel
theorem dX6_watcher_20 : decode cX6_watcher 20 = .ok (.ireturn, 1) := by decide +kernel
theorem dX6_watcher_21 : decode cX6_watcher 21 = .ok (.aload_n 0, 1) := by decide +kernel
theorem dX6_watcher_22 : decode cX6_watcher 22 = .ok (.getfield 7, 3) := by decide +kernel
theorem dX6_watcher_25 : decode cX6_watcher 25 = .ok (.iconst 1, 1) := by decide +kernel
theorem dX6_watcher_26 : decode cX6_watcher 26 = .ok (.iaload, 1) := by decide +kernel
theorem dX6_watcher_27 : decode cX6_watcher 27 = .ok (.bipush 8, 2) := by decide +kernel
theorem dX6_watcher_29 : decode cX6_watcher 29 = .ok (.if_icmp .ne 12, 3) := by decide +kernel
theorem dX6_watcher_32 : decode cX6_watcher 32 = .ok (.aload_n 0, 1) := by decide +kernel
theorem dX6_watcher_33 : decode cX6_watcher 33 = .ok (.ldc 96, 2) := by decide +kernel
theorem dX6_watcher_35 : decode cX6_watcher 35 = .ok (.invokevirtual 75, 3) := by decide +kernel
theorem dX6_watcher_38 : decode cX6_watcher 38 = .ok (.goto 9, 3) := by decide +kernel
theorem dX6_watcher_41 : decode cX6_watcher 41 = .ok (.aload_n 0, 1) := by decide +kernel
theorem dX6_watcher_42 : decode cX6_watcher 42 = .ok (.iload_n 1, 1) := by decide +kernel
theorem dX6_watcher_43 : decode cX6_watcher 43 = .ok (.iload_n 2, 1) := by decide +kernel
theorem dX6_watcher_44 : decode cX6_watcher 44 = .ok (.invokevirtual 97, 3) := by decide +kernel
theorem dX6_watcher_47 : decode cX6_watcher 47 = .ok (.ireturn, 1) := by decide +kernel
theorem dX6_bears_0 : decode cX6_bears 0 = .ok (.iconst 5, 1) := by decide +kernel
theorem dX6_bears_1 : decode cX6_bears 1 = .ok (.aload_n 0, 1) := by decide +kernel
theorem dX6_bears_2 : decode cX6_bears 2 = .ok (.iload_n 1, 1) := by decide +kernel
theorem dX6_bears_3 : decode cX6_bears 3 = .ok (.iconst 2, 1) := by decide +kernel
theorem dX6_bears_4 : decode cX6_bears 4 = .ok (.invokevirtual 63, 3) := by decide +kernel
theorem dX6_bears_7 : decode cX6_bears 7 = .ok (.bipush 10, 2) := by decide +kernel
theorem dX6_bears_9 : decode cX6_bears 9 = .ok (.idiv, 1) := by decide +kernel
theorem dX6_bears_10 : decode cX6_bears 10 = .ok (.iadd, 1) := by decide +kernel
theorem dX6_bears_11 : decode cX6_bears 11 = .ok (.istore_n 2, 1) := by decide +kernel
theorem dX6_bears_12 : decode cX6_bears 12 = .ok (.aload_n 0, 1) := by decide +kernel
theorem dX6_bears_13 : decode cX6_bears 13 = .ok (.iload_n 1, 1) := by decide +kernel
theorem dX6_bears_14 : decode cX6_bears 14 = .ok (.iconst 0, 1) := by decide +kernel
theorem dX6_bears_15 : decode cX6_bears 15 = .ok (.invokevirtual 63, 3) := by decide +kernel
theorem dX6_bears_18 : decode cX6_bears 18 = .ok (.tableswitch 68 1 6 #[38, 40, 42, 44, 61, 64], 38) := by decide +kernel
theorem dX6_bears_56 : decode cX6_bears 56 = .ok (.iload_n 2, 1) := by decide +kernel
theorem dX6_bears_57 : decode cX6_bears 57 = .ok (.ireturn, 1) := by decide +kernel
theorem dX6_bears_58 : decode cX6_bears 58 = .ok (.iconst 3, 1) := by decide +kernel
theorem dX6_bears_59 : decode cX6_bears 59 = .ok (.ireturn, 1) := by decide +kernel
theorem dX6_bears_60 : decode cX6_bears 60 = .ok (.iconst 2, 1) := by decide +kernel
theorem dX6_bears_61 : decode cX6_bears 61 = .ok (.ireturn, 1) := by decide +kernel
theorem dX6_bears_62 : decode cX6_bears 62 = .ok (.aload_n 0, 1) := by decide +kernel
theorem dX6_bears_63 : decode cX6_bears 63 = .ok (.iload_n 1, 1) := by decide +kernel
theorem dX6_bears_64 : decode cX6_bears 64 = .ok (.iconst 3, 1) := by decide +kernel
theorem dX6_bears_65 : decode cX6_bears 65 = .ok (.invokevirtual 63, 3) := by decide +kernel
theorem dX6_bears_68 : decode cX6_bears 68 = .ok (.bipush 20, 2) := by decide +kernel
theorem dX6_bears_70 : decode cX6_bears 70 = .ok (.if_icmp .ge 7, 3) := by decide +kernel
theorem dX6_bears_73 : decode cX6_bears 73 = .ok (.iconst 1, 1) := by decide +kernel
theorem dX6_bears_74 : decode cX6_bears 74 = .ok (.goto 4, 3) := by decide +kernel
theorem dX6_bears_77 : decode cX6_bears 77 = .ok (.iconst 2, 1) := by decide +kernel
theorem dX6_bears_78 : decode cX6_bears 78 = .ok (.ireturn, 1) := by decide +kernel
theorem dX6_bears_79 : decode cX6_bears 79 = .ok (.bipush 20, 2) := by decide +kernel
theorem dX6_bears_81 : decode cX6_bears 81 = .ok (.ireturn, 1) := by decide +kernel
theorem dX6_bears_82 : decode cX6_bears 82 = .ok (.iconst 2, 1) := by decide +kernel
theorem dX6_bears_83 : decode cX6_bears 83 = .ok (.iload_n 2, 1) := by decide +kernel
theorem dX6_bears_84 : decode cX6_bears 84 = .ok (.imul, 1) := by decide +kernel
theorem dX6_bears_85 : decode cX6_bears 85 = .ok (.ireturn, 1) := by decide +kernel
theorem dX6_bears_86 : decode cX6_bears 86 = .ok (.iconst 5, 1) := by decide +kernel
theorem dX6_bears_87 : decode cX6_bears 87 = .ok (.ireturn, 1) := by decide +kernel
theorem dX6_doubts_0 : decode cX6_doubts 0 = .ok (.aload_n 0, 1) := by decide +kernel
theorem dX6_doubts_1 : decode cX6_doubts 1 = .ok (.iload_n 1, 1) := by decide +kernel
theorem dX6_doubts_2 : decode cX6_doubts 2 = .ok (.iconst 0, 1) := by decide +kernel
theorem dX6_doubts_3 : decode cX6_doubts 3 = .ok (.invokevirtual 63, 3) := by decide +kernel
theorem dX6_doubts_6 : decode cX6_doubts 6 = .ok (.tableswitch 53 1 6 #[38, 40, 43, 46, 49, 51], 38) := by decide +kernel
theorem dX6_doubts_44 : decode cX6_doubts 44 = .ok (.iconst 5, 1) := by decide +kernel
theorem dX6_doubts_45 : decode cX6_doubts 45 = .ok (.ireturn, 1) := by decide +kernel
theorem dX6_doubts_46 : decode cX6_doubts 46 = .ok (.bipush 20, 2) := by decide +kernel
theorem dX6_doubts_48 : decode cX6_doubts 48 = .ok (.ireturn, 1) := by decide +kernel
theorem dX6_doubts_49 : decode cX6_doubts 49 = .ok (.bipush 25, 2) := by decide +kernel
theorem dX6_doubts_51 : decode cX6_doubts 51 = .ok (.ireturn, 1) := by decide +kernel
theorem dX6_doubts_52 : decode cX6_doubts 52 = .ok (.bipush 50, 2) := by decide +kernel
theorem dX6_doubts_54 : decode cX6_doubts 54 = .ok (.ireturn, 1) := by decide +kernel
theorem dX6_doubts_55 : decode cX6_doubts 55 = .ok (.iconst 0, 1) := by decide +kernel
theorem dX6_doubts_56 : decode cX6_doubts 56 = .ok (.ireturn, 1) := by decide +kernel
theorem dX6_doubts_57 : decode cX6_doubts 57 = .ok (.iconst 1, 1) := by decide +kernel
theorem dX6_doubts_58 : decode cX6_doubts 58 = .ok (.ireturn, 1) := by decide +kernel
theorem dX6_doubts_59 : decode cX6_doubts 59 = .ok (.bipush 10, 2) := by decide +kernel
theorem dX6_doubts_61 : decode cX6_doubts 61 = .ok (.ireturn, 1) := by decide +kernel
theorem dX6_trusts_0 : decode cX6_trusts 0 = .ok (.aload_n 0, 1) := by decide +kernel
theorem dX6_trusts_1 : decode cX6_trusts 1 = .ok (.iload_n 1, 1) := by decide +kernel
theorem dX6_trusts_2 : decode cX6_trusts 2 = .ok (.iconst 0, 1) := by decide +kernel
theorem dX6_trusts_3 : decode cX6_trusts 3 = .ok (.invokevirtual 63, 3) := by decide +kernel
theorem dX6_trusts_6 : decode cX6_trusts 6 = .ok (.tableswitch 44 1 6 #[38, 44, 40, 40, 42, 38], 38) := by decide +kernel
theorem dX6_trusts_44 : decode cX6_trusts 44 = .ok (.iconst 2, 1) := by decide +kernel
theorem dX6_trusts_45 : decode cX6_trusts 45 = .ok (.ireturn, 1) := by decide +kernel
theorem dX6_trusts_46 : decode cX6_trusts 46 = .ok (.iconst 0, 1) := by decide +kernel
theorem dX6_trusts_47 : decode cX6_trusts 47 = .ok (.ireturn, 1) := by decide +kernel
theorem dX6_trusts_48 : decode cX6_trusts 48 = .ok (.iconst 3, 1) := by decide +kernel
theorem dX6_trusts_49 : decode cX6_trusts 49 = .ok (.ireturn, 1) := by decide +kernel
theorem dX6_trusts_50 : decode cX6_trusts 50 = .ok (.iconst 1, 1) := by decide +kernel
theorem dX6_trusts_51 : decode cX6_trusts 51 = .ok (.ireturn, 1) := by decide +kernel
theorem dX6_of_0 : decode cX6_of 0 = .ok (.aload_n 0, 1) := by decide +kernel
theorem dX6_of_1 : decode cX6_of 1 = .ok (.iload_n 1, 1) := by decide +kernel
theorem dX6_of_2 : decode cX6_of 2 = .ok (.invokevirtual 100, 3) := by decide +kernel
theorem dX6_of_5 : decode cX6_of 5 = .ok (.ifCond .eq 15, 3) := by decide +kernel
theorem dX6_of_8 : decode cX6_of 8 = .ok (.iload_n 2, 1) := by decide +kernel
theorem dX6_of_9 : decode cX6_of 9 = .ok (.i2l, 1) := by decide +kernel
theorem dX6_of_10 : decode cX6_of 10 = .ok (.lconst 0, 1) := by decide +kernel
theorem dX6_of_11 : decode cX6_of 11 = .ok (.ldc2_w 53, 3) := by decide +kernel
theorem dX6_of_14 : decode cX6_of 14 = .ok (.invokestatic 49, 3) := by decide +kernel
theorem dX6_of_17 : decode cX6_of 17 = .ok (.ifCond .ne 10, 3) := by decide +kernel
theorem dX6_of_20 : decode cX6_of 20 = .ok (.aload_n 0, 1) := by decide +kernel
theorem dX6_of_21 : decode cX6_of 21 = .ok (.ldc 46, 2) := by decide +kernel
theorem dX6_of_23 : decode cX6_of 23 = .ok (.invokevirtual 75, 3) := by decide +kernel
theorem dX6_of_26 : decode cX6_of 26 = .ok (.ireturn, 1) := by decide +kernel
theorem dX6_of_27 : decode cX6_of 27 = .ok (.iload_n 2, 1) := by decide +kernel
theorem dX6_of_28 : decode cX6_of 28 = .ok (.iconst 5, 1) := by decide +kernel
theorem dX6_of_29 : decode cX6_of 29 = .ok (.if_icmp .ge 12, 3) := by decide +kernel
theorem dX6_of_32 : decode cX6_of 32 = .ok (.aload_n 0, 1) := by decide +kernel
theorem dX6_of_33 : decode cX6_of 33 = .ok (.iload_n 1, 1) := by decide +kernel
theorem dX6_of_34 : decode cX6_of 34 = .ok (.iload_n 2, 1) := by decide +kernel
theorem dX6_of_35 : decode cX6_of 35 = .ok (.invokevirtual 63, 3) := by decide +kernel
theorem dX6_of_38 : decode cX6_of 38 = .ok (.goto 35, 3) := by decide +kernel
theorem dX6_of_41 : decode cX6_of 41 = .ok (.iload_n 2, 1) := by decide +kernel
theorem dX6_of_42 : decode cX6_of 42 = .ok (.iconst 5, 1) := by decide +kernel
theorem dX6_of_43 : decode cX6_of 43 = .ok (.if_icmp .ne 11, 3) := by decide +kernel
theorem dX6_of_46 : decode cX6_of 46 = .ok (.aload_n 0, 1) := by decide +kernel
theorem dX6_of_47 : decode cX6_of 47 = .ok (.iload_n 1, 1) := by decide +kernel
theorem dX6_of_48 : decode cX6_of 48 = .ok (.invokevirtual 103, 3) := by decide +kernel
theorem dX6_of_51 : decode cX6_of 51 = .ok (.goto 22, 3) := by decide +kernel
theorem dX6_of_54 : decode cX6_of 54 = .ok (.iload_n 2, 1) := by decide +kernel
theorem dX6_of_55 : decode cX6_of 55 = .ok (.bipush 6, 2) := by decide +kernel
theorem dX6_of_57 : decode cX6_of 57 = .ok (.if_icmp .ne 11, 3) := by decide +kernel
theorem dX6_of_60 : decode cX6_of 60 = .ok (.aload_n 0, 1) := by decide +kernel
theorem dX6_of_61 : decode cX6_of 61 = .ok (.iload_n 1, 1) := by decide +kernel
theorem dX6_of_62 : decode cX6_of 62 = .ok (.invokevirtual 106, 3) := by decide +kernel
theorem dX6_of_65 : decode cX6_of 65 = .ok (.goto 8, 3) := by decide +kernel
theorem dX6_of_68 : decode cX6_of 68 = .ok (.aload_n 0, 1) := by decide +kernel
theorem dX6_of_69 : decode cX6_of 69 = .ok (.iload_n 1, 1) := by decide +kernel
theorem dX6_of_70 : decode cX6_of 70 = .ok (.invokevirtual 109, 3) := by decide +kernel
theorem dX6_of_73 : decode cX6_of 73 = .ok (.ireturn, 1) := by decide +kernel
theorem dX6_most_0 : decode cX6_most 0 = .ok (.iload_n 0, 1) := by decide +kernel
theorem dX6_most_1 : decode cX6_most 1 = .ok (.ifCond .ne 8, 3) := by decide +kernel
theorem dX6_most_4 : decode cX6_most 4 = .ok (.bipush 6, 2) := by decide +kernel
theorem dX6_most_6 : decode cX6_most 6 = .ok (.goto 37, 3) := by decide +kernel
theorem dX6_most_9 : decode cX6_most 9 = .ok (.iload_n 0, 1) := by decide +kernel
theorem dX6_most_10 : decode cX6_most 10 = .ok (.iconst 1, 1) := by decide +kernel
theorem dX6_most_11 : decode cX6_most 11 = .ok (.if_icmp .ne 8, 3) := by decide +kernel
theorem dX6_most_14 : decode cX6_most 14 = .ok (.bipush 11, 2) := by decide +kernel
theorem dX6_most_16 : decode cX6_most 16 = .ok (.goto 27, 3) := by decide +kernel
theorem dX6_most_19 : decode cX6_most 19 = .ok (.iload_n 0, 1) := by decide +kernel
theorem dX6_most_20 : decode cX6_most 20 = .ok (.iconst 2, 1) := by decide +kernel
theorem dX6_most_21 : decode cX6_most 21 = .ok (.if_icmp .ne 9, 3) := by decide +kernel
theorem dX6_most_24 : decode cX6_most 24 = .ok (.sipush 999, 3) := by decide +kernel
theorem dX6_most_27 : decode cX6_most 27 = .ok (.goto 16, 3) := by decide +kernel
theorem dX6_most_30 : decode cX6_most 30 = .ok (.iload_n 0, 1) := by decide +kernel
theorem dX6_most_31 : decode cX6_most 31 = .ok (.iconst 3, 1) := by decide +kernel
theorem dX6_most_32 : decode cX6_most 32 = .ok (.if_icmp .ne 8, 3) := by decide +kernel
theorem dX6_most_35 : decode cX6_most 35 = .ok (.bipush 99, 2) := by decide +kernel
theorem dX6_most_37 : decode cX6_most 37 = .ok (.goto 6, 3) := by decide +kernel
theorem dX6_most_40 : decode cX6_most 40 = .ok (.sipush 9999, 3) := by decide +kernel
theorem dX6_most_43 : decode cX6_most 43 = .ok (.ireturn, 1) := by decide +kernel
theorem dX6_change_0 : decode cX6_change 0 = .ok (.iload_n 2, 1) := by decide +kernel
theorem dX6_change_1 : decode cX6_change 1 = .ok (.i2l, 1) := by decide +kernel
theorem dX6_change_2 : decode cX6_change 2 = .ok (.lconst 0, 1) := by decide +kernel
theorem dX6_change_3 : decode cX6_change 3 = .ok (.ldc2_w 112, 3) := by decide +kernel
theorem dX6_change_6 : decode cX6_change 6 = .ok (.invokestatic 49, 3) := by decide +kernel
theorem dX6_change_9 : decode cX6_change 9 = .ok (.ifCond .eq 21, 3) := by decide +kernel
theorem dX6_change_12 : decode cX6_change 12 = .ok (.iload_n 3, 1) := by decide +kernel
theorem dX6_change_13 : decode cX6_change 13 = .ok (.i2l, 1) := by decide +kernel
theorem dX6_change_14 : decode cX6_change 14 = .ok (.lconst 0, 1) := by decide +kernel
theorem dX6_change_15 : decode cX6_change 15 = .ok (.iload_n 2, 1) := by decide +kernel
theorem dX6_change_16 : decode cX6_change 16 = .ok (.invokestatic 114, 3) := by decide +kernel
theorem dX6_change_19 : decode cX6_change 19 = .ok (.i2l, 1) := by decide +kernel
theorem dX6_change_20 : decode cX6_change 20 = .ok (.invokestatic 49, 3) := by decide +kernel
theorem dX6_change_23 : decode cX6_change 23 = .ok (.ifCond .eq 7, 3) := by decide +kernel
theorem dX6_change_26 : decode cX6_change 26 = .ok (.iconst 1, 1) := by decide +kernel
theorem dX6_change_27 : decode cX6_change 27 = .ok (.goto 4, 3) := by decide +kernel
theorem dX6_change_30 : decode cX6_change 30 = .ok (.iconst 0, 1) := by decide +kernel
theorem dX6_change_31 : decode cX6_change 31 = .ok (.istore 4, 2) := by decide +kernel
theorem dX6_change_33 : decode cX6_change 33 = .ok (.aload_n 0, 1) := by decide +kernel
theorem dX6_change_34 : decode cX6_change 34 = .ok (.iload_n 1, 1) := by decide +kernel
theorem dX6_change_35 : decode cX6_change 35 = .ok (.invokevirtual 100, 3) := by decide +kernel
theorem dX6_change_38 : decode cX6_change 38 = .ok (.ifCond .eq 21, 3) := by decide +kernel
theorem dX6_change_41 : decode cX6_change 41 = .ok (.iload 4, 2) := by decide +kernel
theorem dX6_change_43 : decode cX6_change 43 = .ok (.ifCond .eq 16, 3) := by decide +kernel
theorem dX6_change_46 : decode cX6_change 46 = .ok (.aload_n 0, 1) := by decide +kernel
theorem dX6_change_47 : decode cX6_change 47 = .ok (.iload_n 1, 1) := by decide +kernel
theorem dX6_change_48 : decode cX6_change 48 = .ok (.iload_n 2, 1) := by decide +kernel
theorem dX6_change_49 : decode cX6_change 49 = .ok (.invokestatic 59, 3) := by decide +kernel
theorem dX6_change_52 : decode cX6_change 52 = .ok (.iload_n 3, 1) := by decide +kernel
theorem dX6_change_53 : decode cX6_change 53 = .ok (.invokevirtual 72, 3) := by decide +kernel
theorem dX6_change_56 : decode cX6_change 56 = .ok (.goto 9, 3) := by decide +kernel
theorem dX6_change_59 : decode cX6_change 59 = .ok (.aload_n 0, 1) := by decide +kernel
theorem dX6_change_60 : decode cX6_change 60 = .ok (.ldc 46, 2) := by decide +kernel
theorem dX6_change_62 : decode cX6_change 62 = .ok (.invokevirtual 75, 3) := by decide +kernel
theorem dX6_change_65 : decode cX6_change 65 = .ok (.ireturn, 1) := by decide +kernel
theorem dX6_flows_0 : decode cX6_flows 0 = .ok (.iconst 0, 1) := by decide +kernel
theorem dX6_flows_1 : decode cX6_flows 1 = .ok (.istore_n 1, 1) := by decide +kernel
theorem dX6_flows_2 : decode cX6_flows 2 = .ok (.iload_n 1, 1) := by decide +kernel
theorem dX6_flows_3 : decode cX6_flows 3 = .ok (.bipush 12, 2) := by decide +kernel
theorem dX6_flows_5 : decode cX6_flows 5 = .ok (.if_icmp .ge 24, 3) := by decide +kernel
theorem dX6_flows_8 : decode cX6_flows 8 = .ok (.aload_n 0, 1) := by decide +kernel
theorem dX6_flows_9 : decode cX6_flows 9 = .ok (.getfield 25, 3) := by decide +kernel
theorem dX6_flows_12 : decode cX6_flows 12 = .ok (.iload_n 1, 1) := by decide +kernel
theorem dX6_flows_13 : decode cX6_flows 13 = .ok (.aload_n 0, 1) := by decide +kernel
theorem dX6_flows_14 : decode cX6_flows 14 = .ok (.getfield 7, 3) := by decide +kernel
theorem dX6_flows_17 : decode cX6_flows 17 = .ok (.bipush 12, 2) := by decide +kernel
theorem dX6_flows_19 : decode cX6_flows 19 = .ok (.iload_n 1, 1) := by decide +kernel
theorem dX6_flows_20 : decode cX6_flows 20 = .ok (.iadd, 1) := by decide +kernel
theorem dX6_flows_21 : decode cX6_flows 21 = .ok (.iaload, 1) := by decide +kernel
theorem dX6_flows_22 : decode cX6_flows 22 = .ok (.iastore, 1) := by decide +kernel
theorem dX6_flows_23 : decode cX6_flows 23 = .ok (.iinc 1 1, 3) := by decide +kernel
theorem dX6_flows_26 : decode cX6_flows 26 = .ok (.goto (-24), 3) := by decide +kernel
theorem dX6_flows_29 : decode cX6_flows 29 = .ok (.iconst 0, 1) := by decide +kernel
theorem dX6_flows_30 : decode cX6_flows 30 = .ok (.istore_n 1, 1) := by decide +kernel
theorem dX6_flows_31 : decode cX6_flows 31 = .ok (.iload_n 1, 1) := by decide +kernel
theorem dX6_flows_32 : decode cX6_flows 32 = .ok (.bipush 12, 2) := by decide +kernel
theorem dX6_flows_34 : decode cX6_flows 34 = .ok (.if_icmp .ge 95, 3) := by decide +kernel
theorem dX6_flows_37 : decode cX6_flows 37 = .ok (.iload_n 1, 1) := by decide +kernel
theorem dX6_flows_38 : decode cX6_flows 38 = .ok (.ifCond .ne 33, 3) := by decide +kernel
theorem dX6_flows_41 : decode cX6_flows 41 = .ok (.aload_n 0, 1) := by decide +kernel
theorem dX6_flows_42 : decode cX6_flows 42 = .ok (.getfield 117, 3) := by decide +kernel
theorem dX6_flows_45 : decode cX6_flows 45 = .ok (.ifCond .eq 7, 3) := by decide +kernel
theorem dX6_flows_48 : decode cX6_flows 48 = .ok (.iconst 0, 1) := by decide +kernel
theorem dX6_flows_49 : decode cX6_flows 49 = .ok (.goto 32, 3) := by decide +kernel
theorem dX6_flows_52 : decode cX6_flows 52 = .ok (.aload_n 0, 1) := by decide +kernel
theorem dX6_flows_53 : decode cX6_flows 53 = .ok (.getfield 7, 3) := by decide +kernel
theorem dX6_flows_56 : decode cX6_flows 56 = .ok (.iconst 4, 1) := by decide +kernel
theorem dX6_flows_57 : decode cX6_flows 57 = .ok (.aload_n 0, 1) := by decide +kernel
theorem dX6_flows_58 : decode cX6_flows 58 = .ok (.getfield 7, 3) := by decide +kernel
theorem dX6_flows_61 : decode cX6_flows 61 = .ok (.iconst 0, 1) := by decide +kernel
theorem dX6_flows_62 : decode cX6_flows 62 = .ok (.iaload, 1) := by decide +kernel
theorem dX6_flows_63 : decode cX6_flows 63 = .ok (.bipush 8, 2) := by decide +kernel
theorem dX6_flows_65 : decode cX6_flows 65 = .ok (.irem, 1) := by decide +kernel
theorem dX6_flows_66 : decode cX6_flows 66 = .ok (.iadd, 1) := by decide +kernel
theorem dX6_flows_67 : decode cX6_flows 67 = .ok (.iaload, 1) := by decide +kernel
theorem dX6_flows_68 : decode cX6_flows 68 = .ok (.goto 13, 3) := by decide +kernel
theorem dX6_flows_71 : decode cX6_flows 71 = .ok (.aload_n 0, 1) := by decide +kernel
theorem dX6_flows_72 : decode cX6_flows 72 = .ok (.getfield 25, 3) := by decide +kernel
theorem dX6_flows_75 : decode cX6_flows 75 = .ok (.iload_n 1, 1) := by decide +kernel
theorem dX6_flows_76 : decode cX6_flows 76 = .ok (.iconst 1, 1) := by decide +kernel
theorem dX6_flows_77 : decode cX6_flows 77 = .ok (.isub, 1) := by decide +kernel
theorem dX6_flows_78 : decode cX6_flows 78 = .ok (.iaload, 1) := by decide +kernel
theorem dX6_flows_79 : decode cX6_flows 79 = .ok (.iconst 2, 1) := by decide +kernel
theorem dX6_flows_80 : decode cX6_flows 80 = .ok (.idiv, 1) := by decide +kernel
theorem dX6_flows_81 : decode cX6_flows 81 = .ok (.istore_n 2, 1) := by decide +kernel
theorem dX6_flows_82 : decode cX6_flows 82 = .ok (.aload_n 0, 1) := by decide +kernel
theorem dX6_flows_83 : decode cX6_flows 83 = .ok (.getfield 25, 3) := by decide +kernel
theorem dX6_flows_86 : decode cX6_flows 86 = .ok (.iload_n 1, 1) := by decide +kernel
theorem dX6_flows_87 : decode cX6_flows 87 = .ok (.iaload, 1) := by decide +kernel
theorem dX6_flows_88 : decode cX6_flows 88 = .ok (.aload_n 0, 1) := by decide +kernel
theorem dX6_flows_89 : decode cX6_flows 89 = .ok (.getfield 25, 3) := by decide +kernel
theorem dX6_flows_92 : decode cX6_flows 92 = .ok (.iload_n 1, 1) := by decide +kernel
theorem dX6_flows_93 : decode cX6_flows 93 = .ok (.iaload, 1) := by decide +kernel
theorem dX6_flows_94 : decode cX6_flows 94 = .ok (.iconst 2, 1) := by decide +kernel
theorem dX6_flows_95 : decode cX6_flows 95 = .ok (.idiv, 1) := by decide +kernel
theorem dX6_flows_96 : decode cX6_flows 96 = .ok (.isub, 1) := by decide +kernel
theorem dX6_flows_97 : decode cX6_flows 97 = .ok (.iload_n 2, 1) := by decide +kernel
theorem dX6_flows_98 : decode cX6_flows 98 = .ok (.iadd, 1) := by decide +kernel
theorem dX6_flows_99 : decode cX6_flows 99 = .ok (.istore_n 3, 1) := by decide +kernel
theorem dX6_flows_100 : decode cX6_flows 100 = .ok (.aload_n 0, 1) := by decide +kernel
theorem dX6_flows_101 : decode cX6_flows 101 = .ok (.getfield 7, 3) := by decide +kernel
theorem dX6_flows_104 : decode cX6_flows 104 = .ok (.bipush 12, 2) := by decide +kernel
theorem dX6_flows_106 : decode cX6_flows 106 = .ok (.iload_n 1, 1) := by decide +kernel
theorem dX6_flows_107 : decode cX6_flows 107 = .ok (.iadd, 1) := by decide +kernel
theorem dX6_flows_108 : decode cX6_flows 108 = .ok (.iload_n 3, 1) := by decide +kernel
theorem dX6_flows_109 : decode cX6_flows 109 = .ok (.sipush 9999, 3) := by decide +kernel
theorem dX6_flows_112 : decode cX6_flows 112 = .ok (.if_icmp .le 9, 3) := by decide +kernel
theorem dX6_flows_115 : decode cX6_flows 115 = .ok (.sipush 9999, 3) := by decide +kernel
theorem dX6_flows_118 : decode cX6_flows 118 = .ok (.goto 4, 3) := by decide +kernel
theorem dX6_flows_121 : decode cX6_flows 121 = .ok (.iload_n 3, 1) := by decide +kernel
theorem dX6_flows_122 : decode cX6_flows 122 = .ok (.iastore, 1) := by decide +kernel
theorem dX6_flows_123 : decode cX6_flows 123 = .ok (.iinc 1 1, 3) := by decide +kernel
theorem dX6_flows_126 : decode cX6_flows 126 = .ok (.goto (-95), 3) := by decide +kernel
theorem dX6_flows_129 : decode cX6_flows 129 = .ok (.aload_n 0, 1) := by decide +kernel
theorem dX6_flows_130 : decode cX6_flows 130 = .ok (.getfield 7, 3) := by decide +kernel
theorem dX6_flows_133 : decode cX6_flows 133 = .ok (.iconst 2, 1) := by decide +kernel
theorem dX6_flows_134 : decode cX6_flows 134 = .ok (.iaload, 1) := by decide +kernel
theorem dX6_flows_135 : decode cX6_flows 135 = .ok (.aload_n 0, 1) := by decide +kernel
theorem dX6_flows_136 : decode cX6_flows 136 = .ok (.getfield 25, 3) := by decide +kernel
theorem dX6_flows_139 : decode cX6_flows 139 = .ok (.bipush 11, 2) := by decide +kernel
theorem dX6_flows_141 : decode cX6_flows 141 = .ok (.iaload, 1) := by decide +kernel
theorem dX6_flows_142 : decode cX6_flows 142 = .ok (.iconst 2, 1) := by decide +kernel
theorem dX6_flows_143 : decode cX6_flows 143 = .ok (.idiv, 1) := by decide +kernel
theorem dX6_flows_144 : decode cX6_flows 144 = .ok (.iadd, 1) := by decide +kernel
theorem dX6_flows_145 : decode cX6_flows 145 = .ok (.istore_n 1, 1) := by decide +kernel
theorem dX6_flows_146 : decode cX6_flows 146 = .ok (.aload_n 0, 1) := by decide +kernel
theorem dX6_flows_147 : decode cX6_flows 147 = .ok (.getfield 7, 3) := by decide +kernel
theorem dX6_flows_150 : decode cX6_flows 150 = .ok (.iconst 2, 1) := by decide +kernel
theorem dX6_flows_151 : decode cX6_flows 151 = .ok (.iload_n 1, 1) := by decide +kernel
theorem dX6_flows_152 : decode cX6_flows 152 = .ok (.ldc 121, 2) := by decide +kernel
theorem dX6_flows_154 : decode cX6_flows 154 = .ok (.if_icmp .le 8, 3) := by decide +kernel
theorem dX6_flows_157 : decode cX6_flows 157 = .ok (.ldc 121, 2) := by decide +kernel
theorem dX6_flows_159 : decode cX6_flows 159 = .ok (.goto 4, 3) := by decide +kernel
theorem dX6_flows_162 : decode cX6_flows 162 = .ok (.iload_n 1, 1) := by decide +kernel
theorem dX6_flows_163 : decode cX6_flows 163 = .ok (.iastore, 1) := by decide +kernel
theorem dX6_flows_164 : decode cX6_flows 164 = .ok (.return_, 1) := by decide +kernel
theorem dX6_distance_0 : decode cX6_distance 0 = .ok (.iload_n 0, 1) := by decide +kernel
theorem dX6_distance_1 : decode cX6_distance 1 = .ok (.iload_n 1, 1) := by decide +kernel
theorem dX6_distance_2 : decode cX6_distance 2 = .ok (.if_icmp .ge 9, 3) := by decide +kernel
theorem dX6_distance_5 : decode cX6_distance 5 = .ok (.iload_n 1, 1) := by decide +kernel
theorem dX6_distance_6 : decode cX6_distance 6 = .ok (.iload_n 0, 1) := by decide +kernel
theorem dX6_distance_7 : decode cX6_distance 7 = .ok (.isub, 1) := by decide +kernel
theorem dX6_distance_8 : decode cX6_distance 8 = .ok (.goto 6, 3) := by decide +kernel
theorem dX6_distance_11 : decode cX6_distance 11 = .ok (.iload_n 0, 1) := by decide +kernel
theorem dX6_distance_12 : decode cX6_distance 12 = .ok (.iload_n 1, 1) := by decide +kernel
theorem dX6_distance_13 : decode cX6_distance 13 = .ok (.isub, 1) := by decide +kernel
theorem dX6_distance_14 : decode cX6_distance 14 = .ok (.ireturn, 1) := by decide +kernel
theorem dX6_sees_0 : decode cX6_sees 0 = .ok (.aload_n 0, 1) := by decide +kernel
theorem dX6_sees_1 : decode cX6_sees 1 = .ok (.iload_n 1, 1) := by decide +kernel
theorem dX6_sees_2 : decode cX6_sees 2 = .ok (.iconst 3, 1) := by decide +kernel
theorem dX6_sees_3 : decode cX6_sees 3 = .ok (.invokevirtual 63, 3) := by decide +kernel
theorem dX6_sees_6 : decode cX6_sees 6 = .ok (.istore_n 2, 1) := by decide +kernel
theorem dX6_sees_7 : decode cX6_sees 7 = .ok (.aload_n 0, 1) := by decide +kernel
theorem dX6_sees_8 : decode cX6_sees 8 = .ok (.iload_n 1, 1) := by decide +kernel
theorem dX6_sees_9 : decode cX6_sees 9 = .ok (.invokevirtual 122, 3) := by decide +kernel
theorem dX6_sees_12 : decode cX6_sees 12 = .ok (.aload_n 0, 1) := by decide +kernel
theorem dX6_sees_13 : decode cX6_sees 13 = .ok (.getfield 25, 3) := by decide +kernel
theorem dX6_sees_16 : decode cX6_sees 16 = .ok (.aload_n 0, 1) := by decide +kernel
theorem dX6_sees_17 : decode cX6_sees 17 = .ok (.iload_n 1, 1) := by decide +kernel
theorem dX6_sees_18 : decode cX6_sees 18 = .ok (.iconst 1, 1) := by decide +kernel
theorem dX6_sees_19 : decode cX6_sees 19 = .ok (.invokevirtual 63, 3) := by decide +kernel
theorem dX6_sees_22 : decode cX6_sees 22 = .ok (.iaload, 1) := by decide +kernel
theorem dX6_sees_23 : decode cX6_sees 23 = .ok (.invokestatic 125, 3) := by decide +kernel
theorem dX6_sees_26 : decode cX6_sees 26 = .ok (.istore_n 3, 1) := by decide +kernel
theorem dX6_sees_27 : decode cX6_sees 27 = .ok (.aload_n 0, 1) := by decide +kernel
theorem dX6_sees_28 : decode cX6_sees 28 = .ok (.iload_n 1, 1) := by decide +kernel
theorem dX6_sees_29 : decode cX6_sees 29 = .ok (.invokevirtual 122, 3) := by decide +kernel
theorem dX6_sees_32 : decode cX6_sees 32 = .ok (.aload_n 0, 1) := by decide +kernel
theorem dX6_sees_33 : decode cX6_sees 33 = .ok (.iload_n 1, 1) := by decide +kernel
theorem dX6_sees_34 : decode cX6_sees 34 = .ok (.iconst 2, 1) := by decide +kernel
theorem dX6_sees_35 : decode cX6_sees 35 = .ok (.invokevirtual 63, 3) := by decide +kernel
theorem dX6_sees_38 : decode cX6_sees 38 = .ok (.if_icmp .ge 7, 3) := by decide +kernel
theorem dX6_sees_41 : decode cX6_sees 41 = .ok (.iconst 1, 1) := by decide +kernel
theorem dX6_sees_42 : decode cX6_sees 42 = .ok (.goto 4, 3) := by decide +kernel
theorem dX6_sees_45 : decode cX6_sees 45 = .ok (.iconst 0, 1) := by decide +kernel
theorem dX6_sees_46 : decode cX6_sees 46 = .ok (.istore 4, 2) := by decide +kernel
theorem dX6_sees_48 : decode cX6_sees 48 = .ok (.iload_n 2, 1) := by decide +kernel
theorem dX6_sees_49 : decode cX6_sees 49 = .ok (.ifCond .le 36, 3) := by decide +kernel
theorem dX6_sees_52 : decode cX6_sees 52 = .ok (.iload_n 3, 1) := by decide +kernel
theorem dX6_sees_53 : decode cX6_sees 53 = .ok (.aload_n 0, 1) := by decide +kernel
theorem dX6_sees_54 : decode cX6_sees 54 = .ok (.iload_n 1, 1) := by decide +kernel
theorem dX6_sees_55 : decode cX6_sees 55 = .ok (.invokevirtual 103, 3) := by decide +kernel
theorem dX6_sees_58 : decode cX6_sees 58 = .ok (.if_icmp .le 27, 3) := by decide +kernel
theorem dX6_sees_61 : decode cX6_sees 61 = .ok (.iload_n 2, 1) := by decide +kernel
theorem dX6_sees_62 : decode cX6_sees 62 = .ok (.aload_n 0, 1) := by decide +kernel
theorem dX6_sees_63 : decode cX6_sees 63 = .ok (.iload_n 1, 1) := by decide +kernel
theorem dX6_sees_64 : decode cX6_sees 64 = .ok (.invokevirtual 106, 3) := by decide +kernel
theorem dX6_sees_67 : decode cX6_sees 67 = .ok (.if_icmp .le 13, 3) := by decide +kernel
theorem dX6_sees_70 : decode cX6_sees 70 = .ok (.iload_n 2, 1) := by decide +kernel
theorem dX6_sees_71 : decode cX6_sees 71 = .ok (.aload_n 0, 1) := by decide +kernel
theorem dX6_sees_72 : decode cX6_sees 72 = .ok (.iload_n 1, 1) := by decide +kernel
theorem dX6_sees_73 : decode cX6_sees 73 = .ok (.invokevirtual 106, 3) := by decide +kernel
theorem dX6_sees_76 : decode cX6_sees 76 = .ok (.isub, 1) := by decide +kernel
theorem dX6_sees_77 : decode cX6_sees 77 = .ok (.goto 4, 3) := by decide +kernel
theorem dX6_sees_80 : decode cX6_sees 80 = .ok (.iconst 0, 1) := by decide +kernel
theorem dX6_sees_81 : decode cX6_sees 81 = .ok (.istore_n 2, 1) := by decide +kernel
theorem dX6_sees_82 : decode cX6_sees 82 = .ok (.goto 37, 3) := by decide +kernel
theorem dX6_sees_85 : decode cX6_sees 85 = .ok (.iload_n 2, 1) := by decide +kernel
theorem dX6_sees_86 : decode cX6_sees 86 = .ok (.ifCond .le 33, 3) := by decide +kernel
theorem dX6_sees_89 : decode cX6_sees 89 = .ok (.iload 4, 2) := by decide +kernel
theorem dX6_sees_91 : decode cX6_sees 91 = .ok (.ifCond .ne 28, 3) := by decide +kernel
theorem dX6_sees_94 : decode cX6_sees 94 = .ok (.iload_n 2, 1) := by decide +kernel
theorem dX6_sees_95 : decode cX6_sees 95 = .ok (.aload_n 0, 1) := by decide +kernel
theorem dX6_sees_96 : decode cX6_sees 96 = .ok (.iload_n 1, 1) := by decide +kernel
theorem dX6_sees_97 : decode cX6_sees 97 = .ok (.invokevirtual 109, 3) := by decide +kernel
theorem dX6_sees_100 : decode cX6_sees 100 = .ok (.iadd, 1) := by decide +kernel
theorem dX6_sees_101 : decode cX6_sees 101 = .ok (.bipush 99, 2) := by decide +kernel
theorem dX6_sees_103 : decode cX6_sees 103 = .ok (.if_icmp .le 8, 3) := by decide +kernel
theorem dX6_sees_106 : decode cX6_sees 106 = .ok (.bipush 99, 2) := by decide +kernel
theorem dX6_sees_108 : decode cX6_sees 108 = .ok (.goto 10, 3) := by decide +kernel
theorem dX6_sees_111 : decode cX6_sees 111 = .ok (.iload_n 2, 1) := by decide +kernel
theorem dX6_sees_112 : decode cX6_sees 112 = .ok (.aload_n 0, 1) := by decide +kernel
theorem dX6_sees_113 : decode cX6_sees 113 = .ok (.iload_n 1, 1) := by decide +kernel
theorem dX6_sees_114 : decode cX6_sees 114 = .ok (.invokevirtual 109, 3) := by decide +kernel
theorem dX6_sees_117 : decode cX6_sees 117 = .ok (.iadd, 1) := by decide +kernel
theorem dX6_sees_118 : decode cX6_sees 118 = .ok (.istore_n 2, 1) := by decide +kernel
theorem dX6_sees_119 : decode cX6_sees 119 = .ok (.aload_n 0, 1) := by decide +kernel
theorem dX6_sees_120 : decode cX6_sees 120 = .ok (.getfield 7, 3) := by decide +kernel
theorem dX6_sees_123 : decode cX6_sees 123 = .ok (.iload_n 1, 1) := by decide +kernel
theorem dX6_sees_124 : decode cX6_sees 124 = .ok (.iconst 3, 1) := by decide +kernel
theorem dX6_sees_125 : decode cX6_sees 125 = .ok (.invokestatic 59, 3) := by decide +kernel
theorem dX6_sees_128 : decode cX6_sees 128 = .ok (.iload_n 2, 1) := by decide +kernel
theorem dX6_sees_129 : decode cX6_sees 129 = .ok (.iastore, 1) := by decide +kernel
theorem dX6_sees_130 : decode cX6_sees 130 = .ok (.aload_n 0, 1) := by decide +kernel
theorem dX6_sees_131 : decode cX6_sees 131 = .ok (.getfield 7, 3) := by decide +kernel
theorem dX6_sees_134 : decode cX6_sees 134 = .ok (.iload_n 1, 1) := by decide +kernel
theorem dX6_sees_135 : decode cX6_sees 135 = .ok (.iconst 4, 1) := by decide +kernel
theorem dX6_sees_136 : decode cX6_sees 136 = .ok (.invokestatic 59, 3) := by decide +kernel
theorem dX6_sees_139 : decode cX6_sees 139 = .ok (.dup2, 1) := by decide +kernel
theorem dX6_sees_140 : decode cX6_sees 140 = .ok (.iaload, 1) := by decide +kernel
theorem dX6_sees_141 : decode cX6_sees 141 = .ok (.iload 4, 2) := by decide +kernel
theorem dX6_sees_143 : decode cX6_sees 143 = .ok (.ifCond .eq 19, 3) := by decide +kernel
theorem dX6_sees_146 : decode cX6_sees 146 = .ok (.aload_n 0, 1) := by decide +kernel
theorem dX6_sees_147 : decode cX6_sees 147 = .ok (.iload_n 1, 1) := by decide +kernel
theorem dX6_sees_148 : decode cX6_sees 148 = .ok (.iconst 4, 1) := by decide +kernel
theorem dX6_sees_149 : decode cX6_sees 149 = .ok (.invokevirtual 63, 3) := by decide +kernel
theorem dX6_sees_152 : decode cX6_sees 152 = .ok (.sipush 9999, 3) := by decide +kernel
theorem dX6_sees_155 : decode cX6_sees 155 = .ok (.if_icmp .ge 7, 3) := by decide +kernel
theorem dX6_sees_158 : decode cX6_sees 158 = .ok (.iconst 1, 1) := by decide +kernel
theorem dX6_sees_159 : decode cX6_sees 159 = .ok (.goto 4, 3) := by decide +kernel
theorem dX6_sees_162 : decode cX6_sees 162 = .ok (.iconst 0, 1) := by decide +kernel
theorem dX6_sees_163 : decode cX6_sees 163 = .ok (.iadd, 1) := by decide +kernel
theorem dX6_sees_164 : decode cX6_sees 164 = .ok (.iastore, 1) := by decide +kernel
theorem dX6_sees_165 : decode cX6_sees 165 = .ok (.return_, 1) := by decide +kernel
theorem dX6_hour_0 : decode cX6_hour 0 = .ok (.aload_n 0, 1) := by decide +kernel
theorem dX6_hour_1 : decode cX6_hour 1 = .ok (.invokevirtual 128, 3) := by decide +kernel
theorem dX6_hour_4 : decode cX6_hour 4 = .ok (.iconst 0, 1) := by decide +kernel
theorem dX6_hour_5 : decode cX6_hour 5 = .ok (.istore_n 1, 1) := by decide +kernel
theorem dX6_hour_6 : decode cX6_hour 6 = .ok (.iload_n 1, 1) := by decide +kernel
theorem dX6_hour_7 : decode cX6_hour 7 = .ok (.aload_n 0, 1) := by decide +kernel
theorem dX6_hour_8 : decode cX6_hour 8 = .ok (.getfield 7, 3) := by decide +kernel
theorem dX6_hour_11 : decode cX6_hour 11 = .ok (.iconst 1, 1) := by decide +kernel
theorem dX6_hour_12 : decode cX6_hour 12 = .ok (.iaload, 1) := by decide +kernel
theorem dX6_hour_13 : decode cX6_hour 13 = .ok (.if_icmp .ge 14, 3) := by decide +kernel
theorem dX6_hour_16 : decode cX6_hour 16 = .ok (.aload_n 0, 1) := by decide +kernel
theorem dX6_hour_17 : decode cX6_hour 17 = .ok (.iload_n 1, 1) := by decide +kernel
theorem dX6_hour_18 : decode cX6_hour 18 = .ok (.invokevirtual 131, 3) := by decide +kernel
theorem dX6_hour_21 : decode cX6_hour 21 = .ok (.iinc 1 1, 3) := by decide +kernel
theorem dX6_hour_24 : decode cX6_hour 24 = .ok (.goto (-18), 3) := by decide +kernel
theorem dX6_hour_27 : decode cX6_hour 27 = .ok (.aload_n 0, 1) := by decide +kernel
theorem dX6_hour_28 : decode cX6_hour 28 = .ok (.getfield 7, 3) := by decide +kernel
theorem dX6_hour_31 : decode cX6_hour 31 = .ok (.iconst 0, 1) := by decide +kernel
theorem dX6_hour_32 : decode cX6_hour 32 = .ok (.dup2, 1) := by decide +kernel
theorem dX6_hour_33 : decode cX6_hour 33 = .ok (.iaload, 1) := by decide +kernel
theorem dX6_hour_34 : decode cX6_hour 34 = .ok (.iconst 1, 1) := by decide +kernel
theorem dX6_hour_35 : decode cX6_hour 35 = .ok (.iadd, 1) := by decide +kernel
theorem dX6_hour_36 : decode cX6_hour 36 = .ok (.iastore, 1) := by decide +kernel
theorem dX6_hour_37 : decode cX6_hour 37 = .ok (.return_, 1) := by decide +kernel
theorem dX6_goesOn_0 : decode cX6_goesOn 0 = .ok (.iconst 0, 1) := by decide +kernel
theorem dX6_goesOn_1 : decode cX6_goesOn 1 = .ok (.istore_n 2, 1) := by decide +kernel
theorem dX6_goesOn_2 : decode cX6_goesOn 2 = .ok (.iload_n 2, 1) := by decide +kernel
theorem dX6_goesOn_3 : decode cX6_goesOn 3 = .ok (.iload_n 1, 1) := by decide +kernel
theorem dX6_goesOn_4 : decode cX6_goesOn 4 = .ok (.if_icmp .ge 13, 3) := by decide +kernel
theorem dX6_goesOn_7 : decode cX6_goesOn 7 = .ok (.aload_n 0, 1) := by decide +kernel
theorem dX6_goesOn_8 : decode cX6_goesOn 8 = .ok (.invokevirtual 134, 3) := by decide +kernel
theorem dX6_goesOn_11 : decode cX6_goesOn 11 = .ok (.iinc 2 1, 3) := by decide +kernel
theorem dX6_goesOn_14 : decode cX6_goesOn 14 = .ok (.goto (-12), 3) := by decide +kernel
theorem dX6_goesOn_17 : decode cX6_goesOn 17 = .ok (.return_, 1) := by decide +kernel
theorem dX6_knowing_0 : decode cX6_knowing 0 = .ok (.iconst 0, 1) := by decide +kernel
theorem dX6_knowing_1 : decode cX6_knowing 1 = .ok (.istore_n 1, 1) := by decide +kernel
theorem dX6_knowing_2 : decode cX6_knowing 2 = .ok (.iconst 0, 1) := by decide +kernel
theorem dX6_knowing_3 : decode cX6_knowing 3 = .ok (.istore_n 2, 1) := by decide +kernel
theorem dX6_knowing_4 : decode cX6_knowing 4 = .ok (.iload_n 2, 1) := by decide +kernel
theorem dX6_knowing_5 : decode cX6_knowing 5 = .ok (.aload_n 0, 1) := by decide +kernel
theorem dX6_knowing_6 : decode cX6_knowing 6 = .ok (.getfield 7, 3) := by decide +kernel
theorem dX6_knowing_9 : decode cX6_knowing 9 = .ok (.iconst 1, 1) := by decide +kernel
theorem dX6_knowing_10 : decode cX6_knowing 10 = .ok (.iaload, 1) := by decide +kernel
theorem dX6_knowing_11 : decode cX6_knowing 11 = .ok (.if_icmp .ge 28, 3) := by decide +kernel
theorem dX6_knowing_14 : decode cX6_knowing 14 = .ok (.iload_n 1, 1) := by decide +kernel
theorem dX6_knowing_15 : decode cX6_knowing 15 = .ok (.aload_n 0, 1) := by decide +kernel
theorem dX6_knowing_16 : decode cX6_knowing 16 = .ok (.iload_n 2, 1) := by decide +kernel
theorem dX6_knowing_17 : decode cX6_knowing 17 = .ok (.iconst 3, 1) := by decide +kernel
theorem dX6_knowing_18 : decode cX6_knowing 18 = .ok (.invokevirtual 63, 3) := by decide +kernel
theorem dX6_knowing_21 : decode cX6_knowing 21 = .ok (.ifCond .ne 9, 3) := by decide +kernel
theorem dX6_knowing_24 : decode cX6_knowing 24 = .ok (.iconst 1, 1) := by decide +kernel
theorem dX6_knowing_25 : decode cX6_knowing 25 = .ok (.iload_n 2, 1) := by decide +kernel
theorem dX6_knowing_26 : decode cX6_knowing 26 = .ok (.ishl, 1) := by decide +kernel
theorem dX6_knowing_27 : decode cX6_knowing 27 = .ok (.goto 4, 3) := by decide +kernel
theorem dX6_knowing_30 : decode cX6_knowing 30 = .ok (.iconst 0, 1) := by decide +kernel
theorem dX6_knowing_31 : decode cX6_knowing 31 = .ok (.ior, 1) := by decide +kernel
theorem dX6_knowing_32 : decode cX6_knowing 32 = .ok (.istore_n 1, 1) := by decide +kernel
theorem dX6_knowing_33 : decode cX6_knowing 33 = .ok (.iinc 2 1, 3) := by decide +kernel
theorem dX6_knowing_36 : decode cX6_knowing 36 = .ok (.goto (-32), 3) := by decide +kernel
theorem dX6_knowing_39 : decode cX6_knowing 39 = .ok (.iload_n 1, 1) := by decide +kernel
theorem dX6_knowing_40 : decode cX6_knowing 40 = .ok (.ireturn, 1) := by decide +kernel
theorem dX6_wanting_0 : decode cX6_wanting 0 = .ok (.iconst 0, 1) := by decide +kernel
theorem dX6_wanting_1 : decode cX6_wanting 1 = .ok (.istore_n 1, 1) := by decide +kernel
theorem dX6_wanting_2 : decode cX6_wanting 2 = .ok (.iconst 0, 1) := by decide +kernel
theorem dX6_wanting_3 : decode cX6_wanting 3 = .ok (.istore_n 2, 1) := by decide +kernel
theorem dX6_wanting_4 : decode cX6_wanting 4 = .ok (.iload_n 2, 1) := by decide +kernel
theorem dX6_wanting_5 : decode cX6_wanting 5 = .ok (.aload_n 0, 1) := by decide +kernel
theorem dX6_wanting_6 : decode cX6_wanting 6 = .ok (.getfield 7, 3) := by decide +kernel
theorem dX6_wanting_9 : decode cX6_wanting 9 = .ok (.iconst 1, 1) := by decide +kernel
theorem dX6_wanting_10 : decode cX6_wanting 10 = .ok (.iaload, 1) := by decide +kernel
theorem dX6_wanting_11 : decode cX6_wanting 11 = .ok (.if_icmp .ge 33, 3) := by decide +kernel
theorem dX6_wanting_14 : decode cX6_wanting 14 = .ok (.iload_n 1, 1) := by decide +kernel
theorem dX6_wanting_15 : decode cX6_wanting 15 = .ok (.aload_n 0, 1) := by decide +kernel
theorem dX6_wanting_16 : decode cX6_wanting 16 = .ok (.iload_n 2, 1) := by decide +kernel
theorem dX6_wanting_17 : decode cX6_wanting 17 = .ok (.invokevirtual 122, 3) := by decide +kernel
theorem dX6_wanting_20 : decode cX6_wanting 20 = .ok (.aload_n 0, 1) := by decide +kernel
theorem dX6_wanting_21 : decode cX6_wanting 21 = .ok (.iload_n 2, 1) := by decide +kernel
theorem dX6_wanting_22 : decode cX6_wanting 22 = .ok (.iconst 2, 1) := by decide +kernel
theorem dX6_wanting_23 : decode cX6_wanting 23 = .ok (.invokevirtual 63, 3) := by decide +kernel
theorem dX6_wanting_26 : decode cX6_wanting 26 = .ok (.if_icmp .ge 9, 3) := by decide +kernel
theorem dX6_wanting_29 : decode cX6_wanting 29 = .ok (.iconst 1, 1) := by decide +kernel
theorem dX6_wanting_30 : decode cX6_wanting 30 = .ok (.iload_n 2, 1) := by decide +kernel
theorem dX6_wanting_31 : decode cX6_wanting 31 = .ok (.ishl, 1) := by decide +kernel
theorem dX6_wanting_32 : decode cX6_wanting 32 = .ok (.goto 4, 3) := by decide +kernel
theorem dX6_wanting_35 : decode cX6_wanting 35 = .ok (.iconst 0, 1) := by decide +kernel
theorem dX6_wanting_36 : decode cX6_wanting 36 = .ok (.ior, 1) := by decide +kernel
theorem dX6_wanting_37 : decode cX6_wanting 37 = .ok (.istore_n 1, 1) := by decide +kernel
theorem dX6_wanting_38 : decode cX6_wanting 38 = .ok (.iinc 2 1, 3) := by decide +kernel
theorem dX6_wanting_41 : decode cX6_wanting 41 = .ok (.goto (-37), 3) := by decide +kernel
theorem dX6_wanting_44 : decode cX6_wanting 44 = .ok (.iload_n 1, 1) := by decide +kernel
theorem dX6_wanting_45 : decode cX6_wanting 45 = .ok (.ireturn, 1) := by decide +kernel
theorem dX6_go_0 : decode cX6_go 0 = .ok (.iload_n 1, 1) := by decide +kernel
theorem dX6_go_1 : decode cX6_go 1 = .ok (.i2l, 1) := by decide +kernel
theorem dX6_go_2 : decode cX6_go 2 = .ok (.lconst 1, 1) := by decide +kernel
theorem dX6_go_3 : decode cX6_go 3 = .ok (.ldc2_w 137, 3) := by decide +kernel
theorem dX6_go_6 : decode cX6_go 6 = .ok (.invokestatic 49, 3) := by decide +kernel
theorem dX6_go_9 : decode cX6_go 9 = .ok (.ifCond .ne 10, 3) := by decide +kernel
theorem dX6_go_12 : decode cX6_go 12 = .ok (.aload_n 0, 1) := by decide +kernel
theorem dX6_go_13 : decode cX6_go 13 = .ok (.ldc 46, 2) := by decide +kernel
theorem dX6_go_15 : decode cX6_go 15 = .ok (.invokevirtual 75, 3) := by decide +kernel
theorem dX6_go_18 : decode cX6_go 18 = .ok (.ireturn, 1) := by decide +kernel
theorem dX6_go_19 : decode cX6_go 19 = .ok (.aload_n 0, 1) := by decide +kernel
theorem dX6_go_20 : decode cX6_go 20 = .ok (.getfield 7, 3) := by decide +kernel
theorem dX6_go_23 : decode cX6_go 23 = .ok (.iconst 0, 1) := by decide +kernel
theorem dX6_go_24 : decode cX6_go 24 = .ok (.iaload, 1) := by decide +kernel
theorem dX6_go_25 : decode cX6_go 25 = .ok (.iload_n 1, 1) := by decide +kernel
theorem dX6_go_26 : decode cX6_go 26 = .ok (.iadd, 1) := by decide +kernel
theorem dX6_go_27 : decode cX6_go 27 = .ok (.ldc 139, 2) := by decide +kernel
theorem dX6_go_29 : decode cX6_go 29 = .ok (.if_icmp .le 10, 3) := by decide +kernel
theorem dX6_go_32 : decode cX6_go 32 = .ok (.aload_n 0, 1) := by decide +kernel
theorem dX6_go_33 : decode cX6_go 33 = .ok (.ldc 140, 2) := by decide +kernel
theorem dX6_go_35 : decode cX6_go 35 = .ok (.invokevirtual 75, 3) := by decide +kernel
theorem dX6_go_38 : decode cX6_go 38 = .ok (.ireturn, 1) := by decide +kernel
theorem dX6_go_39 : decode cX6_go 39 = .ok (.aload_n 0, 1) := by decide +kernel
theorem dX6_go_40 : decode cX6_go 40 = .ok (.iload_n 1, 1) := by decide +kernel
theorem dX6_go_41 : decode cX6_go 41 = .ok (.invokevirtual 141, 3) := by decide +kernel
theorem dX6_go_44 : decode cX6_go 44 = .ok (.aload_n 0, 1) := by decide +kernel
theorem dX6_go_45 : decode cX6_go 45 = .ok (.invokevirtual 144, 3) := by decide +kernel
theorem dX6_go_48 : decode cX6_go 48 = .ok (.ireturn, 1) := by decide +kernel
theorem dX6_levels_0 : decode cX6_levels 0 = .ok (.iconst 0, 1) := by decide +kernel
theorem dX6_levels_1 : decode cX6_levels 1 = .ok (.istore_n 1, 1) := by decide +kernel
theorem dX6_levels_2 : decode cX6_levels 2 = .ok (.iconst 0, 1) := by decide +kernel
theorem dX6_levels_3 : decode cX6_levels 3 = .ok (.istore_n 2, 1) := by decide +kernel
theorem dX6_levels_4 : decode cX6_levels 4 = .ok (.iload_n 2, 1) := by decide +kernel
theorem dX6_levels_5 : decode cX6_levels 5 = .ok (.bipush 12, 2) := by decide +kernel
theorem dX6_levels_7 : decode cX6_levels 7 = .ok (.if_icmp .ge 21, 3) := by decide +kernel
theorem dX6_levels_10 : decode cX6_levels 10 = .ok (.iload_n 1, 1) := by decide +kernel
theorem dX6_levels_11 : decode cX6_levels 11 = .ok (.aload_n 0, 1) := by decide +kernel
theorem dX6_levels_12 : decode cX6_levels 12 = .ok (.getfield 7, 3) := by decide +kernel
theorem dX6_levels_15 : decode cX6_levels 15 = .ok (.bipush 12, 2) := by decide +kernel
theorem dX6_levels_17 : decode cX6_levels 17 = .ok (.iload_n 2, 1) := by decide +kernel
theorem dX6_levels_18 : decode cX6_levels 18 = .ok (.iadd, 1) := by decide +kernel
theorem dX6_levels_19 : decode cX6_levels 19 = .ok (.iaload, 1) := by decide +kernel
theorem dX6_levels_20 : decode cX6_levels 20 = .ok (.iadd, 1) := by decide +kernel
theorem dX6_levels_21 : decode cX6_levels 21 = .ok (.istore_n 1, 1) := by decide +kernel
theorem dX6_levels_22 : decode cX6_levels 22 = .ok (.iinc 2 1, 3) := by decide +kernel
theorem dX6_levels_25 : decode cX6_levels 25 = .ok (.goto (-21), 3) := by decide +kernel
theorem dX6_levels_28 : decode cX6_levels 28 = .ok (.iload_n 1, 1) := by decide +kernel
theorem dX6_levels_29 : decode cX6_levels 29 = .ok (.ireturn, 1) := by decide +kernel
theorem dX6_beliefs_0 : decode cX6_beliefs 0 = .ok (.iconst 0, 1) := by decide +kernel
theorem dX6_beliefs_1 : decode cX6_beliefs 1 = .ok (.istore_n 1, 1) := by decide +kernel
theorem dX6_beliefs_2 : decode cX6_beliefs 2 = .ok (.iconst 0, 1) := by decide +kernel
theorem dX6_beliefs_3 : decode cX6_beliefs 3 = .ok (.istore_n 2, 1) := by decide +kernel
theorem dX6_beliefs_4 : decode cX6_beliefs 4 = .ok (.iload_n 2, 1) := by decide +kernel
theorem dX6_beliefs_5 : decode cX6_beliefs 5 = .ok (.aload_n 0, 1) := by decide +kernel
theorem dX6_beliefs_6 : decode cX6_beliefs 6 = .ok (.getfield 7, 3) := by decide +kernel
theorem dX6_beliefs_9 : decode cX6_beliefs 9 = .ok (.iconst 1, 1) := by decide +kernel
theorem dX6_beliefs_10 : decode cX6_beliefs 10 = .ok (.iaload, 1) := by decide +kernel
theorem dX6_beliefs_11 : decode cX6_beliefs 11 = .ok (.if_icmp .ge 18, 3) := by decide +kernel
theorem dX6_beliefs_14 : decode cX6_beliefs 14 = .ok (.iload_n 1, 1) := by decide +kernel
theorem dX6_beliefs_15 : decode cX6_beliefs 15 = .ok (.aload_n 0, 1) := by decide +kernel
theorem dX6_beliefs_16 : decode cX6_beliefs 16 = .ok (.iload_n 2, 1) := by decide +kernel
theorem dX6_beliefs_17 : decode cX6_beliefs 17 = .ok (.iconst 3, 1) := by decide +kernel
theorem dX6_beliefs_18 : decode cX6_beliefs 18 = .ok (.invokevirtual 63, 3) := by decide +kernel
theorem dX6_beliefs_21 : decode cX6_beliefs 21 = .ok (.iadd, 1) := by decide +kernel
theorem dX6_beliefs_22 : decode cX6_beliefs 22 = .ok (.istore_n 1, 1) := by decide +kernel
theorem dX6_beliefs_23 : decode cX6_beliefs 23 = .ok (.iinc 2 1, 3) := by decide +kernel
theorem dX6_beliefs_26 : decode cX6_beliefs 26 = .ok (.goto (-22), 3) := by decide +kernel
theorem dX6_beliefs_29 : decode cX6_beliefs 29 = .ok (.iload_n 1, 1) := by decide +kernel
theorem dX6_beliefs_30 : decode cX6_beliefs 30 = .ok (.ireturn, 1) := by decide +kernel
theorem dX6_now_0 : decode cX6_now 0 = .ok (.iload_n 1, 1) := by decide +kernel
theorem dX6_now_1 : decode cX6_now 1 = .ok (.tableswitch 82 0 6 #[43, 50, 55, 62, 67, 72, 77], 43) := by decide +kernel
theorem dX6_now_44 : decode cX6_now 44 = .ok (.aload_n 0, 1) := by decide +kernel
theorem dX6_now_45 : decode cX6_now 45 = .ok (.getfield 7, 3) := by decide +kernel
theorem dX6_now_48 : decode cX6_now 48 = .ok (.iconst 0, 1) := by decide +kernel
theorem dX6_now_49 : decode cX6_now 49 = .ok (.iaload, 1) := by decide +kernel
theorem dX6_now_50 : decode cX6_now 50 = .ok (.ireturn, 1) := by decide +kernel
theorem dX6_now_51 : decode cX6_now 51 = .ok (.aload_n 0, 1) := by decide +kernel
theorem dX6_now_52 : decode cX6_now 52 = .ok (.invokevirtual 147, 3) := by decide +kernel
theorem dX6_now_55 : decode cX6_now 55 = .ok (.ireturn, 1) := by decide +kernel
theorem dX6_now_56 : decode cX6_now 56 = .ok (.aload_n 0, 1) := by decide +kernel
theorem dX6_now_57 : decode cX6_now 57 = .ok (.getfield 7, 3) := by decide +kernel
theorem dX6_now_60 : decode cX6_now 60 = .ok (.iconst 2, 1) := by decide +kernel
theorem dX6_now_61 : decode cX6_now 61 = .ok (.iaload, 1) := by decide +kernel
theorem dX6_now_62 : decode cX6_now 62 = .ok (.ireturn, 1) := by decide +kernel
theorem dX6_now_63 : decode cX6_now 63 = .ok (.aload_n 0, 1) := by decide +kernel
theorem dX6_now_64 : decode cX6_now 64 = .ok (.invokevirtual 144, 3) := by decide +kernel
theorem dX6_now_67 : decode cX6_now 67 = .ok (.ireturn, 1) := by decide +kernel
theorem dX6_now_68 : decode cX6_now 68 = .ok (.aload_n 0, 1) := by decide +kernel
theorem dX6_now_69 : decode cX6_now 69 = .ok (.invokevirtual 150, 3) := by decide +kernel
theorem dX6_now_72 : decode cX6_now 72 = .ok (.ireturn, 1) := by decide +kernel
theorem dX6_now_73 : decode cX6_now 73 = .ok (.aload_n 0, 1) := by decide +kernel
theorem dX6_now_74 : decode cX6_now 74 = .ok (.invokevirtual 153, 3) := by decide +kernel
theorem dX6_now_77 : decode cX6_now 77 = .ok (.ireturn, 1) := by decide +kernel
theorem dX6_now_78 : decode cX6_now 78 = .ok (.aload_n 0, 1) := by decide +kernel
theorem dX6_now_79 : decode cX6_now 79 = .ok (.invokevirtual 85, 3) := by decide +kernel
theorem dX6_now_82 : decode cX6_now 82 = .ok (.ireturn, 1) := by decide +kernel
theorem dX6_now_83 : decode cX6_now 83 = .ok (.aload_n 0, 1) := by decide +kernel
theorem dX6_now_84 : decode cX6_now 84 = .ok (.ldc 46, 2) := by decide +kernel
theorem dX6_now_86 : decode cX6_now 86 = .ok (.invokevirtual 75, 3) := by decide +kernel
theorem dX6_now_89 : decode cX6_now 89 = .ok (.ireturn, 1) := by decide +kernel
theorem dX6_behind_0 : decode cX6_behind 0 = .ok (.aload_n 0, 1) := by decide +kernel
theorem dX6_behind_1 : decode cX6_behind 1 = .ok (.invokevirtual 156, 3) := by decide +kernel
theorem dX6_behind_4 : decode cX6_behind 4 = .ok (.aload_n 0, 1) := by decide +kernel
theorem dX6_behind_5 : decode cX6_behind 5 = .ok (.iload_n 2, 1) := by decide +kernel
theorem dX6_behind_6 : decode cX6_behind 6 = .ok (.invokevirtual 141, 3) := by decide +kernel
theorem dX6_behind_9 : decode cX6_behind 9 = .ok (.aload_n 0, 1) := by decide +kernel
theorem dX6_behind_10 : decode cX6_behind 10 = .ok (.aload_n 0, 1) := by decide +kernel
theorem dX6_behind_11 : decode cX6_behind 11 = .ok (.getfield 7, 3) := by decide +kernel
theorem dX6_behind_14 : decode cX6_behind 14 = .ok (.iload_n 1, 1) := by decide +kernel
theorem dX6_behind_15 : decode cX6_behind 15 = .ok (.iaload, 1) := by decide +kernel
theorem dX6_behind_16 : decode cX6_behind 16 = .ok (.invokevirtual 159, 3) := by decide +kernel
theorem dX6_behind_19 : decode cX6_behind 19 = .ok (.ireturn, 1) := by decide +kernel
theorem dX6_ahead_0 : decode cX6_ahead 0 = .ok (.iload_n 1, 1) := by decide +kernel
theorem dX6_ahead_1 : decode cX6_ahead 1 = .ok (.invokestatic 66, 3) := by decide +kernel
theorem dX6_ahead_4 : decode cX6_ahead 4 = .ok (.ifCond .eq 27, 3) := by decide +kernel
theorem dX6_ahead_7 : decode cX6_ahead 7 = .ok (.iload_n 2, 1) := by decide +kernel
theorem dX6_ahead_8 : decode cX6_ahead 8 = .ok (.i2l, 1) := by decide +kernel
theorem dX6_ahead_9 : decode cX6_ahead 9 = .ok (.lconst 0, 1) := by decide +kernel
theorem dX6_ahead_10 : decode cX6_ahead 10 = .ok (.ldc2_w 162, 3) := by decide +kernel
theorem dX6_ahead_13 : decode cX6_ahead 13 = .ok (.invokestatic 49, 3) := by decide +kernel
theorem dX6_ahead_16 : decode cX6_ahead 16 = .ok (.ifCond .eq 15, 3) := by decide +kernel
theorem dX6_ahead_19 : decode cX6_ahead 19 = .ok (.aload_n 0, 1) := by decide +kernel
theorem dX6_ahead_20 : decode cX6_ahead 20 = .ok (.bipush 12, 2) := by decide +kernel
theorem dX6_ahead_22 : decode cX6_ahead 22 = .ok (.iload_n 1, 1) := by decide +kernel
theorem dX6_ahead_23 : decode cX6_ahead 23 = .ok (.iadd, 1) := by decide +kernel
theorem dX6_ahead_24 : decode cX6_ahead 24 = .ok (.iload_n 2, 1) := by decide +kernel
theorem dX6_ahead_25 : decode cX6_ahead 25 = .ok (.invokevirtual 164, 3) := by decide +kernel
theorem dX6_ahead_28 : decode cX6_ahead 28 = .ok (.goto 9, 3) := by decide +kernel
theorem dX6_ahead_31 : decode cX6_ahead 31 = .ok (.aload_n 0, 1) := by decide +kernel
theorem dX6_ahead_32 : decode cX6_ahead 32 = .ok (.ldc 46, 2) := by decide +kernel
theorem dX6_ahead_34 : decode cX6_ahead 34 = .ok (.invokevirtual 75, 3) := by decide +kernel
theorem dX6_ahead_37 : decode cX6_ahead 37 = .ok (.ireturn, 1) := by decide +kernel
theorem dX6_belief_0 : decode cX6_belief 0 = .ok (.aload_n 0, 1) := by decide +kernel
theorem dX6_belief_1 : decode cX6_belief 1 = .ok (.iload_n 1, 1) := by decide +kernel
theorem dX6_belief_2 : decode cX6_belief 2 = .ok (.invokevirtual 100, 3) := by decide +kernel
theorem dX6_belief_5 : decode cX6_belief 5 = .ok (.ifCond .eq 42, 3) := by decide +kernel
theorem dX6_belief_8 : decode cX6_belief 8 = .ok (.iload_n 2, 1) := by decide +kernel
theorem dX6_belief_9 : decode cX6_belief 9 = .ok (.i2l, 1) := by decide +kernel
theorem dX6_belief_10 : decode cX6_belief 10 = .ok (.ldc2_w 167, 3) := by decide +kernel
theorem dX6_belief_13 : decode cX6_belief 13 = .ok (.ldc2_w 112, 3) := by decide +kernel
theorem dX6_belief_16 : decode cX6_belief 16 = .ok (.invokestatic 49, 3) := by decide +kernel
theorem dX6_belief_19 : decode cX6_belief 19 = .ok (.ifCond .eq 28, 3) := by decide +kernel
theorem dX6_belief_22 : decode cX6_belief 22 = .ok (.iload_n 3, 1) := by decide +kernel
theorem dX6_belief_23 : decode cX6_belief 23 = .ok (.i2l, 1) := by decide +kernel
theorem dX6_belief_24 : decode cX6_belief 24 = .ok (.lconst 0, 1) := by decide +kernel
theorem dX6_belief_25 : decode cX6_belief 25 = .ok (.ldc2_w 162, 3) := by decide +kernel
theorem dX6_belief_28 : decode cX6_belief 28 = .ok (.invokestatic 49, 3) := by decide +kernel
theorem dX6_belief_31 : decode cX6_belief 31 = .ok (.ifCond .eq 16, 3) := by decide +kernel
theorem dX6_belief_34 : decode cX6_belief 34 = .ok (.aload_n 0, 1) := by decide +kernel
theorem dX6_belief_35 : decode cX6_belief 35 = .ok (.iload_n 1, 1) := by decide +kernel
theorem dX6_belief_36 : decode cX6_belief 36 = .ok (.iload_n 2, 1) := by decide +kernel
theorem dX6_belief_37 : decode cX6_belief 37 = .ok (.invokestatic 59, 3) := by decide +kernel
theorem dX6_belief_40 : decode cX6_belief 40 = .ok (.iload_n 3, 1) := by decide +kernel
theorem dX6_belief_41 : decode cX6_belief 41 = .ok (.invokevirtual 164, 3) := by decide +kernel
theorem dX6_belief_44 : decode cX6_belief 44 = .ok (.goto 9, 3) := by decide +kernel
theorem dX6_belief_47 : decode cX6_belief 47 = .ok (.aload_n 0, 1) := by decide +kernel
theorem dX6_belief_48 : decode cX6_belief 48 = .ok (.ldc 46, 2) := by decide +kernel
theorem dX6_belief_50 : decode cX6_belief 50 = .ok (.invokevirtual 75, 3) := by decide +kernel
theorem dX6_belief_53 : decode cX6_belief 53 = .ok (.ireturn, 1) := by decide +kernel
theorem dX6_until_0 : decode cX6_until 0 = .ok (.aload_n 0, 1) := by decide +kernel
theorem dX6_until_1 : decode cX6_until 1 = .ok (.invokevirtual 156, 3) := by decide +kernel
theorem dX6_until_4 : decode cX6_until 4 = .ok (.iconst 0, 1) := by decide +kernel
theorem dX6_until_5 : decode cX6_until 5 = .ok (.istore 4, 2) := by decide +kernel
theorem dX6_until_7 : decode cX6_until 7 = .ok (.iload 4, 2) := by decide +kernel
theorem dX6_until_9 : decode cX6_until 9 = .ok (.sipush 200, 3) := by decide +kernel
theorem dX6_until_12 : decode cX6_until 12 = .ok (.if_icmp .gt 40, 3) := by decide +kernel
theorem dX6_until_15 : decode cX6_until 15 = .ok (.iload_n 3, 1) := by decide +kernel
theorem dX6_until_16 : decode cX6_until 16 = .ok (.ifCond .eq 16, 3) := by decide +kernel
theorem dX6_until_19 : decode cX6_until 19 = .ok (.aload_n 0, 1) := by decide +kernel
theorem dX6_until_20 : decode cX6_until 20 = .ok (.getfield 7, 3) := by decide +kernel
theorem dX6_until_23 : decode cX6_until 23 = .ok (.iload_n 1, 1) := by decide +kernel
theorem dX6_until_24 : decode cX6_until 24 = .ok (.iaload, 1) := by decide +kernel
theorem dX6_until_25 : decode cX6_until 25 = .ok (.iload_n 2, 1) := by decide +kernel
theorem dX6_until_26 : decode cX6_until 26 = .ok (.if_icmp .le 26, 3) := by decide +kernel
theorem dX6_until_29 : decode cX6_until 29 = .ok (.goto 13, 3) := by decide +kernel
theorem dX6_until_32 : decode cX6_until 32 = .ok (.aload_n 0, 1) := by decide +kernel
theorem dX6_until_33 : decode cX6_until 33 = .ok (.getfield 7, 3) := by decide +kernel
theorem dX6_until_36 : decode cX6_until 36 = .ok (.iload_n 1, 1) := by decide +kernel
theorem dX6_until_37 : decode cX6_until 37 = .ok (.iaload, 1) := by decide +kernel
theorem dX6_until_38 : decode cX6_until 38 = .ok (.iload_n 2, 1) := by decide +kernel
theorem dX6_until_39 : decode cX6_until 39 = .ok (.if_icmp .ge 13, 3) := by decide +kernel
theorem dX6_until_42 : decode cX6_until 42 = .ok (.aload_n 0, 1) := by decide +kernel
theorem dX6_until_43 : decode cX6_until 43 = .ok (.invokevirtual 134, 3) := by decide +kernel
theorem dX6_until_46 : decode cX6_until 46 = .ok (.iinc 4 1, 3) := by decide +kernel
theorem dX6_until_49 : decode cX6_until 49 = .ok (.goto (-42), 3) := by decide +kernel
theorem dX6_until_52 : decode cX6_until 52 = .ok (.aload_n 0, 1) := by decide +kernel
theorem dX6_until_53 : decode cX6_until 53 = .ok (.iload 4, 2) := by decide +kernel
theorem dX6_until_55 : decode cX6_until 55 = .ok (.invokevirtual 159, 3) := by decide +kernel
theorem dX6_until_58 : decode cX6_until 58 = .ok (.ireturn, 1) := by decide +kernel
theorem dX6_orNone_0 : decode cX6_orNone 0 = .ok (.iload_n 1, 1) := by decide +kernel
theorem dX6_orNone_1 : decode cX6_orNone 1 = .ok (.sipush 200, 3) := by decide +kernel
theorem dX6_orNone_4 : decode cX6_orNone 4 = .ok (.if_icmp .le 12, 3) := by decide +kernel
theorem dX6_orNone_7 : decode cX6_orNone 7 = .ok (.aload_n 0, 1) := by decide +kernel
theorem dX6_orNone_8 : decode cX6_orNone 8 = .ok (.ldc 169, 2) := by decide +kernel
theorem dX6_orNone_10 : decode cX6_orNone 10 = .ok (.invokevirtual 75, 3) := by decide +kernel
theorem dX6_orNone_13 : decode cX6_orNone 13 = .ok (.goto 4, 3) := by decide +kernel
theorem dX6_orNone_16 : decode cX6_orNone 16 = .ok (.iload_n 1, 1) := by decide +kernel
theorem dX6_orNone_17 : decode cX6_orNone 17 = .ok (.ireturn, 1) := by decide +kernel
theorem dX6_when_0 : decode cX6_when 0 = .ok (.aload_n 0, 1) := by decide +kernel
theorem dX6_when_1 : decode cX6_when 1 = .ok (.iload_n 1, 1) := by decide +kernel
theorem dX6_when_2 : decode cX6_when 2 = .ok (.invokevirtual 100, 3) := by decide +kernel
theorem dX6_when_5 : decode cX6_when 5 = .ok (.ifCond .eq 21, 3) := by decide +kernel
theorem dX6_when_8 : decode cX6_when 8 = .ok (.aload_n 0, 1) := by decide +kernel
theorem dX6_when_9 : decode cX6_when 9 = .ok (.aload_n 0, 1) := by decide +kernel
theorem dX6_when_10 : decode cX6_when 10 = .ok (.iload_n 1, 1) := by decide +kernel
theorem dX6_when_11 : decode cX6_when 11 = .ok (.iconst 3, 1) := by decide +kernel
theorem dX6_when_12 : decode cX6_when 12 = .ok (.invokestatic 59, 3) := by decide +kernel
theorem dX6_when_15 : decode cX6_when 15 = .ok (.iconst 0, 1) := by decide +kernel
theorem dX6_when_16 : decode cX6_when 16 = .ok (.iconst 1, 1) := by decide +kernel
theorem dX6_when_17 : decode cX6_when 17 = .ok (.invokevirtual 170, 3) := by decide +kernel
theorem dX6_when_20 : decode cX6_when 20 = .ok (.invokevirtual 174, 3) := by decide +kernel
theorem dX6_when_23 : decode cX6_when 23 = .ok (.goto 9, 3) := by decide +kernel
theorem dX6_when_26 : decode cX6_when 26 = .ok (.aload_n 0, 1) := by decide +kernel
theorem dX6_when_27 : decode cX6_when 27 = .ok (.ldc 46, 2) := by decide +kernel
theorem dX6_when_29 : decode cX6_when 29 = .ok (.invokevirtual 75, 3) := by decide +kernel
theorem dX6_when_32 : decode cX6_when 32 = .ok (.ireturn, 1) := by decide +kernel
theorem dX6_first_0 : decode cX6_first 0 = .ok (.iconst (-1), 1) := by decide +kernel
theorem dX6_first_1 : decode cX6_first 1 = .ok (.istore_n 1, 1) := by decide +kernel
theorem dX6_first_2 : decode cX6_first 2 = .ok (.sipush 201, 3) := by decide +kernel
theorem dX6_first_5 : decode cX6_first 5 = .ok (.istore_n 2, 1) := by decide +kernel
theorem dX6_first_6 : decode cX6_first 6 = .ok (.iconst 0, 1) := by decide +kernel
theorem dX6_first_7 : decode cX6_first 7 = .ok (.istore_n 3, 1) := by decide +kernel
theorem dX6_first_8 : decode cX6_first 8 = .ok (.iload_n 3, 1) := by decide +kernel
theorem dX6_first_9 : decode cX6_first 9 = .ok (.aload_n 0, 1) := by decide +kernel
theorem dX6_first_10 : decode cX6_first 10 = .ok (.getfield 7, 3) := by decide +kernel
theorem dX6_first_13 : decode cX6_first 13 = .ok (.iconst 1, 1) := by decide +kernel
theorem dX6_first_14 : decode cX6_first 14 = .ok (.iaload, 1) := by decide +kernel
theorem dX6_first_15 : decode cX6_first 15 = .ok (.if_icmp .ge 47, 3) := by decide +kernel
theorem dX6_first_18 : decode cX6_first 18 = .ok (.aload_n 0, 1) := by decide +kernel
theorem dX6_first_19 : decode cX6_first 19 = .ok (.iload_n 3, 1) := by decide +kernel
theorem dX6_first_20 : decode cX6_first 20 = .ok (.iconst 3, 1) := by decide +kernel
theorem dX6_first_21 : decode cX6_first 21 = .ok (.invokestatic 59, 3) := by decide +kernel
theorem dX6_first_24 : decode cX6_first 24 = .ok (.iconst 0, 1) := by decide +kernel
theorem dX6_first_25 : decode cX6_first 25 = .ok (.iconst 1, 1) := by decide +kernel
theorem dX6_first_26 : decode cX6_first 26 = .ok (.invokevirtual 170, 3) := by decide +kernel
theorem dX6_first_29 : decode cX6_first 29 = .ok (.istore 4, 2) := by decide +kernel
theorem dX6_first_31 : decode cX6_first 31 = .ok (.iload 4, 2) := by decide +kernel
theorem dX6_first_33 : decode cX6_first 33 = .ok (.iload_n 2, 1) := by decide +kernel
theorem dX6_first_34 : decode cX6_first 34 = .ok (.if_icmp .ge 7, 3) := by decide +kernel
theorem dX6_first_37 : decode cX6_first 37 = .ok (.iload_n 3, 1) := by decide +kernel
theorem dX6_first_38 : decode cX6_first 38 = .ok (.goto 4, 3) := by decide +kernel
theorem dX6_first_41 : decode cX6_first 41 = .ok (.iload_n 1, 1) := by decide +kernel
theorem dX6_first_42 : decode cX6_first 42 = .ok (.istore_n 1, 1) := by decide +kernel
theorem dX6_first_43 : decode cX6_first 43 = .ok (.iload 4, 2) := by decide +kernel
theorem dX6_first_45 : decode cX6_first 45 = .ok (.iload_n 2, 1) := by decide +kernel
theorem dX6_first_46 : decode cX6_first 46 = .ok (.if_icmp .ge 8, 3) := by decide +kernel
theorem dX6_first_49 : decode cX6_first 49 = .ok (.iload 4, 2) := by decide +kernel
theorem dX6_first_51 : decode cX6_first 51 = .ok (.goto 4, 3) := by decide +kernel
theorem dX6_first_54 : decode cX6_first 54 = .ok (.iload_n 2, 1) := by decide +kernel
theorem dX6_first_55 : decode cX6_first 55 = .ok (.istore_n 2, 1) := by decide +kernel
theorem dX6_first_56 : decode cX6_first 56 = .ok (.iinc 3 1, 3) := by decide +kernel
theorem dX6_first_59 : decode cX6_first 59 = .ok (.goto (-51), 3) := by decide +kernel
theorem dX6_first_62 : decode cX6_first 62 = .ok (.iload_n 1, 1) := by decide +kernel
theorem dX6_first_63 : decode cX6_first 63 = .ok (.ifCond .ge 12, 3) := by decide +kernel
theorem dX6_first_66 : decode cX6_first 66 = .ok (.aload_n 0, 1) := by decide +kernel
theorem dX6_first_67 : decode cX6_first 67 = .ok (.ldc 169, 2) := by decide +kernel
theorem dX6_first_69 : decode cX6_first 69 = .ok (.invokevirtual 75, 3) := by decide +kernel
theorem dX6_first_72 : decode cX6_first 72 = .ok (.goto 4, 3) := by decide +kernel
theorem dX6_first_75 : decode cX6_first 75 = .ok (.iload_n 1, 1) := by decide +kernel
theorem dX6_first_76 : decode cX6_first 76 = .ok (.ireturn, 1) := by decide +kernel
theorem dX6_reaches_0 : decode cX6_reaches 0 = .ok (.iload_n 1, 1) := by decide +kernel
theorem dX6_reaches_1 : decode cX6_reaches 1 = .ok (.invokestatic 66, 3) := by decide +kernel
theorem dX6_reaches_4 : decode cX6_reaches 4 = .ok (.ifCond .eq 32, 3) := by decide +kernel
theorem dX6_reaches_7 : decode cX6_reaches 7 = .ok (.iload_n 2, 1) := by decide +kernel
theorem dX6_reaches_8 : decode cX6_reaches 8 = .ok (.i2l, 1) := by decide +kernel
theorem dX6_reaches_9 : decode cX6_reaches 9 = .ok (.lconst 0, 1) := by decide +kernel
theorem dX6_reaches_10 : decode cX6_reaches 10 = .ok (.ldc2_w 70, 3) := by decide +kernel
theorem dX6_reaches_13 : decode cX6_reaches 13 = .ok (.invokestatic 49, 3) := by decide +kernel
theorem dX6_reaches_16 : decode cX6_reaches 16 = .ok (.ifCond .eq 20, 3) := by decide +kernel
theorem dX6_reaches_19 : decode cX6_reaches 19 = .ok (.aload_n 0, 1) := by decide +kernel
theorem dX6_reaches_20 : decode cX6_reaches 20 = .ok (.aload_n 0, 1) := by decide +kernel
theorem dX6_reaches_21 : decode cX6_reaches 21 = .ok (.bipush 12, 2) := by decide +kernel
theorem dX6_reaches_23 : decode cX6_reaches 23 = .ok (.iload_n 1, 1) := by decide +kernel
theorem dX6_reaches_24 : decode cX6_reaches 24 = .ok (.iadd, 1) := by decide +kernel
theorem dX6_reaches_25 : decode cX6_reaches 25 = .ok (.iload_n 2, 1) := by decide +kernel
theorem dX6_reaches_26 : decode cX6_reaches 26 = .ok (.iconst 0, 1) := by decide +kernel
theorem dX6_reaches_27 : decode cX6_reaches 27 = .ok (.invokevirtual 170, 3) := by decide +kernel
theorem dX6_reaches_30 : decode cX6_reaches 30 = .ok (.invokevirtual 174, 3) := by decide +kernel
theorem dX6_reaches_33 : decode cX6_reaches 33 = .ok (.goto 9, 3) := by decide +kernel
theorem dX6_reaches_36 : decode cX6_reaches 36 = .ok (.aload_n 0, 1) := by decide +kernel
theorem dX6_reaches_37 : decode cX6_reaches 37 = .ok (.ldc 46, 2) := by decide +kernel
theorem dX6_reaches_39 : decode cX6_reaches 39 = .ok (.invokevirtual 75, 3) := by decide +kernel
theorem dX6_reaches_42 : decode cX6_reaches 42 = .ok (.ireturn, 1) := by decide +kernel
theorem dX6_leastOf_0 : decode cX6_leastOf 0 = .ok (.aload_n 0, 1) := by decide +kernel
theorem dX6_leastOf_1 : decode cX6_leastOf 1 = .ok (.invokevirtual 156, 3) := by decide +kernel
theorem dX6_leastOf_4 : decode cX6_leastOf 4 = .ok (.aload_n 0, 1) := by decide +kernel
theorem dX6_leastOf_5 : decode cX6_leastOf 5 = .ok (.iload_n 2, 1) := by decide +kernel
theorem dX6_leastOf_6 : decode cX6_leastOf 6 = .ok (.invokevirtual 141, 3) := by decide +kernel
theorem dX6_leastOf_9 : decode cX6_leastOf 9 = .ok (.aload_n 0, 1) := by decide +kernel
theorem dX6_leastOf_10 : decode cX6_leastOf 10 = .ok (.getfield 7, 3) := by decide +kernel
theorem dX6_leastOf_13 : decode cX6_leastOf 13 = .ok (.bipush 12, 2) := by decide +kernel
theorem dX6_leastOf_15 : decode cX6_leastOf 15 = .ok (.iload_n 1, 1) := by decide +kernel
theorem dX6_leastOf_16 : decode cX6_leastOf 16 = .ok (.iadd, 1) := by decide +kernel
theorem dX6_leastOf_17 : decode cX6_leastOf 17 = .ok (.iaload, 1) := by decide +kernel
theorem dX6_leastOf_18 : decode cX6_leastOf 18 = .ok (.istore 4, 2) := by decide +kernel
theorem dX6_leastOf_20 : decode cX6_leastOf 20 = .ok (.aload_n 0, 1) := by decide +kernel
theorem dX6_leastOf_21 : decode cX6_leastOf 21 = .ok (.iload 4, 2) := by decide +kernel
theorem dX6_leastOf_23 : decode cX6_leastOf 23 = .ok (.putfield 177, 3) := by decide +kernel
theorem dX6_leastOf_26 : decode cX6_leastOf 26 = .ok (.iload_n 2, 1) := by decide +kernel
theorem dX6_leastOf_27 : decode cX6_leastOf 27 = .ok (.istore 5, 2) := by decide +kernel
theorem dX6_leastOf_29 : decode cX6_leastOf 29 = .ok (.iload 5, 2) := by decide +kernel
theorem dX6_leastOf_31 : decode cX6_leastOf 31 = .ok (.iload_n 3, 1) := by decide +kernel
theorem dX6_leastOf_32 : decode cX6_leastOf 32 = .ok (.if_icmp .ge 62, 3) := by decide +kernel
theorem dX6_leastOf_35 : decode cX6_leastOf 35 = .ok (.aload_n 0, 1) := by decide +kernel
theorem dX6_leastOf_36 : decode cX6_leastOf 36 = .ok (.invokevirtual 134, 3) := by decide +kernel
theorem dX6_leastOf_39 : decode cX6_leastOf 39 = .ok (.aload_n 0, 1) := by decide +kernel
theorem dX6_leastOf_40 : decode cX6_leastOf 40 = .ok (.getfield 7, 3) := by decide +kernel
theorem dX6_leastOf_43 : decode cX6_leastOf 43 = .ok (.bipush 12, 2) := by decide +kernel
theorem dX6_leastOf_45 : decode cX6_leastOf 45 = .ok (.iload_n 1, 1) := by decide +kernel
theorem dX6_leastOf_46 : decode cX6_leastOf 46 = .ok (.iadd, 1) := by decide +kernel
theorem dX6_leastOf_47 : decode cX6_leastOf 47 = .ok (.iaload, 1) := by decide +kernel
theorem dX6_leastOf_48 : decode cX6_leastOf 48 = .ok (.istore 6, 2) := by decide +kernel
theorem dX6_leastOf_50 : decode cX6_leastOf 50 = .ok (.iload 6, 2) := by decide +kernel
theorem dX6_leastOf_52 : decode cX6_leastOf 52 = .ok (.iload 4, 2) := by decide +kernel
theorem dX6_leastOf_54 : decode cX6_leastOf 54 = .ok (.if_icmp .ge 8, 3) := by decide +kernel
theorem dX6_leastOf_57 : decode cX6_leastOf 57 = .ok (.iload 6, 2) := by decide +kernel
theorem dX6_leastOf_59 : decode cX6_leastOf 59 = .ok (.goto 5, 3) := by decide +kernel
theorem dX6_leastOf_62 : decode cX6_leastOf 62 = .ok (.iload 4, 2) := by decide +kernel
theorem dX6_leastOf_64 : decode cX6_leastOf 64 = .ok (.istore 4, 2) := by decide +kernel
theorem dX6_leastOf_66 : decode cX6_leastOf 66 = .ok (.aload_n 0, 1) := by decide +kernel
theorem dX6_leastOf_67 : decode cX6_leastOf 67 = .ok (.iload 6, 2) := by decide +kernel
theorem dX6_leastOf_69 : decode cX6_leastOf 69 = .ok (.aload_n 0, 1) := by decide +kernel
theorem dX6_leastOf_70 : decode cX6_leastOf 70 = .ok (.getfield 177, 3) := by decide +kernel
theorem dX6_leastOf_73 : decode cX6_leastOf 73 = .ok (.if_icmp .le 8, 3) := by decide +kernel
theorem dX6_leastOf_76 : decode cX6_leastOf 76 = .ok (.iload 6, 2) := by decide +kernel
theorem dX6_leastOf_78 : decode cX6_leastOf 78 = .ok (.goto 7, 3) := by decide +kernel
theorem dX6_leastOf_81 : decode cX6_leastOf 81 = .ok (.aload_n 0, 1) := by decide +kernel
theorem dX6_leastOf_82 : decode cX6_leastOf 82 = .ok (.getfield 177, 3) := by decide +kernel
theorem dX6_leastOf_85 : decode cX6_leastOf 85 = .ok (.putfield 177, 3) := by decide +kernel
theorem dX6_leastOf_88 : decode cX6_leastOf 88 = .ok (.iinc 5 1, 3) := by decide +kernel
theorem dX6_leastOf_91 : decode cX6_leastOf 91 = .ok (.goto (-62), 3) := by decide +kernel
theorem dX6_leastOf_94 : decode cX6_leastOf 94 = .ok (.aload_n 0, 1) := by decide +kernel
theorem dX6_leastOf_95 : decode cX6_leastOf 95 = .ok (.iload 4, 2) := by decide +kernel
theorem dX6_leastOf_97 : decode cX6_leastOf 97 = .ok (.invokevirtual 159, 3) := by decide +kernel
theorem dX6_leastOf_100 : decode cX6_leastOf 100 = .ok (.ireturn, 1) := by decide +kernel
theorem dX6_range_0 : decode cX6_range 0 = .ok (.iload_n 1, 1) := by decide +kernel
theorem dX6_range_1 : decode cX6_range 1 = .ok (.invokestatic 66, 3) := by decide +kernel
theorem dX6_range_4 : decode cX6_range 4 = .ok (.ifCond .eq 25, 3) := by decide +kernel
theorem dX6_range_7 : decode cX6_range 7 = .ok (.iload_n 2, 1) := by decide +kernel
theorem dX6_range_8 : decode cX6_range 8 = .ok (.i2l, 1) := by decide +kernel
theorem dX6_range_9 : decode cX6_range 9 = .ok (.lconst 0, 1) := by decide +kernel
theorem dX6_range_10 : decode cX6_range 10 = .ok (.ldc2_w 162, 3) := by decide +kernel
theorem dX6_range_13 : decode cX6_range 13 = .ok (.invokestatic 49, 3) := by decide +kernel
theorem dX6_range_16 : decode cX6_range 16 = .ok (.ifCond .eq 13, 3) := by decide +kernel
theorem dX6_range_19 : decode cX6_range 19 = .ok (.iload_n 3, 1) := by decide +kernel
theorem dX6_range_20 : decode cX6_range 20 = .ok (.i2l, 1) := by decide +kernel
theorem dX6_range_21 : decode cX6_range 21 = .ok (.lconst 0, 1) := by decide +kernel
theorem dX6_range_22 : decode cX6_range 22 = .ok (.lconst 1, 1) := by decide +kernel
theorem dX6_range_23 : decode cX6_range 23 = .ok (.invokestatic 49, 3) := by decide +kernel
theorem dX6_range_26 : decode cX6_range 26 = .ok (.ifCond .ne 10, 3) := by decide +kernel
theorem dX6_range_29 : decode cX6_range 29 = .ok (.aload_n 0, 1) := by decide +kernel
theorem dX6_range_30 : decode cX6_range 30 = .ok (.ldc 46, 2) := by decide +kernel
theorem dX6_range_32 : decode cX6_range 32 = .ok (.invokevirtual 75, 3) := by decide +kernel
theorem dX6_range_35 : decode cX6_range 35 = .ok (.ireturn, 1) := by decide +kernel
theorem dX6_range_36 : decode cX6_range 36 = .ok (.aload_n 0, 1) := by decide +kernel
theorem dX6_range_37 : decode cX6_range 37 = .ok (.iload_n 1, 1) := by decide +kernel
theorem dX6_range_38 : decode cX6_range 38 = .ok (.iconst 0, 1) := by decide +kernel
theorem dX6_range_39 : decode cX6_range 39 = .ok (.iload_n 2, 1) := by decide +kernel
theorem dX6_range_40 : decode cX6_range 40 = .ok (.invokevirtual 181, 3) := by decide +kernel
theorem dX6_range_43 : decode cX6_range 43 = .ok (.istore 4, 2) := by decide +kernel
theorem dX6_range_45 : decode cX6_range 45 = .ok (.iload_n 3, 1) := by decide +kernel
theorem dX6_range_46 : decode cX6_range 46 = .ok (.ifCond .ne 8, 3) := by decide +kernel
theorem dX6_range_49 : decode cX6_range 49 = .ok (.iload 4, 2) := by decide +kernel
theorem dX6_range_51 : decode cX6_range 51 = .ok (.goto 7, 3) := by decide +kernel
theorem dX6_range_54 : decode cX6_range 54 = .ok (.aload_n 0, 1) := by decide +kernel
theorem dX6_range_55 : decode cX6_range 55 = .ok (.getfield 177, 3) := by decide +kernel
theorem dX6_range_58 : decode cX6_range 58 = .ok (.ireturn, 1) := by decide +kernel
theorem dX6_enough_0 : decode cX6_enough 0 = .ok (.iload_n 1, 1) := by decide +kernel
theorem dX6_enough_1 : decode cX6_enough 1 = .ok (.i2l, 1) := by decide +kernel
theorem dX6_enough_2 : decode cX6_enough 2 = .ok (.lconst 0, 1) := by decide +kernel
theorem dX6_enough_3 : decode cX6_enough 3 = .ok (.ldc2_w 137, 3) := by decide +kernel
theorem dX6_enough_6 : decode cX6_enough 6 = .ok (.invokestatic 49, 3) := by decide +kernel
theorem dX6_enough_9 : decode cX6_enough 9 = .ok (.ifCond .ne 10, 3) := by decide +kernel
theorem dX6_enough_12 : decode cX6_enough 12 = .ok (.aload_n 0, 1) := by decide +kernel
theorem dX6_enough_13 : decode cX6_enough 13 = .ok (.ldc 46, 2) := by decide +kernel
theorem dX6_enough_15 : decode cX6_enough 15 = .ok (.invokevirtual 75, 3) := by decide +kernel
theorem dX6_enough_18 : decode cX6_enough 18 = .ok (.ireturn, 1) := by decide +kernel
theorem dX6_enough_19 : decode cX6_enough 19 = .ok (.aload_n 0, 1) := by decide +kernel
theorem dX6_enough_20 : decode cX6_enough 20 = .ok (.invokevirtual 156, 3) := by decide +kernel
theorem dX6_enough_23 : decode cX6_enough 23 = .ok (.iconst (-1), 1) := by decide +kernel
theorem dX6_enough_24 : decode cX6_enough 24 = .ok (.istore_n 2, 1) := by decide +kernel
theorem dX6_enough_25 : decode cX6_enough 25 = .ok (.iconst 0, 1) := by decide +kernel
theorem dX6_enough_26 : decode cX6_enough 26 = .ok (.istore_n 3, 1) := by decide +kernel
theorem dX6_enough_27 : decode cX6_enough 27 = .ok (.iload_n 3, 1) := by decide +kernel
theorem dX6_enough_28 : decode cX6_enough 28 = .ok (.bipush 99, 2) := by decide +kernel
theorem dX6_enough_30 : decode cX6_enough 30 = .ok (.if_icmp .gt 40, 3) := by decide +kernel
theorem dX6_enough_33 : decode cX6_enough 33 = .ok (.iload_n 2, 1) := by decide +kernel
theorem dX6_enough_34 : decode cX6_enough 34 = .ok (.ifCond .ge 36, 3) := by decide +kernel
theorem dX6_enough_37 : decode cX6_enough 37 = .ok (.aload_n 0, 1) := by decide +kernel
theorem dX6_enough_38 : decode cX6_enough 38 = .ok (.iload_n 3, 1) := by decide +kernel
theorem dX6_enough_39 : decode cX6_enough 39 = .ok (.invokevirtual 89, 3) := by decide +kernel
theorem dX6_enough_42 : decode cX6_enough 42 = .ok (.aload_n 0, 1) := by decide +kernel
theorem dX6_enough_43 : decode cX6_enough 43 = .ok (.iload_n 1, 1) := by decide +kernel
theorem dX6_enough_44 : decode cX6_enough 44 = .ok (.invokevirtual 141, 3) := by decide +kernel
theorem dX6_enough_47 : decode cX6_enough 47 = .ok (.aload_n 0, 1) := by decide +kernel
theorem dX6_enough_48 : decode cX6_enough 48 = .ok (.aload_n 0, 1) := by decide +kernel
theorem dX6_enough_49 : decode cX6_enough 49 = .ok (.invokevirtual 150, 3) := by decide +kernel
theorem dX6_enough_52 : decode cX6_enough 52 = .ok (.ifCond .ne 7, 3) := by decide +kernel
theorem dX6_enough_55 : decode cX6_enough 55 = .ok (.iload_n 3, 1) := by decide +kernel
theorem dX6_enough_56 : decode cX6_enough 56 = .ok (.goto 4, 3) := by decide +kernel
theorem dX6_enough_59 : decode cX6_enough 59 = .ok (.iconst (-1), 1) := by decide +kernel
theorem dX6_enough_60 : decode cX6_enough 60 = .ok (.invokevirtual 159, 3) := by decide +kernel
theorem dX6_enough_63 : decode cX6_enough 63 = .ok (.istore_n 2, 1) := by decide +kernel
theorem dX6_enough_64 : decode cX6_enough 64 = .ok (.iinc 3 1, 3) := by decide +kernel
theorem dX6_enough_67 : decode cX6_enough 67 = .ok (.goto (-40), 3) := by decide +kernel
theorem dX6_enough_70 : decode cX6_enough 70 = .ok (.iload_n 2, 1) := by decide +kernel
theorem dX6_enough_71 : decode cX6_enough 71 = .ok (.ifCond .ge 12, 3) := by decide +kernel
theorem dX6_enough_74 : decode cX6_enough 74 = .ok (.aload_n 0, 1) := by decide +kernel
theorem dX6_enough_75 : decode cX6_enough 75 = .ok (.ldc 169, 2) := by decide +kernel
theorem dX6_enough_77 : decode cX6_enough 77 = .ok (.invokevirtual 75, 3) := by decide +kernel
theorem dX6_enough_80 : decode cX6_enough 80 = .ok (.goto 4, 3) := by decide +kernel
theorem dX6_enough_83 : decode cX6_enough 83 = .ok (.iload_n 2, 1) := by decide +kernel
theorem dX6_enough_84 : decode cX6_enough 84 = .ok (.ireturn, 1) := by decide +kernel
theorem dX6_isSoon_0 : decode cX6_isSoon 0 = .ok (.iload_n 0, 1) := by decide +kernel
theorem dX6_isSoon_1 : decode cX6_isSoon 1 = .ok (.i2l, 1) := by decide +kernel
theorem dX6_isSoon_2 : decode cX6_isSoon 2 = .ok (.lconst 0, 1) := by decide +kernel
theorem dX6_isSoon_3 : decode cX6_isSoon 3 = .ok (.ldc2_w 185, 3) := by decide +kernel
theorem dX6_isSoon_6 : decode cX6_isSoon 6 = .ok (.invokestatic 49, 3) := by decide +kernel
theorem dX6_isSoon_9 : decode cX6_isSoon 9 = .ok (.ireturn, 1) := by decide +kernel
theorem dX6_ones_0 : decode cX6_ones 0 = .ok (.iconst 0, 1) := by decide +kernel
theorem dX6_ones_1 : decode cX6_ones 1 = .ok (.istore_n 1, 1) := by decide +kernel
theorem dX6_ones_2 : decode cX6_ones 2 = .ok (.iload_n 0, 1) := by decide +kernel
theorem dX6_ones_3 : decode cX6_ones 3 = .ok (.istore_n 2, 1) := by decide +kernel
theorem dX6_ones_4 : decode cX6_ones 4 = .ok (.iload_n 2, 1) := by decide +kernel
theorem dX6_ones_5 : decode cX6_ones 5 = .ok (.ifCond .eq 15, 3) := by decide +kernel
theorem dX6_ones_8 : decode cX6_ones 8 = .ok (.iinc 1 1, 3) := by decide +kernel
theorem dX6_ones_11 : decode cX6_ones 11 = .ok (.iload_n 2, 1) := by decide +kernel
theorem dX6_ones_12 : decode cX6_ones 12 = .ok (.iload_n 2, 1) := by decide +kernel
theorem dX6_ones_13 : decode cX6_ones 13 = .ok (.iconst 1, 1) := by decide +kernel
theorem dX6_ones_14 : decode cX6_ones 14 = .ok (.isub, 1) := by decide +kernel
theorem dX6_ones_15 : decode cX6_ones 15 = .ok (.iand, 1) := by decide +kernel
theorem dX6_ones_16 : decode cX6_ones 16 = .ok (.istore_n 2, 1) := by decide +kernel
theorem dX6_ones_17 : decode cX6_ones 17 = .ok (.goto (-13), 3) := by decide +kernel
theorem dX6_ones_20 : decode cX6_ones 20 = .ok (.iload_n 1, 1) := by decide +kernel
theorem dX6_ones_21 : decode cX6_ones 21 = .ok (.ireturn, 1) := by decide +kernel
theorem dX6_hide_0 : decode cX6_hide 0 = .ok (.iload_n 1, 1) := by decide +kernel
theorem dX6_hide_1 : decode cX6_hide 1 = .ok (.invokestatic 82, 3) := by decide +kernel
theorem dX6_hide_4 : decode cX6_hide 4 = .ok (.ifCond .eq 10, 3) := by decide +kernel
theorem dX6_hide_7 : decode cX6_hide 7 = .ok (.iload_n 2, 1) := by decide +kernel
theorem dX6_hide_8 : decode cX6_hide 8 = .ok (.invokestatic 187, 3) := by decide +kernel
theorem dX6_hide_11 : decode cX6_hide 11 = .ok (.ifCond .ne 10, 3) := by decide +kernel
theorem dX6_hide_14 : decode cX6_hide 14 = .ok (.aload_n 0, 1) := by decide +kernel
theorem dX6_hide_15 : decode cX6_hide 15 = .ok (.ldc 46, 2) := by decide +kernel
theorem dX6_hide_17 : decode cX6_hide 17 = .ok (.invokevirtual 75, 3) := by decide +kernel
theorem dX6_hide_20 : decode cX6_hide 20 = .ok (.ireturn, 1) := by decide +kernel
theorem dX6_hide_21 : decode cX6_hide 21 = .ok (.aload_n 0, 1) := by decide +kernel
theorem dX6_hide_22 : decode cX6_hide 22 = .ok (.invokevirtual 156, 3) := by decide +kernel
theorem dX6_hide_25 : decode cX6_hide 25 = .ok (.iconst 0, 1) := by decide +kernel
theorem dX6_hide_26 : decode cX6_hide 26 = .ok (.istore_n 3, 1) := by decide +kernel
theorem dX6_hide_27 : decode cX6_hide 27 = .ok (.bipush 9, 2) := by decide +kernel
theorem dX6_hide_29 : decode cX6_hide 29 = .ok (.istore 4, 2) := by decide +kernel
theorem dX6_hide_31 : decode cX6_hide 31 = .ok (.iconst 0, 1) := by decide +kernel
theorem dX6_hide_32 : decode cX6_hide 32 = .ok (.istore 5, 2) := by decide +kernel
theorem dX6_hide_34 : decode cX6_hide 34 = .ok (.iload 5, 2) := by decide +kernel
theorem dX6_hide_36 : decode cX6_hide 36 = .ok (.bipush 8, 2) := by decide +kernel
theorem dX6_hide_38 : decode cX6_hide 38 = .ok (.if_icmp .ge 67, 3) := by decide +kernel
theorem dX6_hide_41 : decode cX6_hide 41 = .ok (.aload_n 0, 1) := by decide +kernel
theorem dX6_hide_42 : decode cX6_hide 42 = .ok (.getfield 7, 3) := by decide +kernel
theorem dX6_hide_45 : decode cX6_hide 45 = .ok (.iconst 4, 1) := by decide +kernel
theorem dX6_hide_46 : decode cX6_hide 46 = .ok (.iload 5, 2) := by decide +kernel
theorem dX6_hide_48 : decode cX6_hide 48 = .ok (.iadd, 1) := by decide +kernel
theorem dX6_hide_49 : decode cX6_hide 49 = .ok (.iload_n 1, 1) := by decide +kernel
theorem dX6_hide_50 : decode cX6_hide 50 = .ok (.iastore, 1) := by decide +kernel
theorem dX6_hide_51 : decode cX6_hide 51 = .ok (.aload_n 0, 1) := by decide +kernel
theorem dX6_hide_52 : decode cX6_hide 52 = .ok (.iload_n 2, 1) := by decide +kernel
theorem dX6_hide_53 : decode cX6_hide 53 = .ok (.invokevirtual 141, 3) := by decide +kernel
theorem dX6_hide_56 : decode cX6_hide 56 = .ok (.aload_n 0, 1) := by decide +kernel
theorem dX6_hide_57 : decode cX6_hide 57 = .ok (.aload_n 0, 1) := by decide +kernel
theorem dX6_hide_58 : decode cX6_hide 58 = .ok (.invokevirtual 144, 3) := by decide +kernel
theorem dX6_hide_61 : decode cX6_hide 61 = .ok (.invokestatic 190, 3) := by decide +kernel
theorem dX6_hide_64 : decode cX6_hide 64 = .ok (.invokevirtual 159, 3) := by decide +kernel
theorem dX6_hide_67 : decode cX6_hide 67 = .ok (.istore 6, 2) := by decide +kernel
theorem dX6_hide_69 : decode cX6_hide 69 = .ok (.iload 6, 2) := by decide +kernel
theorem dX6_hide_71 : decode cX6_hide 71 = .ok (.iload 4, 2) := by decide +kernel
theorem dX6_hide_73 : decode cX6_hide 73 = .ok (.if_icmp .ge 8, 3) := by decide +kernel
theorem dX6_hide_76 : decode cX6_hide 76 = .ok (.iload 5, 2) := by decide +kernel
theorem dX6_hide_78 : decode cX6_hide 78 = .ok (.goto 4, 3) := by decide +kernel
theorem dX6_hide_81 : decode cX6_hide 81 = .ok (.iload_n 3, 1) := by decide +kernel
theorem dX6_hide_82 : decode cX6_hide 82 = .ok (.istore_n 3, 1) := by decide +kernel
theorem dX6_hide_83 : decode cX6_hide 83 = .ok (.iload 6, 2) := by decide +kernel
theorem dX6_hide_85 : decode cX6_hide 85 = .ok (.iload 4, 2) := by decide +kernel
theorem dX6_hide_87 : decode cX6_hide 87 = .ok (.if_icmp .ge 8, 3) := by decide +kernel
theorem dX6_hide_90 : decode cX6_hide 90 = .ok (.iload 6, 2) := by decide +kernel
theorem dX6_hide_92 : decode cX6_hide 92 = .ok (.goto 5, 3) := by decide +kernel
theorem dX6_hide_95 : decode cX6_hide 95 = .ok (.iload 4, 2) := by decide +kernel
theorem dX6_hide_97 : decode cX6_hide 97 = .ok (.istore 4, 2) := by decide +kernel
theorem dX6_hide_99 : decode cX6_hide 99 = .ok (.iinc 5 1, 3) := by decide +kernel
theorem dX6_hide_102 : decode cX6_hide 102 = .ok (.goto (-68), 3) := by decide +kernel
theorem dX6_hide_105 : decode cX6_hide 105 = .ok (.iload_n 3, 1) := by decide +kernel
theorem dX6_hide_106 : decode cX6_hide 106 = .ok (.ireturn, 1) := by decide +kernel
theorem dX6_safe_0 : decode cX6_safe 0 = .ok (.iload_n 1, 1) := by decide +kernel
theorem dX6_safe_1 : decode cX6_safe 1 = .ok (.invokestatic 79, 3) := by decide +kernel
theorem dX6_safe_4 : decode cX6_safe 4 = .ok (.ifCond .eq 10, 3) := by decide +kernel
theorem dX6_safe_7 : decode cX6_safe 7 = .ok (.iload_n 2, 1) := by decide +kernel
theorem dX6_safe_8 : decode cX6_safe 8 = .ok (.invokestatic 187, 3) := by decide +kernel
theorem dX6_safe_11 : decode cX6_safe 11 = .ok (.ifCond .ne 10, 3) := by decide +kernel
theorem dX6_safe_14 : decode cX6_safe 14 = .ok (.aload_n 0, 1) := by decide +kernel
theorem dX6_safe_15 : decode cX6_safe 15 = .ok (.ldc 46, 2) := by decide +kernel
theorem dX6_safe_17 : decode cX6_safe 17 = .ok (.invokevirtual 75, 3) := by decide +kernel
theorem dX6_safe_20 : decode cX6_safe 20 = .ok (.ireturn, 1) := by decide +kernel
theorem dX6_safe_21 : decode cX6_safe 21 = .ok (.aload_n 0, 1) := by decide +kernel
theorem dX6_safe_22 : decode cX6_safe 22 = .ok (.invokevirtual 144, 3) := by decide +kernel
theorem dX6_safe_25 : decode cX6_safe 25 = .ok (.istore_n 3, 1) := by decide +kernel
theorem dX6_safe_26 : decode cX6_safe 26 = .ok (.aload_n 0, 1) := by decide +kernel
theorem dX6_safe_27 : decode cX6_safe 27 = .ok (.invokevirtual 156, 3) := by decide +kernel
theorem dX6_safe_30 : decode cX6_safe 30 = .ok (.iconst (-1), 1) := by decide +kernel
theorem dX6_safe_31 : decode cX6_safe 31 = .ok (.istore 4, 2) := by decide +kernel
theorem dX6_safe_33 : decode cX6_safe 33 = .ok (.iconst 0, 1) := by decide +kernel
theorem dX6_safe_34 : decode cX6_safe 34 = .ok (.istore 5, 2) := by decide +kernel
theorem dX6_safe_36 : decode cX6_safe 36 = .ok (.iload 5, 2) := by decide +kernel
theorem dX6_safe_38 : decode cX6_safe 38 = .ok (.bipush 99, 2) := by decide +kernel
theorem dX6_safe_40 : decode cX6_safe 40 = .ok (.if_icmp .gt 49, 3) := by decide +kernel
theorem dX6_safe_43 : decode cX6_safe 43 = .ok (.iload 4, 2) := by decide +kernel
theorem dX6_safe_45 : decode cX6_safe 45 = .ok (.ifCond .ge 44, 3) := by decide +kernel
theorem dX6_safe_48 : decode cX6_safe 48 = .ok (.aload_n 0, 1) := by decide +kernel
theorem dX6_safe_49 : decode cX6_safe 49 = .ok (.getfield 7, 3) := by decide +kernel
theorem dX6_safe_52 : decode cX6_safe 52 = .ok (.iconst 4, 1) := by decide +kernel
theorem dX6_safe_53 : decode cX6_safe 53 = .ok (.iload_n 1, 1) := by decide +kernel
theorem dX6_safe_54 : decode cX6_safe 54 = .ok (.iadd, 1) := by decide +kernel
theorem dX6_safe_55 : decode cX6_safe 55 = .ok (.iload 5, 2) := by decide +kernel
theorem dX6_safe_57 : decode cX6_safe 57 = .ok (.iastore, 1) := by decide +kernel
theorem dX6_safe_58 : decode cX6_safe 58 = .ok (.aload_n 0, 1) := by decide +kernel
theorem dX6_safe_59 : decode cX6_safe 59 = .ok (.iload_n 2, 1) := by decide +kernel
theorem dX6_safe_60 : decode cX6_safe 60 = .ok (.invokevirtual 141, 3) := by decide +kernel
theorem dX6_safe_63 : decode cX6_safe 63 = .ok (.aload_n 0, 1) := by decide +kernel
theorem dX6_safe_64 : decode cX6_safe 64 = .ok (.aload_n 0, 1) := by decide +kernel
theorem dX6_safe_65 : decode cX6_safe 65 = .ok (.invokevirtual 144, 3) := by decide +kernel
theorem dX6_safe_68 : decode cX6_safe 68 = .ok (.iload_n 3, 1) := by decide +kernel
theorem dX6_safe_69 : decode cX6_safe 69 = .ok (.if_icmp .ne 8, 3) := by decide +kernel
theorem dX6_safe_72 : decode cX6_safe 72 = .ok (.iload 5, 2) := by decide +kernel
theorem dX6_safe_74 : decode cX6_safe 74 = .ok (.goto 4, 3) := by decide +kernel
theorem dX6_safe_77 : decode cX6_safe 77 = .ok (.iconst (-1), 1) := by decide +kernel
theorem dX6_safe_78 : decode cX6_safe 78 = .ok (.invokevirtual 159, 3) := by decide +kernel
theorem dX6_safe_81 : decode cX6_safe 81 = .ok (.istore 4, 2) := by decide +kernel
theorem dX6_safe_83 : decode cX6_safe 83 = .ok (.iinc 5 1, 3) := by decide +kernel
theorem dX6_safe_86 : decode cX6_safe 86 = .ok (.goto (-50), 3) := by decide +kernel
theorem dX6_safe_89 : decode cX6_safe 89 = .ok (.iload 4, 2) := by decide +kernel
theorem dX6_safe_91 : decode cX6_safe 91 = .ok (.ifCond .ge 12, 3) := by decide +kernel
theorem dX6_safe_94 : decode cX6_safe 94 = .ok (.aload_n 0, 1) := by decide +kernel
theorem dX6_safe_95 : decode cX6_safe 95 = .ok (.ldc 169, 2) := by decide +kernel
theorem dX6_safe_97 : decode cX6_safe 97 = .ok (.invokevirtual 75, 3) := by decide +kernel
theorem dX6_safe_100 : decode cX6_safe 100 = .ok (.goto 5, 3) := by decide +kernel
theorem dX6_safe_103 : decode cX6_safe 103 = .ok (.iload 4, 2) := by decide +kernel
theorem dX6_safe_105 : decode cX6_safe 105 = .ok (.ireturn, 1) := by decide +kernel
theorem dX6_sleep_0 : decode cX6_sleep 0 = .ok (.iload_n 1, 1) := by decide +kernel
theorem dX6_sleep_1 : decode cX6_sleep 1 = .ok (.i2l, 1) := by decide +kernel
theorem dX6_sleep_2 : decode cX6_sleep 2 = .ok (.lconst 0, 1) := by decide +kernel
theorem dX6_sleep_3 : decode cX6_sleep 3 = .ok (.ldc2_w 193, 3) := by decide +kernel
theorem dX6_sleep_6 : decode cX6_sleep 6 = .ok (.invokestatic 49, 3) := by decide +kernel
theorem dX6_sleep_9 : decode cX6_sleep 9 = .ok (.ifCond .ne 10, 3) := by decide +kernel
theorem dX6_sleep_12 : decode cX6_sleep 12 = .ok (.aload_n 0, 1) := by decide +kernel
theorem dX6_sleep_13 : decode cX6_sleep 13 = .ok (.ldc 46, 2) := by decide +kernel
theorem dX6_sleep_15 : decode cX6_sleep 15 = .ok (.invokevirtual 75, 3) := by decide +kernel
theorem dX6_sleep_18 : decode cX6_sleep 18 = .ok (.ireturn, 1) := by decide +kernel
theorem dX6_sleep_19 : decode cX6_sleep 19 = .ok (.aload_n 0, 1) := by decide +kernel
theorem dX6_sleep_20 : decode cX6_sleep 20 = .ok (.invokevirtual 144, 3) := by decide +kernel
theorem dX6_sleep_23 : decode cX6_sleep 23 = .ok (.istore_n 2, 1) := by decide +kernel
theorem dX6_sleep_24 : decode cX6_sleep 24 = .ok (.aload_n 0, 1) := by decide +kernel
theorem dX6_sleep_25 : decode cX6_sleep 25 = .ok (.invokevirtual 156, 3) := by decide +kernel
theorem dX6_sleep_28 : decode cX6_sleep 28 = .ok (.iconst (-1), 1) := by decide +kernel
theorem dX6_sleep_29 : decode cX6_sleep 29 = .ok (.istore_n 3, 1) := by decide +kernel
theorem dX6_sleep_30 : decode cX6_sleep 30 = .ok (.iconst 0, 1) := by decide +kernel
theorem dX6_sleep_31 : decode cX6_sleep 31 = .ok (.istore 4, 2) := by decide +kernel
theorem dX6_sleep_33 : decode cX6_sleep 33 = .ok (.iload 4, 2) := by decide +kernel
theorem dX6_sleep_35 : decode cX6_sleep 35 = .ok (.bipush 60, 2) := by decide +kernel
theorem dX6_sleep_37 : decode cX6_sleep 37 = .ok (.if_icmp .gt 49, 3) := by decide +kernel
theorem dX6_sleep_40 : decode cX6_sleep 40 = .ok (.aload_n 0, 1) := by decide +kernel
theorem dX6_sleep_41 : decode cX6_sleep 41 = .ok (.iconst 1, 1) := by decide +kernel
theorem dX6_sleep_42 : decode cX6_sleep 42 = .ok (.putfield 117, 3) := by decide +kernel
theorem dX6_sleep_45 : decode cX6_sleep 45 = .ok (.aload_n 0, 1) := by decide +kernel
theorem dX6_sleep_46 : decode cX6_sleep 46 = .ok (.iload 4, 2) := by decide +kernel
theorem dX6_sleep_48 : decode cX6_sleep 48 = .ok (.invokevirtual 141, 3) := by decide +kernel
theorem dX6_sleep_51 : decode cX6_sleep 51 = .ok (.aload_n 0, 1) := by decide +kernel
theorem dX6_sleep_52 : decode cX6_sleep 52 = .ok (.iconst 0, 1) := by decide +kernel
theorem dX6_sleep_53 : decode cX6_sleep 53 = .ok (.putfield 117, 3) := by decide +kernel
theorem dX6_sleep_56 : decode cX6_sleep 56 = .ok (.aload_n 0, 1) := by decide +kernel
theorem dX6_sleep_57 : decode cX6_sleep 57 = .ok (.iload_n 1, 1) := by decide +kernel
theorem dX6_sleep_58 : decode cX6_sleep 58 = .ok (.invokevirtual 141, 3) := by decide +kernel
theorem dX6_sleep_61 : decode cX6_sleep 61 = .ok (.aload_n 0, 1) := by decide +kernel
theorem dX6_sleep_62 : decode cX6_sleep 62 = .ok (.aload_n 0, 1) := by decide +kernel
theorem dX6_sleep_63 : decode cX6_sleep 63 = .ok (.invokevirtual 144, 3) := by decide +kernel
theorem dX6_sleep_66 : decode cX6_sleep 66 = .ok (.iload_n 2, 1) := by decide +kernel
theorem dX6_sleep_67 : decode cX6_sleep 67 = .ok (.if_icmp .ne 8, 3) := by decide +kernel
theorem dX6_sleep_70 : decode cX6_sleep 70 = .ok (.iload 4, 2) := by decide +kernel
theorem dX6_sleep_72 : decode cX6_sleep 72 = .ok (.goto 4, 3) := by decide +kernel
theorem dX6_sleep_75 : decode cX6_sleep 75 = .ok (.iload_n 3, 1) := by decide +kernel
theorem dX6_sleep_76 : decode cX6_sleep 76 = .ok (.invokevirtual 159, 3) := by decide +kernel
theorem dX6_sleep_79 : decode cX6_sleep 79 = .ok (.istore_n 3, 1) := by decide +kernel
theorem dX6_sleep_80 : decode cX6_sleep 80 = .ok (.iinc 4 1, 3) := by decide +kernel
theorem dX6_sleep_83 : decode cX6_sleep 83 = .ok (.goto (-50), 3) := by decide +kernel
theorem dX6_sleep_86 : decode cX6_sleep 86 = .ok (.iload_n 3, 1) := by decide +kernel
theorem dX6_sleep_87 : decode cX6_sleep 87 = .ok (.ifCond .ge 12, 3) := by decide +kernel
theorem dX6_sleep_90 : decode cX6_sleep 90 = .ok (.aload_n 0, 1) := by decide +kernel
theorem dX6_sleep_91 : decode cX6_sleep 91 = .ok (.ldc 169, 2) := by decide +kernel
theorem dX6_sleep_93 : decode cX6_sleep 93 = .ok (.invokevirtual 75, 3) := by decide +kernel
theorem dX6_sleep_96 : decode cX6_sleep 96 = .ok (.goto 4, 3) := by decide +kernel
theorem dX6_sleep_99 : decode cX6_sleep 99 = .ok (.iload_n 3, 1) := by decide +kernel
theorem dX6_sleep_100 : decode cX6_sleep 100 = .ok (.ireturn, 1) := by decide +kernel
theorem dX6_turns_0 : decode cX6_turns 0 = .ok (.iconst 0, 1) := by decide +kernel
theorem dX6_turns_1 : decode cX6_turns 1 = .ok (.istore_n 1, 1) := by decide +kernel
theorem dX6_turns_2 : decode cX6_turns 2 = .ok (.iconst 0, 1) := by decide +kernel
theorem dX6_turns_3 : decode cX6_turns 3 = .ok (.istore_n 2, 1) := by decide +kernel
theorem dX6_turns_4 : decode cX6_turns 4 = .ok (.iload_n 2, 1) := by decide +kernel
theorem dX6_turns_5 : decode cX6_turns 5 = .ok (.bipush 8, 2) := by decide +kernel
theorem dX6_turns_7 : decode cX6_turns 7 = .ok (.if_icmp .ge 42, 3) := by decide +kernel
theorem dX6_turns_10 : decode cX6_turns 10 = .ok (.iload_n 1, 1) := by decide +kernel
theorem dX6_turns_11 : decode cX6_turns 11 = .ok (.aload_n 0, 1) := by decide +kernel
theorem dX6_turns_12 : decode cX6_turns 12 = .ok (.getfield 7, 3) := by decide +kernel
theorem dX6_turns_15 : decode cX6_turns 15 = .ok (.iconst 4, 1) := by decide +kernel
theorem dX6_turns_16 : decode cX6_turns 16 = .ok (.iload_n 2, 1) := by decide +kernel
theorem dX6_turns_17 : decode cX6_turns 17 = .ok (.iadd, 1) := by decide +kernel
theorem dX6_turns_18 : decode cX6_turns 18 = .ok (.iaload, 1) := by decide +kernel
theorem dX6_turns_19 : decode cX6_turns 19 = .ok (.aload_n 0, 1) := by decide +kernel
theorem dX6_turns_20 : decode cX6_turns 20 = .ok (.getfield 7, 3) := by decide +kernel
theorem dX6_turns_23 : decode cX6_turns 23 = .ok (.iconst 4, 1) := by decide +kernel
theorem dX6_turns_24 : decode cX6_turns 24 = .ok (.iload_n 2, 1) := by decide +kernel
theorem dX6_turns_25 : decode cX6_turns 25 = .ok (.bipush 7, 2) := by decide +kernel
theorem dX6_turns_27 : decode cX6_turns 27 = .ok (.iadd, 1) := by decide +kernel
theorem dX6_turns_28 : decode cX6_turns 28 = .ok (.bipush 8, 2) := by decide +kernel
theorem dX6_turns_30 : decode cX6_turns 30 = .ok (.irem, 1) := by decide +kernel
theorem dX6_turns_31 : decode cX6_turns 31 = .ok (.iadd, 1) := by decide +kernel
theorem dX6_turns_32 : decode cX6_turns 32 = .ok (.iaload, 1) := by decide +kernel
theorem dX6_turns_33 : decode cX6_turns 33 = .ok (.if_icmp .eq 7, 3) := by decide +kernel
theorem dX6_turns_36 : decode cX6_turns 36 = .ok (.iconst 1, 1) := by decide +kernel
theorem dX6_turns_37 : decode cX6_turns 37 = .ok (.goto 4, 3) := by decide +kernel
theorem dX6_turns_40 : decode cX6_turns 40 = .ok (.iconst 0, 1) := by decide +kernel
theorem dX6_turns_41 : decode cX6_turns 41 = .ok (.iadd, 1) := by decide +kernel
theorem dX6_turns_42 : decode cX6_turns 42 = .ok (.istore_n 1, 1) := by decide +kernel
theorem dX6_turns_43 : decode cX6_turns 43 = .ok (.iinc 2 1, 3) := by decide +kernel
theorem dX6_turns_46 : decode cX6_turns 46 = .ok (.goto (-42), 3) := by decide +kernel
theorem dX6_turns_49 : decode cX6_turns 49 = .ok (.iload_n 1, 1) := by decide +kernel
theorem dX6_turns_50 : decode cX6_turns 50 = .ok (.ireturn, 1) := by decide +kernel
theorem dX6_mostBelief_0 : decode cX6_mostBelief 0 = .ok (.aload_n 0, 1) := by decide +kernel
theorem dX6_mostBelief_1 : decode cX6_mostBelief 1 = .ok (.invokevirtual 156, 3) := by decide +kernel
theorem dX6_mostBelief_4 : decode cX6_mostBelief 4 = .ok (.iconst 0, 1) := by decide +kernel
theorem dX6_mostBelief_5 : decode cX6_mostBelief 5 = .ok (.istore 4, 2) := by decide +kernel
theorem dX6_mostBelief_7 : decode cX6_mostBelief 7 = .ok (.iconst (-1), 1) := by decide +kernel
theorem dX6_mostBelief_8 : decode cX6_mostBelief 8 = .ok (.istore 5, 2) := by decide +kernel
theorem dX6_mostBelief_10 : decode cX6_mostBelief 10 = .ok (.iconst 0, 1) := by decide +kernel
theorem dX6_mostBelief_11 : decode cX6_mostBelief 11 = .ok (.istore 6, 2) := by decide +kernel
theorem dX6_mostBelief_13 : decode cX6_mostBelief 13 = .ok (.iload 6, 2) := by decide +kernel
theorem dX6_mostBelief_15 : decode cX6_mostBelief 15 = .ok (.iload_n 2, 1) := by decide +kernel
theorem dX6_mostBelief_16 : decode cX6_mostBelief 16 = .ok (.invokestatic 114, 3) := by decide +kernel
theorem dX6_mostBelief_19 : decode cX6_mostBelief 19 = .ok (.if_icmp .gt 70, 3) := by decide +kernel
theorem dX6_mostBelief_22 : decode cX6_mostBelief 22 = .ok (.aload_n 0, 1) := by decide +kernel
theorem dX6_mostBelief_23 : decode cX6_mostBelief 23 = .ok (.getfield 7, 3) := by decide +kernel
theorem dX6_mostBelief_26 : decode cX6_mostBelief 26 = .ok (.iload_n 1, 1) := by decide +kernel
theorem dX6_mostBelief_27 : decode cX6_mostBelief 27 = .ok (.iload_n 2, 1) := by decide +kernel
theorem dX6_mostBelief_28 : decode cX6_mostBelief 28 = .ok (.invokestatic 59, 3) := by decide +kernel
theorem dX6_mostBelief_31 : decode cX6_mostBelief 31 = .ok (.iload 6, 2) := by decide +kernel
theorem dX6_mostBelief_33 : decode cX6_mostBelief 33 = .ok (.iastore, 1) := by decide +kernel
theorem dX6_mostBelief_34 : decode cX6_mostBelief 34 = .ok (.aload_n 0, 1) := by decide +kernel
theorem dX6_mostBelief_35 : decode cX6_mostBelief 35 = .ok (.iload_n 3, 1) := by decide +kernel
theorem dX6_mostBelief_36 : decode cX6_mostBelief 36 = .ok (.invokevirtual 141, 3) := by decide +kernel
theorem dX6_mostBelief_39 : decode cX6_mostBelief 39 = .ok (.aload_n 0, 1) := by decide +kernel
theorem dX6_mostBelief_40 : decode cX6_mostBelief 40 = .ok (.aload_n 0, 1) := by decide +kernel
theorem dX6_mostBelief_41 : decode cX6_mostBelief 41 = .ok (.iload_n 1, 1) := by decide +kernel
theorem dX6_mostBelief_42 : decode cX6_mostBelief 42 = .ok (.iconst 3, 1) := by decide +kernel
theorem dX6_mostBelief_43 : decode cX6_mostBelief 43 = .ok (.invokevirtual 63, 3) := by decide +kernel
theorem dX6_mostBelief_46 : decode cX6_mostBelief 46 = .ok (.invokevirtual 159, 3) := by decide +kernel
theorem dX6_mostBelief_49 : decode cX6_mostBelief 49 = .ok (.istore 7, 2) := by decide +kernel
theorem dX6_mostBelief_51 : decode cX6_mostBelief 51 = .ok (.iload 7, 2) := by decide +kernel
theorem dX6_mostBelief_53 : decode cX6_mostBelief 53 = .ok (.iload 5, 2) := by decide +kernel
theorem dX6_mostBelief_55 : decode cX6_mostBelief 55 = .ok (.if_icmp .le 8, 3) := by decide +kernel
theorem dX6_mostBelief_58 : decode cX6_mostBelief 58 = .ok (.iload 6, 2) := by decide +kernel
theorem dX6_mostBelief_60 : decode cX6_mostBelief 60 = .ok (.goto 5, 3) := by decide +kernel
theorem dX6_mostBelief_63 : decode cX6_mostBelief 63 = .ok (.iload 4, 2) := by decide +kernel
theorem dX6_mostBelief_65 : decode cX6_mostBelief 65 = .ok (.istore 4, 2) := by decide +kernel
theorem dX6_mostBelief_67 : decode cX6_mostBelief 67 = .ok (.iload 7, 2) := by decide +kernel
theorem dX6_mostBelief_69 : decode cX6_mostBelief 69 = .ok (.iload 5, 2) := by decide +kernel
theorem dX6_mostBelief_71 : decode cX6_mostBelief 71 = .ok (.if_icmp .le 8, 3) := by decide +kernel
theorem dX6_mostBelief_74 : decode cX6_mostBelief 74 = .ok (.iload 7, 2) := by decide +kernel
theorem dX6_mostBelief_76 : decode cX6_mostBelief 76 = .ok (.goto 5, 3) := by decide +kernel
theorem dX6_mostBelief_79 : decode cX6_mostBelief 79 = .ok (.iload 5, 2) := by decide +kernel
theorem dX6_mostBelief_81 : decode cX6_mostBelief 81 = .ok (.istore 5, 2) := by decide +kernel
theorem dX6_mostBelief_83 : decode cX6_mostBelief 83 = .ok (.iinc 6 1, 3) := by decide +kernel
theorem dX6_mostBelief_86 : decode cX6_mostBelief 86 = .ok (.goto (-73), 3) := by decide +kernel
theorem dX6_mostBelief_89 : decode cX6_mostBelief 89 = .ok (.iload 4, 2) := by decide +kernel
theorem dX6_mostBelief_91 : decode cX6_mostBelief 91 = .ok (.ireturn, 1) := by decide +kernel
theorem dX6_seat_0 : decode cX6_seat 0 = .ok (.aload_n 0, 1) := by decide +kernel
theorem dX6_seat_1 : decode cX6_seat 1 = .ok (.iload_n 1, 1) := by decide +kernel
theorem dX6_seat_2 : decode cX6_seat 2 = .ok (.invokevirtual 100, 3) := by decide +kernel
theorem dX6_seat_5 : decode cX6_seat 5 = .ok (.ifCond .eq 20, 3) := by decide +kernel
theorem dX6_seat_8 : decode cX6_seat 8 = .ok (.iload_n 2, 1) := by decide +kernel
theorem dX6_seat_9 : decode cX6_seat 9 = .ok (.invokestatic 187, 3) := by decide +kernel
theorem dX6_seat_12 : decode cX6_seat 12 = .ok (.ifCond .eq 13, 3) := by decide +kernel
theorem dX6_seat_15 : decode cX6_seat 15 = .ok (.aload_n 0, 1) := by decide +kernel
theorem dX6_seat_16 : decode cX6_seat 16 = .ok (.iload_n 1, 1) := by decide +kernel
theorem dX6_seat_17 : decode cX6_seat 17 = .ok (.iconst 1, 1) := by decide +kernel
theorem dX6_seat_18 : decode cX6_seat 18 = .ok (.iload_n 2, 1) := by decide +kernel
theorem dX6_seat_19 : decode cX6_seat 19 = .ok (.invokevirtual 195, 3) := by decide +kernel
theorem dX6_seat_22 : decode cX6_seat 22 = .ok (.goto 9, 3) := by decide +kernel
theorem dX6_seat_25 : decode cX6_seat 25 = .ok (.aload_n 0, 1) := by decide +kernel
theorem dX6_seat_26 : decode cX6_seat 26 = .ok (.ldc 46, 2) := by decide +kernel
theorem dX6_seat_28 : decode cX6_seat 28 = .ok (.invokevirtual 75, 3) := by decide +kernel
theorem dX6_seat_31 : decode cX6_seat 31 = .ok (.ireturn, 1) := by decide +kernel
theorem dX6_kindFor_0 : decode cX6_kindFor 0 = .ok (.aload_n 0, 1) := by decide +kernel
theorem dX6_kindFor_1 : decode cX6_kindFor 1 = .ok (.iload_n 1, 1) := by decide +kernel
theorem dX6_kindFor_2 : decode cX6_kindFor 2 = .ok (.invokevirtual 100, 3) := by decide +kernel
theorem dX6_kindFor_5 : decode cX6_kindFor 5 = .ok (.ifCond .eq 20, 3) := by decide +kernel
theorem dX6_kindFor_8 : decode cX6_kindFor 8 = .ok (.iload_n 2, 1) := by decide +kernel
end
section
theorem dX6_kindFor_9 : decode cX6_kindFor 9 = .ok (.invokestatic 187, 3) := by decide +kernel
theorem dX6_kindFor_12 : decode cX6_kindFor 12 = .ok (.ifCond .eq 13, 3) := by decide +kernel
theorem dX6_kindFor_15 : decode cX6_kindFor 15 = .ok (.aload_n 0, 1) := by decide +kernel
theorem dX6_kindFor_16 : decode cX6_kindFor 16 = .ok (.iload_n 1, 1) := by decide +kernel
theorem dX6_kindFor_17 : decode cX6_kindFor 17 = .ok (.iconst 0, 1) := by decide +kernel
theorem dX6_kindFor_18 : decode cX6_kindFor 18 = .ok (.iload_n 2, 1) := by decide +kernel
theorem dX6_kindFor_19 : decode cX6_kindFor 19 = .ok (.invokevirtual 195, 3) := by decide +kernel
theorem dX6_kindFor_22 : decode cX6_kindFor 22 = .ok (.goto 9, 3) := by decide +kernel
theorem dX6_kindFor_25 : decode cX6_kindFor 25 = .ok (.aload_n 0, 1) := by decide +kernel
theorem dX6_kindFor_26 : decode cX6_kindFor 26 = .ok (.ldc 46, 2) := by decide +kernel
theorem dX6_kindFor_28 : decode cX6_kindFor 28 = .ok (.invokevirtual 75, 3) := by decide +kernel
theorem dX6_kindFor_31 : decode cX6_kindFor 31 = .ok (.ireturn, 1) := by decide +kernel
theorem dX6_wantFor_0 : decode cX6_wantFor 0 = .ok (.aload_n 0, 1) := by decide +kernel
theorem dX6_wantFor_1 : decode cX6_wantFor 1 = .ok (.iload_n 1, 1) := by decide +kernel
theorem dX6_wantFor_2 : decode cX6_wantFor 2 = .ok (.invokevirtual 100, 3) := by decide +kernel
theorem dX6_wantFor_5 : decode cX6_wantFor 5 = .ok (.ifCond .eq 10, 3) := by decide +kernel
theorem dX6_wantFor_8 : decode cX6_wantFor 8 = .ok (.iload_n 2, 1) := by decide +kernel
theorem dX6_wantFor_9 : decode cX6_wantFor 9 = .ok (.invokestatic 187, 3) := by decide +kernel
theorem dX6_wantFor_12 : decode cX6_wantFor 12 = .ok (.ifCond .ne 10, 3) := by decide +kernel
theorem dX6_wantFor_15 : decode cX6_wantFor 15 = .ok (.aload_n 0, 1) := by decide +kernel
theorem dX6_wantFor_16 : decode cX6_wantFor 16 = .ok (.ldc 46, 2) := by decide +kernel
theorem dX6_wantFor_18 : decode cX6_wantFor 18 = .ok (.invokevirtual 75, 3) := by decide +kernel
theorem dX6_wantFor_21 : decode cX6_wantFor 21 = .ok (.ireturn, 1) := by decide +kernel
theorem dX6_wantFor_22 : decode cX6_wantFor 22 = .ok (.iload_n 2, 1) := by decide +kernel
theorem dX6_wantFor_23 : decode cX6_wantFor 23 = .ok (.ifCond .eq 15, 3) := by decide +kernel
theorem dX6_wantFor_26 : decode cX6_wantFor 26 = .ok (.aload_n 0, 1) := by decide +kernel
theorem dX6_wantFor_27 : decode cX6_wantFor 27 = .ok (.iload_n 1, 1) := by decide +kernel
theorem dX6_wantFor_28 : decode cX6_wantFor 28 = .ok (.iconst 4, 1) := by decide +kernel
theorem dX6_wantFor_29 : decode cX6_wantFor 29 = .ok (.invokevirtual 63, 3) := by decide +kernel
theorem dX6_wantFor_32 : decode cX6_wantFor 32 = .ok (.sipush 9999, 3) := by decide +kernel
theorem dX6_wantFor_35 : decode cX6_wantFor 35 = .ok (.if_icmp .ne 9, 3) := by decide +kernel
theorem dX6_wantFor_38 : decode cX6_wantFor 38 = .ok (.sipush 999, 3) := by decide +kernel
theorem dX6_wantFor_41 : decode cX6_wantFor 41 = .ok (.goto 15, 3) := by decide +kernel
theorem dX6_wantFor_44 : decode cX6_wantFor 44 = .ok (.aload_n 0, 1) := by decide +kernel
theorem dX6_wantFor_45 : decode cX6_wantFor 45 = .ok (.aload_n 0, 1) := by decide +kernel
theorem dX6_wantFor_46 : decode cX6_wantFor 46 = .ok (.iload_n 1, 1) := by decide +kernel
theorem dX6_wantFor_47 : decode cX6_wantFor 47 = .ok (.iconst 1, 1) := by decide +kernel
theorem dX6_wantFor_48 : decode cX6_wantFor 48 = .ok (.invokevirtual 63, 3) := by decide +kernel
theorem dX6_wantFor_51 : decode cX6_wantFor 51 = .ok (.iconst 1, 1) := by decide +kernel
theorem dX6_wantFor_52 : decode cX6_wantFor 52 = .ok (.iload_n 2, 1) := by decide +kernel
theorem dX6_wantFor_53 : decode cX6_wantFor 53 = .ok (.invokevirtual 181, 3) := by decide +kernel
theorem dX6_wantFor_56 : decode cX6_wantFor 56 = .ok (.istore_n 3, 1) := by decide +kernel
theorem dX6_wantFor_57 : decode cX6_wantFor 57 = .ok (.iload_n 3, 1) := by decide +kernel
theorem dX6_wantFor_58 : decode cX6_wantFor 58 = .ok (.sipush 999, 3) := by decide +kernel
theorem dX6_wantFor_61 : decode cX6_wantFor 61 = .ok (.if_icmp .le 9, 3) := by decide +kernel
theorem dX6_wantFor_64 : decode cX6_wantFor 64 = .ok (.sipush 999, 3) := by decide +kernel
theorem dX6_wantFor_67 : decode cX6_wantFor 67 = .ok (.goto 4, 3) := by decide +kernel
theorem dX6_wantFor_70 : decode cX6_wantFor 70 = .ok (.iload_n 3, 1) := by decide +kernel
theorem dX6_wantFor_71 : decode cX6_wantFor 71 = .ok (.ireturn, 1) := by decide +kernel
theorem dX6_watch_0 : decode cX6_watch 0 = .ok (.iload_n 1, 1) := by decide +kernel
theorem dX6_watch_1 : decode cX6_watch 1 = .ok (.i2l, 1) := by decide +kernel
theorem dX6_watch_2 : decode cX6_watch 2 = .ok (.lconst 1, 1) := by decide +kernel
theorem dX6_watch_3 : decode cX6_watch 3 = .ok (.ldc2_w 185, 3) := by decide +kernel
theorem dX6_watch_6 : decode cX6_watch 6 = .ok (.invokestatic 49, 3) := by decide +kernel
theorem dX6_watch_9 : decode cX6_watch 9 = .ok (.ifCond .ne 10, 3) := by decide +kernel
theorem dX6_watch_12 : decode cX6_watch 12 = .ok (.aload_n 0, 1) := by decide +kernel
theorem dX6_watch_13 : decode cX6_watch 13 = .ok (.ldc 46, 2) := by decide +kernel
theorem dX6_watch_15 : decode cX6_watch 15 = .ok (.invokevirtual 75, 3) := by decide +kernel
theorem dX6_watch_18 : decode cX6_watch 18 = .ok (.ireturn, 1) := by decide +kernel
theorem dX6_watch_19 : decode cX6_watch 19 = .ok (.iconst 0, 1) := by decide +kernel
theorem dX6_watch_20 : decode cX6_watch 20 = .ok (.istore_n 2, 1) := by decide +kernel
theorem dX6_watch_21 : decode cX6_watch 21 = .ok (.iload_n 2, 1) := by decide +kernel
theorem dX6_watch_22 : decode cX6_watch 22 = .ok (.bipush 12, 2) := by decide +kernel
theorem dX6_watch_24 : decode cX6_watch 24 = .ok (.if_icmp .ge 16, 3) := by decide +kernel
theorem dX6_watch_27 : decode cX6_watch 27 = .ok (.aload_n 0, 1) := by decide +kernel
theorem dX6_watch_28 : decode cX6_watch 28 = .ok (.getfield 28, 3) := by decide +kernel
theorem dX6_watch_31 : decode cX6_watch 31 = .ok (.iload_n 2, 1) := by decide +kernel
theorem dX6_watch_32 : decode cX6_watch 32 = .ok (.iconst 0, 1) := by decide +kernel
theorem dX6_watch_33 : decode cX6_watch 33 = .ok (.iastore, 1) := by decide +kernel
theorem dX6_watch_34 : decode cX6_watch 34 = .ok (.iinc 2 1, 3) := by decide +kernel
theorem dX6_watch_37 : decode cX6_watch 37 = .ok (.goto (-16), 3) := by decide +kernel
theorem dX6_watch_40 : decode cX6_watch 40 = .ok (.aload_n 0, 1) := by decide +kernel
theorem dX6_watch_41 : decode cX6_watch 41 = .ok (.invokevirtual 156, 3) := by decide +kernel
theorem dX6_watch_44 : decode cX6_watch 44 = .ok (.iconst 0, 1) := by decide +kernel
theorem dX6_watch_45 : decode cX6_watch 45 = .ok (.istore_n 2, 1) := by decide +kernel
theorem dX6_watch_46 : decode cX6_watch 46 = .ok (.iload_n 2, 1) := by decide +kernel
theorem dX6_watch_47 : decode cX6_watch 47 = .ok (.iload_n 1, 1) := by decide +kernel
theorem dX6_watch_48 : decode cX6_watch 48 = .ok (.if_icmp .ge 54, 3) := by decide +kernel
theorem dX6_watch_51 : decode cX6_watch 51 = .ok (.aload_n 0, 1) := by decide +kernel
theorem dX6_watch_52 : decode cX6_watch 52 = .ok (.invokevirtual 134, 3) := by decide +kernel
theorem dX6_watch_55 : decode cX6_watch 55 = .ok (.iconst 0, 1) := by decide +kernel
theorem dX6_watch_56 : decode cX6_watch 56 = .ok (.istore_n 3, 1) := by decide +kernel
theorem dX6_watch_57 : decode cX6_watch 57 = .ok (.iload_n 3, 1) := by decide +kernel
theorem dX6_watch_58 : decode cX6_watch 58 = .ok (.bipush 12, 2) := by decide +kernel
theorem dX6_watch_60 : decode cX6_watch 60 = .ok (.if_icmp .ge 36, 3) := by decide +kernel
theorem dX6_watch_63 : decode cX6_watch 63 = .ok (.aload_n 0, 1) := by decide +kernel
theorem dX6_watch_64 : decode cX6_watch 64 = .ok (.getfield 28, 3) := by decide +kernel
theorem dX6_watch_67 : decode cX6_watch 67 = .ok (.iload_n 3, 1) := by decide +kernel
theorem dX6_watch_68 : decode cX6_watch 68 = .ok (.dup2, 1) := by decide +kernel
theorem dX6_watch_69 : decode cX6_watch 69 = .ok (.iaload, 1) := by decide +kernel
theorem dX6_watch_70 : decode cX6_watch 70 = .ok (.aload_n 0, 1) := by decide +kernel
theorem dX6_watch_71 : decode cX6_watch 71 = .ok (.getfield 7, 3) := by decide +kernel
theorem dX6_watch_74 : decode cX6_watch 74 = .ok (.bipush 12, 2) := by decide +kernel
theorem dX6_watch_76 : decode cX6_watch 76 = .ok (.iload_n 3, 1) := by decide +kernel
theorem dX6_watch_77 : decode cX6_watch 77 = .ok (.iadd, 1) := by decide +kernel
theorem dX6_watch_78 : decode cX6_watch 78 = .ok (.iaload, 1) := by decide +kernel
theorem dX6_watch_79 : decode cX6_watch 79 = .ok (.aload_n 0, 1) := by decide +kernel
theorem dX6_watch_80 : decode cX6_watch 80 = .ok (.getfield 25, 3) := by decide +kernel
theorem dX6_watch_83 : decode cX6_watch 83 = .ok (.iload_n 3, 1) := by decide +kernel
theorem dX6_watch_84 : decode cX6_watch 84 = .ok (.iaload, 1) := by decide +kernel
theorem dX6_watch_85 : decode cX6_watch 85 = .ok (.invokestatic 125, 3) := by decide +kernel
theorem dX6_watch_88 : decode cX6_watch 88 = .ok (.iadd, 1) := by decide +kernel
theorem dX6_watch_89 : decode cX6_watch 89 = .ok (.iastore, 1) := by decide +kernel
theorem dX6_watch_90 : decode cX6_watch 90 = .ok (.iinc 3 1, 3) := by decide +kernel
theorem dX6_watch_93 : decode cX6_watch 93 = .ok (.goto (-36), 3) := by decide +kernel
theorem dX6_watch_96 : decode cX6_watch 96 = .ok (.iinc 2 1, 3) := by decide +kernel
theorem dX6_watch_99 : decode cX6_watch 99 = .ok (.goto (-53), 3) := by decide +kernel
theorem dX6_watch_102 : decode cX6_watch 102 = .ok (.iconst 0, 1) := by decide +kernel
theorem dX6_watch_103 : decode cX6_watch 103 = .ok (.istore_n 2, 1) := by decide +kernel
theorem dX6_watch_104 : decode cX6_watch 104 = .ok (.iconst 1, 1) := by decide +kernel
theorem dX6_watch_105 : decode cX6_watch 105 = .ok (.istore_n 3, 1) := by decide +kernel
theorem dX6_watch_106 : decode cX6_watch 106 = .ok (.iload_n 3, 1) := by decide +kernel
theorem dX6_watch_107 : decode cX6_watch 107 = .ok (.bipush 12, 2) := by decide +kernel
theorem dX6_watch_109 : decode cX6_watch 109 = .ok (.if_icmp .ge 30, 3) := by decide +kernel
theorem dX6_watch_112 : decode cX6_watch 112 = .ok (.aload_n 0, 1) := by decide +kernel
theorem dX6_watch_113 : decode cX6_watch 113 = .ok (.getfield 28, 3) := by decide +kernel
theorem dX6_watch_116 : decode cX6_watch 116 = .ok (.iload_n 3, 1) := by decide +kernel
theorem dX6_watch_117 : decode cX6_watch 117 = .ok (.iaload, 1) := by decide +kernel
theorem dX6_watch_118 : decode cX6_watch 118 = .ok (.aload_n 0, 1) := by decide +kernel
theorem dX6_watch_119 : decode cX6_watch 119 = .ok (.getfield 28, 3) := by decide +kernel
theorem dX6_watch_122 : decode cX6_watch 122 = .ok (.iload_n 2, 1) := by decide +kernel
theorem dX6_watch_123 : decode cX6_watch 123 = .ok (.iaload, 1) := by decide +kernel
theorem dX6_watch_124 : decode cX6_watch 124 = .ok (.if_icmp .le 7, 3) := by decide +kernel
theorem dX6_watch_127 : decode cX6_watch 127 = .ok (.iload_n 3, 1) := by decide +kernel
theorem dX6_watch_128 : decode cX6_watch 128 = .ok (.goto 4, 3) := by decide +kernel
theorem dX6_watch_131 : decode cX6_watch 131 = .ok (.iload_n 2, 1) := by decide +kernel
theorem dX6_watch_132 : decode cX6_watch 132 = .ok (.istore_n 2, 1) := by decide +kernel
theorem dX6_watch_133 : decode cX6_watch 133 = .ok (.iinc 3 1, 3) := by decide +kernel
theorem dX6_watch_136 : decode cX6_watch 136 = .ok (.goto (-30), 3) := by decide +kernel
theorem dX6_watch_139 : decode cX6_watch 139 = .ok (.aload_n 0, 1) := by decide +kernel
theorem dX6_watch_140 : decode cX6_watch 140 = .ok (.iload_n 2, 1) := by decide +kernel
theorem dX6_watch_141 : decode cX6_watch 141 = .ok (.invokevirtual 159, 3) := by decide +kernel
theorem dX6_watch_144 : decode cX6_watch 144 = .ok (.ireturn, 1) := by decide +kernel
theorem dX6_isTold_0 : decode cX6_isTold 0 = .ok (.iconst 1, 1) := by decide +kernel
theorem dX6_isTold_1 : decode cX6_isTold 1 = .ok (.istore_n 3, 1) := by decide +kernel
theorem dX6_isTold_2 : decode cX6_isTold 2 = .ok (.iconst 0, 1) := by decide +kernel
theorem dX6_isTold_3 : decode cX6_isTold 3 = .ok (.istore 4, 2) := by decide +kernel
theorem dX6_isTold_5 : decode cX6_isTold 5 = .ok (.iload 4, 2) := by decide +kernel
theorem dX6_isTold_7 : decode cX6_isTold 7 = .ok (.aload_n 0, 1) := by decide +kernel
theorem dX6_isTold_8 : decode cX6_isTold 8 = .ok (.getfield 37, 3) := by decide +kernel
theorem dX6_isTold_11 : decode cX6_isTold 11 = .ok (.iload_n 1, 1) := by decide +kernel
theorem dX6_isTold_12 : decode cX6_isTold 12 = .ok (.iaload, 1) := by decide +kernel
theorem dX6_isTold_13 : decode cX6_isTold 13 = .ok (.if_icmp .ge 54, 3) := by decide +kernel
theorem dX6_isTold_16 : decode cX6_isTold 16 = .ok (.iload_n 3, 1) := by decide +kernel
theorem dX6_isTold_17 : decode cX6_isTold 17 = .ok (.ifCond .eq 50, 3) := by decide +kernel
theorem dX6_isTold_20 : decode cX6_isTold 20 = .ok (.aload_n 0, 1) := by decide +kernel
theorem dX6_isTold_21 : decode cX6_isTold 21 = .ok (.getfield 40, 3) := by decide +kernel
theorem dX6_isTold_24 : decode cX6_isTold 24 = .ok (.bipush 40, 2) := by decide +kernel
theorem dX6_isTold_26 : decode cX6_isTold 26 = .ok (.iload_n 1, 1) := by decide +kernel
theorem dX6_isTold_27 : decode cX6_isTold 27 = .ok (.imul, 1) := by decide +kernel
theorem dX6_isTold_28 : decode cX6_isTold 28 = .ok (.iload 4, 2) := by decide +kernel
theorem dX6_isTold_30 : decode cX6_isTold 30 = .ok (.iadd, 1) := by decide +kernel
theorem dX6_isTold_31 : decode cX6_isTold 31 = .ok (.iaload, 1) := by decide +kernel
theorem dX6_isTold_32 : decode cX6_isTold 32 = .ok (.istore 5, 2) := by decide +kernel
theorem dX6_isTold_34 : decode cX6_isTold 34 = .ok (.iload 5, 2) := by decide +kernel
theorem dX6_isTold_36 : decode cX6_isTold 36 = .ok (.iconst (-1), 1) := by decide +kernel
theorem dX6_isTold_37 : decode cX6_isTold 37 = .ok (.if_icmp .eq 14, 3) := by decide +kernel
theorem dX6_isTold_40 : decode cX6_isTold 40 = .ok (.iload 5, 2) := by decide +kernel
theorem dX6_isTold_42 : decode cX6_isTold 42 = .ok (.aload_n 0, 1) := by decide +kernel
theorem dX6_isTold_43 : decode cX6_isTold 43 = .ok (.getfield 7, 3) := by decide +kernel
theorem dX6_isTold_46 : decode cX6_isTold 46 = .ok (.iload_n 2, 1) := by decide +kernel
theorem dX6_isTold_47 : decode cX6_isTold 47 = .ok (.iaload, 1) := by decide +kernel
theorem dX6_isTold_48 : decode cX6_isTold 48 = .ok (.if_icmp .ne 7, 3) := by decide +kernel
theorem dX6_isTold_51 : decode cX6_isTold 51 = .ok (.iconst 1, 1) := by decide +kernel
theorem dX6_isTold_52 : decode cX6_isTold 52 = .ok (.goto 4, 3) := by decide +kernel
theorem dX6_isTold_55 : decode cX6_isTold 55 = .ok (.iconst 0, 1) := by decide +kernel
theorem dX6_isTold_56 : decode cX6_isTold 56 = .ok (.istore_n 3, 1) := by decide +kernel
theorem dX6_isTold_57 : decode cX6_isTold 57 = .ok (.aload_n 0, 1) := by decide +kernel
theorem dX6_isTold_58 : decode cX6_isTold 58 = .ok (.invokevirtual 134, 3) := by decide +kernel
theorem dX6_isTold_61 : decode cX6_isTold 61 = .ok (.iinc 4 1, 3) := by decide +kernel
theorem dX6_isTold_64 : decode cX6_isTold 64 = .ok (.goto (-59), 3) := by decide +kernel
theorem dX6_isTold_67 : decode cX6_isTold 67 = .ok (.aload_n 0, 1) := by decide +kernel
theorem dX6_isTold_68 : decode cX6_isTold 68 = .ok (.iload_n 3, 1) := by decide +kernel
theorem dX6_isTold_69 : decode cX6_isTold 69 = .ok (.ifCond .eq 7, 3) := by decide +kernel
theorem dX6_isTold_72 : decode cX6_isTold 72 = .ok (.iconst 1, 1) := by decide +kernel
theorem dX6_isTold_73 : decode cX6_isTold 73 = .ok (.goto 4, 3) := by decide +kernel
theorem dX6_isTold_76 : decode cX6_isTold 76 = .ok (.iconst 0, 1) := by decide +kernel
theorem dX6_isTold_77 : decode cX6_isTold 77 = .ok (.invokevirtual 159, 3) := by decide +kernel
theorem dX6_isTold_80 : decode cX6_isTold 80 = .ok (.iconst 1, 1) := by decide +kernel
theorem dX6_isTold_81 : decode cX6_isTold 81 = .ok (.if_icmp .ne 7, 3) := by decide +kernel
theorem dX6_isTold_84 : decode cX6_isTold 84 = .ok (.iconst 1, 1) := by decide +kernel
theorem dX6_isTold_85 : decode cX6_isTold 85 = .ok (.goto 4, 3) := by decide +kernel
theorem dX6_isTold_88 : decode cX6_isTold 88 = .ok (.iconst 0, 1) := by decide +kernel
theorem dX6_isTold_89 : decode cX6_isTold 89 = .ok (.ireturn, 1) := by decide +kernel
theorem dX6_findOpened_0 : decode cX6_findOpened 0 = .ok (.aload_n 0, 1) := by decide +kernel
theorem dX6_findOpened_1 : decode cX6_findOpened 1 = .ok (.iconst (-1), 1) := by decide +kernel
theorem dX6_findOpened_2 : decode cX6_findOpened 2 = .ok (.putfield 198, 3) := by decide +kernel
theorem dX6_findOpened_5 : decode cX6_findOpened 5 = .ok (.aload_n 0, 1) := by decide +kernel
theorem dX6_findOpened_6 : decode cX6_findOpened 6 = .ok (.iconst 0, 1) := by decide +kernel
theorem dX6_findOpened_7 : decode cX6_findOpened 7 = .ok (.putfield 201, 3) := by decide +kernel
theorem dX6_findOpened_10 : decode cX6_findOpened 10 = .ok (.aload_n 0, 1) := by decide +kernel
theorem dX6_findOpened_11 : decode cX6_findOpened 11 = .ok (.invokevirtual 156, 3) := by decide +kernel
theorem dX6_findOpened_14 : decode cX6_findOpened 14 = .ok (.iconst 0, 1) := by decide +kernel
theorem dX6_findOpened_15 : decode cX6_findOpened 15 = .ok (.istore 4, 2) := by decide +kernel
theorem dX6_findOpened_17 : decode cX6_findOpened 17 = .ok (.iload 4, 2) := by decide +kernel
theorem dX6_findOpened_19 : decode cX6_findOpened 19 = .ok (.bipush 99, 2) := by decide +kernel
theorem dX6_findOpened_21 : decode cX6_findOpened 21 = .ok (.if_icmp .gt 61, 3) := by decide +kernel
theorem dX6_findOpened_24 : decode cX6_findOpened 24 = .ok (.aload_n 0, 1) := by decide +kernel
theorem dX6_findOpened_25 : decode cX6_findOpened 25 = .ok (.getfield 7, 3) := by decide +kernel
theorem dX6_findOpened_28 : decode cX6_findOpened 28 = .ok (.iconst 4, 1) := by decide +kernel
theorem dX6_findOpened_29 : decode cX6_findOpened 29 = .ok (.iload_n 2, 1) := by decide +kernel
theorem dX6_findOpened_30 : decode cX6_findOpened 30 = .ok (.iadd, 1) := by decide +kernel
theorem dX6_findOpened_31 : decode cX6_findOpened 31 = .ok (.iload 4, 2) := by decide +kernel
theorem dX6_findOpened_33 : decode cX6_findOpened 33 = .ok (.iastore, 1) := by decide +kernel
theorem dX6_findOpened_34 : decode cX6_findOpened 34 = .ok (.aload_n 0, 1) := by decide +kernel
theorem dX6_findOpened_35 : decode cX6_findOpened 35 = .ok (.iload_n 1, 1) := by decide +kernel
theorem dX6_findOpened_36 : decode cX6_findOpened 36 = .ok (.bipush 12, 2) := by decide +kernel
theorem dX6_findOpened_38 : decode cX6_findOpened 38 = .ok (.iload_n 3, 1) := by decide +kernel
theorem dX6_findOpened_39 : decode cX6_findOpened 39 = .ok (.iadd, 1) := by decide +kernel
theorem dX6_findOpened_40 : decode cX6_findOpened 40 = .ok (.invokevirtual 204, 3) := by decide +kernel
theorem dX6_findOpened_43 : decode cX6_findOpened 43 = .ok (.ifCond .eq 33, 3) := by decide +kernel
theorem dX6_findOpened_46 : decode cX6_findOpened 46 = .ok (.aload_n 0, 1) := by decide +kernel
theorem dX6_findOpened_47 : decode cX6_findOpened 47 = .ok (.aload_n 0, 1) := by decide +kernel
theorem dX6_findOpened_48 : decode cX6_findOpened 48 = .ok (.getfield 201, 3) := by decide +kernel
theorem dX6_findOpened_51 : decode cX6_findOpened 51 = .ok (.ifCond .ne 8, 3) := by decide +kernel
theorem dX6_findOpened_54 : decode cX6_findOpened 54 = .ok (.iload 4, 2) := by decide +kernel
theorem dX6_findOpened_56 : decode cX6_findOpened 56 = .ok (.goto 7, 3) := by decide +kernel
theorem dX6_findOpened_59 : decode cX6_findOpened 59 = .ok (.aload_n 0, 1) := by decide +kernel
theorem dX6_findOpened_60 : decode cX6_findOpened 60 = .ok (.getfield 198, 3) := by decide +kernel
theorem dX6_findOpened_63 : decode cX6_findOpened 63 = .ok (.putfield 198, 3) := by decide +kernel
theorem dX6_findOpened_66 : decode cX6_findOpened 66 = .ok (.aload_n 0, 1) := by decide +kernel
theorem dX6_findOpened_67 : decode cX6_findOpened 67 = .ok (.dup, 1) := by decide +kernel
theorem dX6_findOpened_68 : decode cX6_findOpened 68 = .ok (.getfield 201, 3) := by decide +kernel
theorem dX6_findOpened_71 : decode cX6_findOpened 71 = .ok (.iconst 1, 1) := by decide +kernel
theorem dX6_findOpened_72 : decode cX6_findOpened 72 = .ok (.iadd, 1) := by decide +kernel
theorem dX6_findOpened_73 : decode cX6_findOpened 73 = .ok (.putfield 201, 3) := by decide +kernel
theorem dX6_findOpened_76 : decode cX6_findOpened 76 = .ok (.iinc 4 1, 3) := by decide +kernel
theorem dX6_findOpened_79 : decode cX6_findOpened 79 = .ok (.goto (-62), 3) := by decide +kernel
theorem dX6_findOpened_82 : decode cX6_findOpened 82 = .ok (.return_, 1) := by decide +kernel
theorem dX6_wrongOpened_0 : decode cX6_wrongOpened 0 = .ok (.aload_n 0, 1) := by decide +kernel
theorem dX6_wrongOpened_1 : decode cX6_wrongOpened 1 = .ok (.iload_n 1, 1) := by decide +kernel
theorem dX6_wrongOpened_2 : decode cX6_wrongOpened 2 = .ok (.invokevirtual 208, 3) := by decide +kernel
theorem dX6_wrongOpened_5 : decode cX6_wrongOpened 5 = .ok (.istore 4, 2) := by decide +kernel
theorem dX6_wrongOpened_7 : decode cX6_wrongOpened 7 = .ok (.iload 4, 2) := by decide +kernel
theorem dX6_wrongOpened_9 : decode cX6_wrongOpened 9 = .ok (.ifCond .eq 8, 3) := by decide +kernel
theorem dX6_wrongOpened_12 : decode cX6_wrongOpened 12 = .ok (.iload 4, 2) := by decide +kernel
theorem dX6_wrongOpened_14 : decode cX6_wrongOpened 14 = .ok (.goto 23, 3) := by decide +kernel
theorem dX6_wrongOpened_17 : decode cX6_wrongOpened 17 = .ok (.iload_n 2, 1) := by decide +kernel
theorem dX6_wrongOpened_18 : decode cX6_wrongOpened 18 = .ok (.invokestatic 79, 3) := by decide +kernel
theorem dX6_wrongOpened_21 : decode cX6_wrongOpened 21 = .ok (.ifCond .eq 14, 3) := by decide +kernel
theorem dX6_wrongOpened_24 : decode cX6_wrongOpened 24 = .ok (.iload_n 3, 1) := by decide +kernel
theorem dX6_wrongOpened_25 : decode cX6_wrongOpened 25 = .ok (.invokestatic 66, 3) := by decide +kernel
theorem dX6_wrongOpened_28 : decode cX6_wrongOpened 28 = .ok (.ifCond .eq 7, 3) := by decide +kernel
theorem dX6_wrongOpened_31 : decode cX6_wrongOpened 31 = .ok (.iconst 0, 1) := by decide +kernel
theorem dX6_wrongOpened_32 : decode cX6_wrongOpened 32 = .ok (.goto 5, 3) := by decide +kernel
theorem dX6_wrongOpened_35 : decode cX6_wrongOpened 35 = .ok (.ldc 46, 2) := by decide +kernel
theorem dX6_wrongOpened_37 : decode cX6_wrongOpened 37 = .ok (.ireturn, 1) := by decide +kernel
theorem dX6_fits_0 : decode cX6_fits 0 = .ok (.aload_n 0, 1) := by decide +kernel
theorem dX6_fits_1 : decode cX6_fits 1 = .ok (.iload_n 1, 1) := by decide +kernel
theorem dX6_fits_2 : decode cX6_fits 2 = .ok (.iload_n 2, 1) := by decide +kernel
theorem dX6_fits_3 : decode cX6_fits 3 = .ok (.iload_n 3, 1) := by decide +kernel
theorem dX6_fits_4 : decode cX6_fits 4 = .ok (.invokevirtual 211, 3) := by decide +kernel
theorem dX6_fits_7 : decode cX6_fits 7 = .ok (.istore 4, 2) := by decide +kernel
theorem dX6_fits_9 : decode cX6_fits 9 = .ok (.iload 4, 2) := by decide +kernel
theorem dX6_fits_11 : decode cX6_fits 11 = .ok (.ifCond .eq 10, 3) := by decide +kernel
theorem dX6_fits_14 : decode cX6_fits 14 = .ok (.aload_n 0, 1) := by decide +kernel
theorem dX6_fits_15 : decode cX6_fits 15 = .ok (.iload 4, 2) := by decide +kernel
theorem dX6_fits_17 : decode cX6_fits 17 = .ok (.invokevirtual 75, 3) := by decide +kernel
theorem dX6_fits_20 : decode cX6_fits 20 = .ok (.ireturn, 1) := by decide +kernel
theorem dX6_fits_21 : decode cX6_fits 21 = .ok (.aload_n 0, 1) := by decide +kernel
theorem dX6_fits_22 : decode cX6_fits 22 = .ok (.iload_n 1, 1) := by decide +kernel
theorem dX6_fits_23 : decode cX6_fits 23 = .ok (.iload_n 2, 1) := by decide +kernel
theorem dX6_fits_24 : decode cX6_fits 24 = .ok (.iload_n 3, 1) := by decide +kernel
theorem dX6_fits_25 : decode cX6_fits 25 = .ok (.invokevirtual 214, 3) := by decide +kernel
theorem dX6_fits_28 : decode cX6_fits 28 = .ok (.aload_n 0, 1) := by decide +kernel
theorem dX6_fits_29 : decode cX6_fits 29 = .ok (.getfield 201, 3) := by decide +kernel
theorem dX6_fits_32 : decode cX6_fits 32 = .ok (.ireturn, 1) := by decide +kernel
theorem dX6_opened_0 : decode cX6_opened 0 = .ok (.aload_n 0, 1) := by decide +kernel
theorem dX6_opened_1 : decode cX6_opened 1 = .ok (.iload_n 1, 1) := by decide +kernel
theorem dX6_opened_2 : decode cX6_opened 2 = .ok (.iload_n 2, 1) := by decide +kernel
theorem dX6_opened_3 : decode cX6_opened 3 = .ok (.iload_n 3, 1) := by decide +kernel
theorem dX6_opened_4 : decode cX6_opened 4 = .ok (.invokevirtual 211, 3) := by decide +kernel
theorem dX6_opened_7 : decode cX6_opened 7 = .ok (.istore 4, 2) := by decide +kernel
theorem dX6_opened_9 : decode cX6_opened 9 = .ok (.iload 4, 2) := by decide +kernel
theorem dX6_opened_11 : decode cX6_opened 11 = .ok (.ifCond .eq 10, 3) := by decide +kernel
theorem dX6_opened_14 : decode cX6_opened 14 = .ok (.aload_n 0, 1) := by decide +kernel
theorem dX6_opened_15 : decode cX6_opened 15 = .ok (.iload 4, 2) := by decide +kernel
theorem dX6_opened_17 : decode cX6_opened 17 = .ok (.invokevirtual 75, 3) := by decide +kernel
theorem dX6_opened_20 : decode cX6_opened 20 = .ok (.ireturn, 1) := by decide +kernel
theorem dX6_opened_21 : decode cX6_opened 21 = .ok (.aload_n 0, 1) := by decide +kernel
theorem dX6_opened_22 : decode cX6_opened 22 = .ok (.iload_n 1, 1) := by decide +kernel
theorem dX6_opened_23 : decode cX6_opened 23 = .ok (.iload_n 2, 1) := by decide +kernel
theorem dX6_opened_24 : decode cX6_opened 24 = .ok (.iload_n 3, 1) := by decide +kernel
theorem dX6_opened_25 : decode cX6_opened 25 = .ok (.invokevirtual 214, 3) := by decide +kernel
theorem dX6_opened_28 : decode cX6_opened 28 = .ok (.aload_n 0, 1) := by decide +kernel
theorem dX6_opened_29 : decode cX6_opened 29 = .ok (.getfield 198, 3) := by decide +kernel
theorem dX6_opened_32 : decode cX6_opened 32 = .ok (.ifCond .ge 12, 3) := by decide +kernel
theorem dX6_opened_35 : decode cX6_opened 35 = .ok (.aload_n 0, 1) := by decide +kernel
theorem dX6_opened_36 : decode cX6_opened 36 = .ok (.ldc 169, 2) := by decide +kernel
theorem dX6_opened_38 : decode cX6_opened 38 = .ok (.invokevirtual 75, 3) := by decide +kernel
theorem dX6_opened_41 : decode cX6_opened 41 = .ok (.goto 7, 3) := by decide +kernel
theorem dX6_opened_44 : decode cX6_opened 44 = .ok (.aload_n 0, 1) := by decide +kernel
theorem dX6_opened_45 : decode cX6_opened 45 = .ok (.getfield 198, 3) := by decide +kernel
theorem dX6_opened_48 : decode cX6_opened 48 = .ok (.ireturn, 1) := by decide +kernel
theorem dX6_kinds_0 : decode cX6_kinds 0 = .ok (.aload_n 0, 1) := by decide +kernel
theorem dX6_kinds_1 : decode cX6_kinds 1 = .ok (.iload_n 1, 1) := by decide +kernel
theorem dX6_kinds_2 : decode cX6_kinds 2 = .ok (.invokevirtual 208, 3) := by decide +kernel
theorem dX6_kinds_5 : decode cX6_kinds 5 = .ok (.istore_n 3, 1) := by decide +kernel
theorem dX6_kinds_6 : decode cX6_kinds 6 = .ok (.iload_n 3, 1) := by decide +kernel
theorem dX6_kinds_7 : decode cX6_kinds 7 = .ok (.ifCond .ne 16, 3) := by decide +kernel
theorem dX6_kinds_10 : decode cX6_kinds 10 = .ok (.aload_n 0, 1) := by decide +kernel
theorem dX6_kinds_11 : decode cX6_kinds 11 = .ok (.iload_n 2, 1) := by decide +kernel
theorem dX6_kinds_12 : decode cX6_kinds 12 = .ok (.invokevirtual 100, 3) := by decide +kernel
theorem dX6_kinds_15 : decode cX6_kinds 15 = .ok (.ifCond .ne 8, 3) := by decide +kernel
theorem dX6_kinds_18 : decode cX6_kinds 18 = .ok (.ldc 46, 2) := by decide +kernel
theorem dX6_kinds_20 : decode cX6_kinds 20 = .ok (.goto 4, 3) := by decide +kernel
theorem dX6_kinds_23 : decode cX6_kinds 23 = .ok (.iload_n 3, 1) := by decide +kernel
theorem dX6_kinds_24 : decode cX6_kinds 24 = .ok (.istore_n 3, 1) := by decide +kernel
theorem dX6_kinds_25 : decode cX6_kinds 25 = .ok (.iload_n 3, 1) := by decide +kernel
theorem dX6_kinds_26 : decode cX6_kinds 26 = .ok (.ifCond .eq 9, 3) := by decide +kernel
theorem dX6_kinds_29 : decode cX6_kinds 29 = .ok (.aload_n 0, 1) := by decide +kernel
theorem dX6_kinds_30 : decode cX6_kinds 30 = .ok (.iload_n 3, 1) := by decide +kernel
theorem dX6_kinds_31 : decode cX6_kinds 31 = .ok (.invokevirtual 75, 3) := by decide +kernel
theorem dX6_kinds_34 : decode cX6_kinds 34 = .ok (.ireturn, 1) := by decide +kernel
theorem dX6_kinds_35 : decode cX6_kinds 35 = .ok (.aload_n 0, 1) := by decide +kernel
theorem dX6_kinds_36 : decode cX6_kinds 36 = .ok (.invokevirtual 156, 3) := by decide +kernel
theorem dX6_kinds_39 : decode cX6_kinds 39 = .ok (.iconst 0, 1) := by decide +kernel
theorem dX6_kinds_40 : decode cX6_kinds 40 = .ok (.istore 4, 2) := by decide +kernel
theorem dX6_kinds_42 : decode cX6_kinds 42 = .ok (.iconst 0, 1) := by decide +kernel
theorem dX6_kinds_43 : decode cX6_kinds 43 = .ok (.istore 5, 2) := by decide +kernel
theorem dX6_kinds_45 : decode cX6_kinds 45 = .ok (.iload 5, 2) := by decide +kernel
theorem dX6_kinds_47 : decode cX6_kinds 47 = .ok (.bipush 6, 2) := by decide +kernel
theorem dX6_kinds_49 : decode cX6_kinds 49 = .ok (.if_icmp .gt 47, 3) := by decide +kernel
theorem dX6_kinds_52 : decode cX6_kinds 52 = .ok (.aload_n 0, 1) := by decide +kernel
theorem dX6_kinds_53 : decode cX6_kinds 53 = .ok (.getfield 7, 3) := by decide +kernel
theorem dX6_kinds_56 : decode cX6_kinds 56 = .ok (.iload_n 2, 1) := by decide +kernel
theorem dX6_kinds_57 : decode cX6_kinds 57 = .ok (.iconst 0, 1) := by decide +kernel
theorem dX6_kinds_58 : decode cX6_kinds 58 = .ok (.invokestatic 59, 3) := by decide +kernel
theorem dX6_kinds_61 : decode cX6_kinds 61 = .ok (.iload 5, 2) := by decide +kernel
theorem dX6_kinds_63 : decode cX6_kinds 63 = .ok (.iastore, 1) := by decide +kernel
theorem dX6_kinds_64 : decode cX6_kinds 64 = .ok (.iload 4, 2) := by decide +kernel
theorem dX6_kinds_66 : decode cX6_kinds 66 = .ok (.aload_n 0, 1) := by decide +kernel
theorem dX6_kinds_67 : decode cX6_kinds 67 = .ok (.iload_n 1, 1) := by decide +kernel
theorem dX6_kinds_68 : decode cX6_kinds 68 = .ok (.iload_n 2, 1) := by decide +kernel
theorem dX6_kinds_69 : decode cX6_kinds 69 = .ok (.iconst 3, 1) := by decide +kernel
theorem dX6_kinds_70 : decode cX6_kinds 70 = .ok (.invokestatic 59, 3) := by decide +kernel
theorem dX6_kinds_73 : decode cX6_kinds 73 = .ok (.invokevirtual 204, 3) := by decide +kernel
theorem dX6_kinds_76 : decode cX6_kinds 76 = .ok (.ifCond .eq 10, 3) := by decide +kernel
theorem dX6_kinds_79 : decode cX6_kinds 79 = .ok (.iconst 1, 1) := by decide +kernel
theorem dX6_kinds_80 : decode cX6_kinds 80 = .ok (.iload 5, 2) := by decide +kernel
theorem dX6_kinds_82 : decode cX6_kinds 82 = .ok (.ishl, 1) := by decide +kernel
theorem dX6_kinds_83 : decode cX6_kinds 83 = .ok (.goto 4, 3) := by decide +kernel
theorem dX6_kinds_86 : decode cX6_kinds 86 = .ok (.iconst 0, 1) := by decide +kernel
theorem dX6_kinds_87 : decode cX6_kinds 87 = .ok (.ior, 1) := by decide +kernel
theorem dX6_kinds_88 : decode cX6_kinds 88 = .ok (.istore 4, 2) := by decide +kernel
theorem dX6_kinds_90 : decode cX6_kinds 90 = .ok (.iinc 5 1, 3) := by decide +kernel
theorem dX6_kinds_93 : decode cX6_kinds 93 = .ok (.goto (-48), 3) := by decide +kernel
theorem dX6_kinds_96 : decode cX6_kinds 96 = .ok (.iload 4, 2) := by decide +kernel
theorem dX6_kinds_98 : decode cX6_kinds 98 = .ok (.ireturn, 1) := by decide +kernel
theorem dX6_draw_0 : decode cX6_draw 0 = .ok (.aload_n 0, 1) := by decide +kernel
theorem dX6_draw_1 : decode cX6_draw 1 = .ok (.getfield 7, 3) := by decide +kernel
theorem dX6_draw_4 : decode cX6_draw 4 = .ok (.iconst 3, 1) := by decide +kernel
theorem dX6_draw_5 : decode cX6_draw 5 = .ok (.aload_n 0, 1) := by decide +kernel
theorem dX6_draw_6 : decode cX6_draw 6 = .ok (.getfield 7, 3) := by decide +kernel
theorem dX6_draw_9 : decode cX6_draw 9 = .ok (.iconst 3, 1) := by decide +kernel
theorem dX6_draw_10 : decode cX6_draw 10 = .ok (.iaload, 1) := by decide +kernel
theorem dX6_draw_11 : decode cX6_draw 11 = .ok (.ldc 218, 2) := by decide +kernel
theorem dX6_draw_13 : decode cX6_draw 13 = .ok (.imul, 1) := by decide +kernel
theorem dX6_draw_14 : decode cX6_draw 14 = .ok (.sipush 12345, 3) := by decide +kernel
theorem dX6_draw_17 : decode cX6_draw 17 = .ok (.iadd, 1) := by decide +kernel
theorem dX6_draw_18 : decode cX6_draw 18 = .ok (.iastore, 1) := by decide +kernel
theorem dX6_draw_19 : decode cX6_draw 19 = .ok (.aload_n 0, 1) := by decide +kernel
theorem dX6_draw_20 : decode cX6_draw 20 = .ok (.getfield 7, 3) := by decide +kernel
theorem dX6_draw_23 : decode cX6_draw 23 = .ok (.iconst 3, 1) := by decide +kernel
theorem dX6_draw_24 : decode cX6_draw 24 = .ok (.iaload, 1) := by decide +kernel
theorem dX6_draw_25 : decode cX6_draw 25 = .ok (.bipush 8, 2) := by decide +kernel
theorem dX6_draw_27 : decode cX6_draw 27 = .ok (.iushr, 1) := by decide +kernel
theorem dX6_draw_28 : decode cX6_draw 28 = .ok (.ireturn, 1) := by decide +kernel
theorem dX6_nights_0 : decode cX6_nights 0 = .ok (.iload_n 1, 1) := by decide +kernel
theorem dX6_nights_1 : decode cX6_nights 1 = .ok (.i2l, 1) := by decide +kernel
theorem dX6_nights_2 : decode cX6_nights 2 = .ok (.lconst 1, 1) := by decide +kernel
theorem dX6_nights_3 : decode cX6_nights 3 = .ok (.ldc2_w 193, 3) := by decide +kernel
theorem dX6_nights_6 : decode cX6_nights 6 = .ok (.invokestatic 49, 3) := by decide +kernel
theorem dX6_nights_9 : decode cX6_nights 9 = .ok (.ifCond .ne 10, 3) := by decide +kernel
theorem dX6_nights_12 : decode cX6_nights 12 = .ok (.aload_n 0, 1) := by decide +kernel
theorem dX6_nights_13 : decode cX6_nights 13 = .ok (.ldc 46, 2) := by decide +kernel
theorem dX6_nights_15 : decode cX6_nights 15 = .ok (.invokevirtual 75, 3) := by decide +kernel
theorem dX6_nights_18 : decode cX6_nights 18 = .ok (.ireturn, 1) := by decide +kernel
theorem dX6_nights_19 : decode cX6_nights 19 = .ok (.aload_n 0, 1) := by decide +kernel
theorem dX6_nights_20 : decode cX6_nights 20 = .ok (.getfield 7, 3) := by decide +kernel
theorem dX6_nights_23 : decode cX6_nights 23 = .ok (.iconst 0, 1) := by decide +kernel
theorem dX6_nights_24 : decode cX6_nights 24 = .ok (.iaload, 1) := by decide +kernel
theorem dX6_nights_25 : decode cX6_nights 25 = .ok (.iload_n 1, 1) := by decide +kernel
theorem dX6_nights_26 : decode cX6_nights 26 = .ok (.iadd, 1) := by decide +kernel
theorem dX6_nights_27 : decode cX6_nights 27 = .ok (.ldc 139, 2) := by decide +kernel
theorem dX6_nights_29 : decode cX6_nights 29 = .ok (.if_icmp .le 10, 3) := by decide +kernel
theorem dX6_nights_32 : decode cX6_nights 32 = .ok (.aload_n 0, 1) := by decide +kernel
theorem dX6_nights_33 : decode cX6_nights 33 = .ok (.ldc 140, 2) := by decide +kernel
theorem dX6_nights_35 : decode cX6_nights 35 = .ok (.invokevirtual 75, 3) := by decide +kernel
theorem dX6_nights_38 : decode cX6_nights 38 = .ok (.ireturn, 1) := by decide +kernel
theorem dX6_nights_39 : decode cX6_nights 39 = .ok (.iconst 0, 1) := by decide +kernel
theorem dX6_nights_40 : decode cX6_nights 40 = .ok (.istore_n 2, 1) := by decide +kernel
theorem dX6_nights_41 : decode cX6_nights 41 = .ok (.iload_n 2, 1) := by decide +kernel
theorem dX6_nights_42 : decode cX6_nights 42 = .ok (.iload_n 1, 1) := by decide +kernel
theorem dX6_nights_43 : decode cX6_nights 43 = .ok (.if_icmp .ge 36, 3) := by decide +kernel
theorem dX6_nights_46 : decode cX6_nights 46 = .ok (.aload_n 0, 1) := by decide +kernel
theorem dX6_nights_47 : decode cX6_nights 47 = .ok (.invokevirtual 219, 3) := by decide +kernel
theorem dX6_nights_50 : decode cX6_nights 50 = .ok (.bipush 8, 2) := by decide +kernel
theorem dX6_nights_52 : decode cX6_nights 52 = .ok (.irem, 1) := by decide +kernel
theorem dX6_nights_53 : decode cX6_nights 53 = .ok (.istore_n 3, 1) := by decide +kernel
theorem dX6_nights_54 : decode cX6_nights 54 = .ok (.aload_n 0, 1) := by decide +kernel
theorem dX6_nights_55 : decode cX6_nights 55 = .ok (.getfield 7, 3) := by decide +kernel
theorem dX6_nights_58 : decode cX6_nights 58 = .ok (.iconst 4, 1) := by decide +kernel
theorem dX6_nights_59 : decode cX6_nights 59 = .ok (.iload_n 3, 1) := by decide +kernel
theorem dX6_nights_60 : decode cX6_nights 60 = .ok (.iadd, 1) := by decide +kernel
theorem dX6_nights_61 : decode cX6_nights 61 = .ok (.aload_n 0, 1) := by decide +kernel
theorem dX6_nights_62 : decode cX6_nights 62 = .ok (.invokevirtual 219, 3) := by decide +kernel
theorem dX6_nights_65 : decode cX6_nights 65 = .ok (.bipush 40, 2) := by decide +kernel
theorem dX6_nights_67 : decode cX6_nights 67 = .ok (.irem, 1) := by decide +kernel
theorem dX6_nights_68 : decode cX6_nights 68 = .ok (.iastore, 1) := by decide +kernel
theorem dX6_nights_69 : decode cX6_nights 69 = .ok (.aload_n 0, 1) := by decide +kernel
theorem dX6_nights_70 : decode cX6_nights 70 = .ok (.invokevirtual 134, 3) := by decide +kernel
theorem dX6_nights_73 : decode cX6_nights 73 = .ok (.iinc 2 1, 3) := by decide +kernel
theorem dX6_nights_76 : decode cX6_nights 76 = .ok (.goto (-35), 3) := by decide +kernel
theorem dX6_nights_79 : decode cX6_nights 79 = .ok (.aload_n 0, 1) := by decide +kernel
theorem dX6_nights_80 : decode cX6_nights 80 = .ok (.invokevirtual 144, 3) := by decide +kernel
theorem dX6_nights_83 : decode cX6_nights 83 = .ok (.invokestatic 190, 3) := by decide +kernel
theorem dX6_nights_86 : decode cX6_nights 86 = .ok (.ireturn, 1) := by decide +kernel
theorem dX6_odds_0 : decode cX6_odds 0 = .ok (.iload_n 1, 1) := by decide +kernel
theorem dX6_odds_1 : decode cX6_odds 1 = .ok (.i2l, 1) := by decide +kernel
theorem dX6_odds_2 : decode cX6_odds 2 = .ok (.lconst 0, 1) := by decide +kernel
theorem dX6_odds_3 : decode cX6_odds 3 = .ok (.ldc2_w 193, 3) := by decide +kernel
theorem dX6_odds_6 : decode cX6_odds 6 = .ok (.invokestatic 49, 3) := by decide +kernel
theorem dX6_odds_9 : decode cX6_odds 9 = .ok (.ifCond .eq 13, 3) := by decide +kernel
theorem dX6_odds_12 : decode cX6_odds 12 = .ok (.iload_n 2, 1) := by decide +kernel
theorem dX6_odds_13 : decode cX6_odds 13 = .ok (.i2l, 1) := by decide +kernel
theorem dX6_odds_14 : decode cX6_odds 14 = .ok (.lconst 0, 1) := by decide +kernel
theorem dX6_odds_15 : decode cX6_odds 15 = .ok (.lconst 1, 1) := by decide +kernel
theorem dX6_odds_16 : decode cX6_odds 16 = .ok (.invokestatic 49, 3) := by decide +kernel
theorem dX6_odds_19 : decode cX6_odds 19 = .ok (.ifCond .ne 11, 3) := by decide +kernel
theorem dX6_odds_22 : decode cX6_odds 22 = .ok (.aload_n 0, 1) := by decide +kernel
theorem dX6_odds_23 : decode cX6_odds 23 = .ok (.ldc 46, 2) := by decide +kernel
theorem dX6_odds_25 : decode cX6_odds 25 = .ok (.invokevirtual 75, 3) := by decide +kernel
theorem dX6_odds_28 : decode cX6_odds 28 = .ok (.i2l, 1) := by decide +kernel
theorem dX6_odds_29 : decode cX6_odds 29 = .ok (.lreturn, 1) := by decide +kernel
theorem dX6_odds_30 : decode cX6_odds 30 = .ok (.iconst 0, 1) := by decide +kernel
theorem dX6_odds_31 : decode cX6_odds 31 = .ok (.istore_n 3, 1) := by decide +kernel
theorem dX6_odds_32 : decode cX6_odds 32 = .ok (.iconst 0, 1) := by decide +kernel
theorem dX6_odds_33 : decode cX6_odds 33 = .ok (.istore 4, 2) := by decide +kernel
theorem dX6_odds_35 : decode cX6_odds 35 = .ok (.iload 4, 2) := by decide +kernel
theorem dX6_odds_37 : decode cX6_odds 37 = .ok (.bipush 8, 2) := by decide +kernel
theorem dX6_odds_39 : decode cX6_odds 39 = .ok (.if_icmp .ge 29, 3) := by decide +kernel
theorem dX6_odds_42 : decode cX6_odds 42 = .ok (.iload_n 3, 1) := by decide +kernel
theorem dX6_odds_43 : decode cX6_odds 43 = .ok (.aload_n 0, 1) := by decide +kernel
theorem dX6_odds_44 : decode cX6_odds 44 = .ok (.getfield 7, 3) := by decide +kernel
theorem dX6_odds_47 : decode cX6_odds 47 = .ok (.iconst 4, 1) := by decide +kernel
theorem dX6_odds_48 : decode cX6_odds 48 = .ok (.iload 4, 2) := by decide +kernel
theorem dX6_odds_50 : decode cX6_odds 50 = .ok (.iadd, 1) := by decide +kernel
theorem dX6_odds_51 : decode cX6_odds 51 = .ok (.iaload, 1) := by decide +kernel
theorem dX6_odds_52 : decode cX6_odds 52 = .ok (.ifCond .le 7, 3) := by decide +kernel
theorem dX6_odds_55 : decode cX6_odds 55 = .ok (.iconst 1, 1) := by decide +kernel
theorem dX6_odds_56 : decode cX6_odds 56 = .ok (.goto 4, 3) := by decide +kernel
theorem dX6_odds_59 : decode cX6_odds 59 = .ok (.iconst 0, 1) := by decide +kernel
theorem dX6_odds_60 : decode cX6_odds 60 = .ok (.iadd, 1) := by decide +kernel
theorem dX6_odds_61 : decode cX6_odds 61 = .ok (.istore_n 3, 1) := by decide +kernel
theorem dX6_odds_62 : decode cX6_odds 62 = .ok (.iinc 4 1, 3) := by decide +kernel
theorem dX6_odds_65 : decode cX6_odds 65 = .ok (.goto (-30), 3) := by decide +kernel
theorem dX6_odds_68 : decode cX6_odds 68 = .ok (.bipush 8, 2) := by decide +kernel
theorem dX6_odds_70 : decode cX6_odds 70 = .ok (.istore 4, 2) := by decide +kernel
theorem dX6_odds_72 : decode cX6_odds 72 = .ok (.iload_n 3, 1) := by decide +kernel
theorem dX6_odds_73 : decode cX6_odds 73 = .ok (.iload 4, 2) := by decide +kernel
theorem dX6_odds_75 : decode cX6_odds 75 = .ok (.irem, 1) := by decide +kernel
theorem dX6_odds_76 : decode cX6_odds 76 = .ok (.ifCond .ne 11, 3) := by decide +kernel
theorem dX6_odds_79 : decode cX6_odds 79 = .ok (.bipush 8, 2) := by decide +kernel
theorem dX6_odds_81 : decode cX6_odds 81 = .ok (.iload 4, 2) := by decide +kernel
theorem dX6_odds_83 : decode cX6_odds 83 = .ok (.irem, 1) := by decide +kernel
theorem dX6_odds_84 : decode cX6_odds 84 = .ok (.ifCond .eq 9, 3) := by decide +kernel
theorem dX6_odds_87 : decode cX6_odds 87 = .ok (.iinc 4 (-1), 3) := by decide +kernel
theorem dX6_odds_90 : decode cX6_odds 90 = .ok (.goto (-18), 3) := by decide +kernel
theorem dX6_odds_93 : decode cX6_odds 93 = .ok (.lconst 1, 1) := by decide +kernel
theorem dX6_odds_94 : decode cX6_odds 94 = .ok (.lstore 5, 2) := by decide +kernel
theorem dX6_odds_96 : decode cX6_odds 96 = .ok (.iconst 0, 1) := by decide +kernel
theorem dX6_odds_97 : decode cX6_odds 97 = .ok (.istore 7, 2) := by decide +kernel
theorem dX6_odds_99 : decode cX6_odds 99 = .ok (.iload 7, 2) := by decide +kernel
theorem dX6_odds_101 : decode cX6_odds 101 = .ok (.iload_n 1, 1) := by decide +kernel
theorem dX6_odds_102 : decode cX6_odds 102 = .ok (.if_icmp .ge 32, 3) := by decide +kernel
theorem dX6_odds_105 : decode cX6_odds 105 = .ok (.lload 5, 2) := by decide +kernel
theorem dX6_odds_107 : decode cX6_odds 107 = .ok (.iload_n 2, 1) := by decide +kernel
theorem dX6_odds_108 : decode cX6_odds 108 = .ok (.ifCond .ne 11, 3) := by decide +kernel
theorem dX6_odds_111 : decode cX6_odds 111 = .ok (.iload_n 3, 1) := by decide +kernel
theorem dX6_odds_112 : decode cX6_odds 112 = .ok (.iload 4, 2) := by decide +kernel
theorem dX6_odds_114 : decode cX6_odds 114 = .ok (.idiv, 1) := by decide +kernel
theorem dX6_odds_115 : decode cX6_odds 115 = .ok (.i2l, 1) := by decide +kernel
theorem dX6_odds_116 : decode cX6_odds 116 = .ok (.goto 9, 3) := by decide +kernel
theorem dX6_odds_119 : decode cX6_odds 119 = .ok (.bipush 8, 2) := by decide +kernel
theorem dX6_odds_121 : decode cX6_odds 121 = .ok (.iload 4, 2) := by decide +kernel
theorem dX6_odds_123 : decode cX6_odds 123 = .ok (.idiv, 1) := by decide +kernel
theorem dX6_odds_124 : decode cX6_odds 124 = .ok (.i2l, 1) := by decide +kernel
theorem dX6_odds_125 : decode cX6_odds 125 = .ok (.lmul, 1) := by decide +kernel
theorem dX6_odds_126 : decode cX6_odds 126 = .ok (.lstore 5, 2) := by decide +kernel
theorem dX6_odds_128 : decode cX6_odds 128 = .ok (.iinc 7 1, 3) := by decide +kernel
theorem dX6_odds_131 : decode cX6_odds 131 = .ok (.goto (-32), 3) := by decide +kernel
theorem dX6_odds_134 : decode cX6_odds 134 = .ok (.lload 5, 2) := by decide +kernel
theorem dX6_odds_136 : decode cX6_odds 136 = .ok (.lreturn, 1) := by decide +kernel
theorem dX6_seed_0 : decode cX6_seed 0 = .ok (.aload_n 0, 1) := by decide +kernel
theorem dX6_seed_1 : decode cX6_seed 1 = .ok (.iconst 3, 1) := by decide +kernel
theorem dX6_seed_2 : decode cX6_seed 2 = .ok (.iload_n 1, 1) := by decide +kernel
theorem dX6_seed_3 : decode cX6_seed 3 = .ok (.invokevirtual 72, 3) := by decide +kernel
theorem dX6_seed_6 : decode cX6_seed 6 = .ok (.ireturn, 1) := by decide +kernel
theorem dX6_feed_0 : decode cX6_feed 0 = .ok (.iload_n 2, 1) := by decide +kernel
theorem dX6_feed_1 : decode cX6_feed 1 = .ok (.i2l, 1) := by decide +kernel
theorem dX6_feed_2 : decode cX6_feed 2 = .ok (.lconst 1, 1) := by decide +kernel
theorem dX6_feed_3 : decode cX6_feed 3 = .ok (.ldc2_w 112, 3) := by decide +kernel
theorem dX6_feed_6 : decode cX6_feed 6 = .ok (.invokestatic 49, 3) := by decide +kernel
theorem dX6_feed_9 : decode cX6_feed 9 = .ok (.ifCond .ne 10, 3) := by decide +kernel
theorem dX6_feed_12 : decode cX6_feed 12 = .ok (.aload_n 0, 1) := by decide +kernel
theorem dX6_feed_13 : decode cX6_feed 13 = .ok (.ldc 46, 2) := by decide +kernel
theorem dX6_feed_15 : decode cX6_feed 15 = .ok (.invokevirtual 75, 3) := by decide +kernel
theorem dX6_feed_18 : decode cX6_feed 18 = .ok (.ireturn, 1) := by decide +kernel
theorem dX6_feed_19 : decode cX6_feed 19 = .ok (.aload_n 0, 1) := by decide +kernel
theorem dX6_feed_20 : decode cX6_feed 20 = .ok (.getfield 222, 3) := by decide +kernel
theorem dX6_feed_23 : decode cX6_feed 23 = .ok (.iload_n 2, 1) := by decide +kernel
theorem dX6_feed_24 : decode cX6_feed 24 = .ok (.iadd, 1) := by decide +kernel
theorem dX6_feed_25 : decode cX6_feed 25 = .ok (.bipush 120, 2) := by decide +kernel
theorem dX6_feed_27 : decode cX6_feed 27 = .ok (.if_icmp .le 10, 3) := by decide +kernel
theorem dX6_feed_30 : decode cX6_feed 30 = .ok (.aload_n 0, 1) := by decide +kernel
theorem dX6_feed_31 : decode cX6_feed 31 = .ok (.ldc 96, 2) := by decide +kernel
theorem dX6_feed_33 : decode cX6_feed 33 = .ok (.invokevirtual 75, 3) := by decide +kernel
theorem dX6_feed_36 : decode cX6_feed 36 = .ok (.ireturn, 1) := by decide +kernel
theorem dX6_feed_37 : decode cX6_feed 37 = .ok (.iload_n 2, 1) := by decide +kernel
theorem dX6_feed_38 : decode cX6_feed 38 = .ok (.iconst 1, 1) := by decide +kernel
theorem dX6_feed_39 : decode cX6_feed 39 = .ok (.isub, 1) := by decide +kernel
theorem dX6_feed_40 : decode cX6_feed 40 = .ok (.istore_n 3, 1) := by decide +kernel
theorem dX6_feed_41 : decode cX6_feed 41 = .ok (.iload_n 3, 1) := by decide +kernel
theorem dX6_feed_42 : decode cX6_feed 42 = .ok (.ifCond .lt 38, 3) := by decide +kernel
theorem dX6_feed_45 : decode cX6_feed 45 = .ok (.aload_n 0, 1) := by decide +kernel
theorem dX6_feed_46 : decode cX6_feed 46 = .ok (.getfield 31, 3) := by decide +kernel
theorem dX6_feed_49 : decode cX6_feed 49 = .ok (.aload_n 0, 1) := by decide +kernel
theorem dX6_feed_50 : decode cX6_feed 50 = .ok (.getfield 222, 3) := by decide +kernel
theorem dX6_feed_53 : decode cX6_feed 53 = .ok (.iload_n 1, 1) := by decide +kernel
theorem dX6_feed_54 : decode cX6_feed 54 = .ok (.bipush 8, 2) := by decide +kernel
theorem dX6_feed_56 : decode cX6_feed 56 = .ok (.iload_n 3, 1) := by decide +kernel
theorem dX6_feed_57 : decode cX6_feed 57 = .ok (.imul, 1) := by decide +kernel
theorem dX6_feed_58 : decode cX6_feed 58 = .ok (.ishr, 1) := by decide +kernel
theorem dX6_feed_59 : decode cX6_feed 59 = .ok (.sipush 255, 3) := by decide +kernel
theorem dX6_feed_62 : decode cX6_feed 62 = .ok (.iand, 1) := by decide +kernel
theorem dX6_feed_63 : decode cX6_feed 63 = .ok (.iastore, 1) := by decide +kernel
theorem dX6_feed_64 : decode cX6_feed 64 = .ok (.aload_n 0, 1) := by decide +kernel
theorem dX6_feed_65 : decode cX6_feed 65 = .ok (.dup, 1) := by decide +kernel
theorem dX6_feed_66 : decode cX6_feed 66 = .ok (.getfield 222, 3) := by decide +kernel
theorem dX6_feed_69 : decode cX6_feed 69 = .ok (.iconst 1, 1) := by decide +kernel
theorem dX6_feed_70 : decode cX6_feed 70 = .ok (.iadd, 1) := by decide +kernel
theorem dX6_feed_71 : decode cX6_feed 71 = .ok (.putfield 222, 3) := by decide +kernel
theorem dX6_feed_74 : decode cX6_feed 74 = .ok (.iinc 3 (-1), 3) := by decide +kernel
theorem dX6_feed_77 : decode cX6_feed 77 = .ok (.goto (-36), 3) := by decide +kernel
theorem dX6_feed_80 : decode cX6_feed 80 = .ok (.aload_n 0, 1) := by decide +kernel
theorem dX6_feed_81 : decode cX6_feed 81 = .ok (.getfield 222, 3) := by decide +kernel
theorem dX6_feed_84 : decode cX6_feed 84 = .ok (.ireturn, 1) := by decide +kernel
theorem dX6_wipe_0 : decode cX6_wipe 0 = .ok (.aload_n 0, 1) := by decide +kernel
theorem dX6_wipe_1 : decode cX6_wipe 1 = .ok (.getfield 222, 3) := by decide +kernel
theorem dX6_wipe_4 : decode cX6_wipe 4 = .ok (.istore_n 1, 1) := by decide +kernel
theorem dX6_wipe_5 : decode cX6_wipe 5 = .ok (.aload_n 0, 1) := by decide +kernel
theorem dX6_wipe_6 : decode cX6_wipe 6 = .ok (.iconst 0, 1) := by decide +kernel
theorem dX6_wipe_7 : decode cX6_wipe 7 = .ok (.putfield 222, 3) := by decide +kernel
theorem dX6_wipe_10 : decode cX6_wipe 10 = .ok (.iload_n 1, 1) := by decide +kernel
theorem dX6_wipe_11 : decode cX6_wipe 11 = .ok (.ireturn, 1) := by decide +kernel
theorem dX6_byteAt_0 : decode cX6_byteAt 0 = .ok (.iload_n 1, 1) := by decide +kernel
theorem dX6_byteAt_1 : decode cX6_byteAt 1 = .ok (.aload_n 0, 1) := by decide +kernel
theorem dX6_byteAt_2 : decode cX6_byteAt 2 = .ok (.getfield 222, 3) := by decide +kernel
theorem dX6_byteAt_5 : decode cX6_byteAt 5 = .ok (.if_icmp .ge 12, 3) := by decide +kernel
theorem dX6_byteAt_8 : decode cX6_byteAt 8 = .ok (.aload_n 0, 1) := by decide +kernel
theorem dX6_byteAt_9 : decode cX6_byteAt 9 = .ok (.getfield 31, 3) := by decide +kernel
theorem dX6_byteAt_12 : decode cX6_byteAt 12 = .ok (.iload_n 1, 1) := by decide +kernel
theorem dX6_byteAt_13 : decode cX6_byteAt 13 = .ok (.iaload, 1) := by decide +kernel
theorem dX6_byteAt_14 : decode cX6_byteAt 14 = .ok (.goto 4, 3) := by decide +kernel
theorem dX6_byteAt_17 : decode cX6_byteAt 17 = .ok (.iconst (-1), 1) := by decide +kernel
theorem dX6_byteAt_18 : decode cX6_byteAt 18 = .ok (.ireturn, 1) := by decide +kernel
theorem dX6_isLetter_0 : decode cX6_isLetter 0 = .ok (.iload_n 0, 1) := by decide +kernel
theorem dX6_isLetter_1 : decode cX6_isLetter 1 = .ok (.i2l, 1) := by decide +kernel
theorem dX6_isLetter_2 : decode cX6_isLetter 2 = .ok (.ldc2_w 225, 3) := by decide +kernel
theorem dX6_isLetter_5 : decode cX6_isLetter 5 = .ok (.ldc2_w 227, 3) := by decide +kernel
theorem dX6_isLetter_8 : decode cX6_isLetter 8 = .ok (.invokestatic 49, 3) := by decide +kernel
theorem dX6_isLetter_11 : decode cX6_isLetter 11 = .ok (.ireturn, 1) := by decide +kernel
theorem dX6_isDigit_0 : decode cX6_isDigit 0 = .ok (.iload_n 0, 1) := by decide +kernel
theorem dX6_isDigit_1 : decode cX6_isDigit 1 = .ok (.i2l, 1) := by decide +kernel
theorem dX6_isDigit_2 : decode cX6_isDigit 2 = .ok (.ldc2_w 229, 3) := by decide +kernel
theorem dX6_isDigit_5 : decode cX6_isDigit 5 = .ok (.ldc2_w 231, 3) := by decide +kernel
theorem dX6_isDigit_8 : decode cX6_isDigit 8 = .ok (.invokestatic 49, 3) := by decide +kernel
theorem dX6_isDigit_11 : decode cX6_isDigit 11 = .ok (.ireturn, 1) := by decide +kernel
theorem dX6_token_0 : decode cX6_token 0 = .ok (.aload_n 0, 1) := by decide +kernel
theorem dX6_token_1 : decode cX6_token 1 = .ok (.aload_n 0, 1) := by decide +kernel
theorem dX6_token_2 : decode cX6_token 2 = .ok (.getfield 233, 3) := by decide +kernel
theorem dX6_token_5 : decode cX6_token 5 = .ok (.putfield 236, 3) := by decide +kernel
theorem dX6_token_8 : decode cX6_token 8 = .ok (.aload_n 0, 1) := by decide +kernel
theorem dX6_token_9 : decode cX6_token 9 = .ok (.aload_n 0, 1) := by decide +kernel
theorem dX6_token_10 : decode cX6_token 10 = .ok (.getfield 236, 3) := by decide +kernel
theorem dX6_token_13 : decode cX6_token 13 = .ok (.invokevirtual 239, 3) := by decide +kernel
theorem dX6_token_16 : decode cX6_token 16 = .ok (.bipush 32, 2) := by decide +kernel
theorem dX6_token_18 : decode cX6_token 18 = .ok (.if_icmp .ne 16, 3) := by decide +kernel
theorem dX6_token_21 : decode cX6_token 21 = .ok (.aload_n 0, 1) := by decide +kernel
theorem dX6_token_22 : decode cX6_token 22 = .ok (.dup, 1) := by decide +kernel
theorem dX6_token_23 : decode cX6_token 23 = .ok (.getfield 236, 3) := by decide +kernel
theorem dX6_token_26 : decode cX6_token 26 = .ok (.iconst 1, 1) := by decide +kernel
theorem dX6_token_27 : decode cX6_token 27 = .ok (.iadd, 1) := by decide +kernel
theorem dX6_token_28 : decode cX6_token 28 = .ok (.putfield 236, 3) := by decide +kernel
theorem dX6_token_31 : decode cX6_token 31 = .ok (.goto (-23), 3) := by decide +kernel
theorem dX6_token_34 : decode cX6_token 34 = .ok (.aload_n 0, 1) := by decide +kernel
theorem dX6_token_35 : decode cX6_token 35 = .ok (.aload_n 0, 1) := by decide +kernel
theorem dX6_token_36 : decode cX6_token 36 = .ok (.getfield 236, 3) := by decide +kernel
theorem dX6_token_39 : decode cX6_token 39 = .ok (.invokevirtual 239, 3) := by decide +kernel
theorem dX6_token_42 : decode cX6_token 42 = .ok (.invokestatic 242, 3) := by decide +kernel
theorem dX6_token_45 : decode cX6_token 45 = .ok (.istore_n 1, 1) := by decide +kernel
theorem dX6_token_46 : decode cX6_token 46 = .ok (.aload_n 0, 1) := by decide +kernel
theorem dX6_token_47 : decode cX6_token 47 = .ok (.aload_n 0, 1) := by decide +kernel
theorem dX6_token_48 : decode cX6_token 48 = .ok (.getfield 236, 3) := by decide +kernel
theorem dX6_token_51 : decode cX6_token 51 = .ok (.invokevirtual 239, 3) := by decide +kernel
theorem dX6_token_54 : decode cX6_token 54 = .ok (.invokestatic 245, 3) := by decide +kernel
theorem dX6_token_57 : decode cX6_token 57 = .ok (.istore_n 2, 1) := by decide +kernel
theorem dX6_token_58 : decode cX6_token 58 = .ok (.aload_n 0, 1) := by decide +kernel
theorem dX6_token_59 : decode cX6_token 59 = .ok (.aload_n 0, 1) := by decide +kernel
theorem dX6_token_60 : decode cX6_token 60 = .ok (.getfield 236, 3) := by decide +kernel
theorem dX6_token_63 : decode cX6_token 63 = .ok (.aload_n 0, 1) := by decide +kernel
theorem dX6_token_64 : decode cX6_token 64 = .ok (.getfield 222, 3) := by decide +kernel
theorem dX6_token_67 : decode cX6_token 67 = .ok (.if_icmp .ge 12, 3) := by decide +kernel
theorem dX6_token_70 : decode cX6_token 70 = .ok (.aload_n 0, 1) := by decide +kernel
theorem dX6_token_71 : decode cX6_token 71 = .ok (.getfield 236, 3) := by decide +kernel
theorem dX6_token_74 : decode cX6_token 74 = .ok (.iconst 1, 1) := by decide +kernel
theorem dX6_token_75 : decode cX6_token 75 = .ok (.iadd, 1) := by decide +kernel
theorem dX6_token_76 : decode cX6_token 76 = .ok (.goto 7, 3) := by decide +kernel
theorem dX6_token_79 : decode cX6_token 79 = .ok (.aload_n 0, 1) := by decide +kernel
theorem dX6_token_80 : decode cX6_token 80 = .ok (.getfield 236, 3) := by decide +kernel
theorem dX6_token_83 : decode cX6_token 83 = .ok (.putfield 233, 3) := by decide +kernel
theorem dX6_token_86 : decode cX6_token 86 = .ok (.iload_n 1, 1) := by decide +kernel
theorem dX6_token_87 : decode cX6_token 87 = .ok (.ifCond .eq 17, 3) := by decide +kernel
theorem dX6_token_90 : decode cX6_token 90 = .ok (.aload_n 0, 1) := by decide +kernel
theorem dX6_token_91 : decode cX6_token 91 = .ok (.aload_n 0, 1) := by decide +kernel
theorem dX6_token_92 : decode cX6_token 92 = .ok (.getfield 233, 3) := by decide +kernel
theorem dX6_token_95 : decode cX6_token 95 = .ok (.invokevirtual 239, 3) := by decide +kernel
theorem dX6_token_98 : decode cX6_token 98 = .ok (.invokestatic 242, 3) := by decide +kernel
theorem dX6_token_101 : decode cX6_token 101 = .ok (.ifCond .ne 21, 3) := by decide +kernel
theorem dX6_token_104 : decode cX6_token 104 = .ok (.iload_n 2, 1) := by decide +kernel
theorem dX6_token_105 : decode cX6_token 105 = .ok (.ifCond .eq 30, 3) := by decide +kernel
theorem dX6_token_108 : decode cX6_token 108 = .ok (.aload_n 0, 1) := by decide +kernel
theorem dX6_token_109 : decode cX6_token 109 = .ok (.aload_n 0, 1) := by decide +kernel
theorem dX6_token_110 : decode cX6_token 110 = .ok (.getfield 233, 3) := by decide +kernel
theorem dX6_token_113 : decode cX6_token 113 = .ok (.invokevirtual 239, 3) := by decide +kernel
theorem dX6_token_116 : decode cX6_token 116 = .ok (.invokestatic 245, 3) := by decide +kernel
theorem dX6_token_119 : decode cX6_token 119 = .ok (.ifCond .eq 16, 3) := by decide +kernel
theorem dX6_token_122 : decode cX6_token 122 = .ok (.aload_n 0, 1) := by decide +kernel
theorem dX6_token_123 : decode cX6_token 123 = .ok (.dup, 1) := by decide +kernel
theorem dX6_token_124 : decode cX6_token 124 = .ok (.getfield 233, 3) := by decide +kernel
theorem dX6_token_127 : decode cX6_token 127 = .ok (.iconst 1, 1) := by decide +kernel
theorem dX6_token_128 : decode cX6_token 128 = .ok (.iadd, 1) := by decide +kernel
theorem dX6_token_129 : decode cX6_token 129 = .ok (.putfield 233, 3) := by decide +kernel
theorem dX6_token_132 : decode cX6_token 132 = .ok (.goto (-46), 3) := by decide +kernel
theorem dX6_token_135 : decode cX6_token 135 = .ok (.return_, 1) := by decide +kernel
theorem dX6_must_0 : decode cX6_must 0 = .ok (.aload_n 0, 1) := by decide +kernel
theorem dX6_must_1 : decode cX6_must 1 = .ok (.aload_n 0, 1) := by decide +kernel
theorem dX6_must_2 : decode cX6_must 2 = .ok (.getfield 248, 3) := by decide +kernel
theorem dX6_must_5 : decode cX6_must 5 = .ok (.ifCond .ne 7, 3) := by decide +kernel
theorem dX6_must_8 : decode cX6_must 8 = .ok (.iload_n 1, 1) := by decide +kernel
theorem dX6_must_9 : decode cX6_must 9 = .ok (.ifCond .ne 7, 3) := by decide +kernel
theorem dX6_must_12 : decode cX6_must 12 = .ok (.iconst 1, 1) := by decide +kernel
theorem dX6_must_13 : decode cX6_must 13 = .ok (.goto 4, 3) := by decide +kernel
theorem dX6_must_16 : decode cX6_must 16 = .ok (.iconst 0, 1) := by decide +kernel
theorem dX6_must_17 : decode cX6_must 17 = .ok (.putfield 248, 3) := by decide +kernel
theorem dX6_must_20 : decode cX6_must 20 = .ok (.aload_n 0, 1) := by decide +kernel
theorem dX6_must_21 : decode cX6_must 21 = .ok (.getfield 248, 3) := by decide +kernel
theorem dX6_must_24 : decode cX6_must 24 = .ok (.ifCond .ne 7, 3) := by decide +kernel
theorem dX6_must_27 : decode cX6_must 27 = .ok (.aload_n 0, 1) := by decide +kernel
theorem dX6_must_28 : decode cX6_must 28 = .ok (.invokevirtual 251, 3) := by decide +kernel
theorem dX6_must_31 : decode cX6_must 31 = .ok (.return_, 1) := by decide +kernel
theorem dX6_word_0 : decode cX6_word 0 = .ok (.lconst 0, 1) := by decide +kernel
theorem dX6_word_1 : decode cX6_word 1 = .ok (.lstore_n 1, 1) := by decide +kernel
theorem dX6_word_2 : decode cX6_word 2 = .ok (.aload_n 0, 1) := by decide +kernel
theorem dX6_word_3 : decode cX6_word 3 = .ok (.getfield 236, 3) := by decide +kernel
theorem dX6_word_6 : decode cX6_word 6 = .ok (.istore_n 3, 1) := by decide +kernel
theorem dX6_word_7 : decode cX6_word 7 = .ok (.iload_n 3, 1) := by decide +kernel
theorem dX6_word_8 : decode cX6_word 8 = .ok (.aload_n 0, 1) := by decide +kernel
theorem dX6_word_9 : decode cX6_word 9 = .ok (.getfield 233, 3) := by decide +kernel
theorem dX6_word_12 : decode cX6_word 12 = .ok (.if_icmp .ge 38, 3) := by decide +kernel
theorem dX6_word_15 : decode cX6_word 15 = .ok (.lload_n 1, 1) := by decide +kernel
theorem dX6_word_16 : decode cX6_word 16 = .ok (.ldc2_w 254, 3) := by decide +kernel
theorem dX6_word_19 : decode cX6_word 19 = .ok (.lcmp, 1) := by decide +kernel
theorem dX6_word_20 : decode cX6_word 20 = .ok (.ifCond .le 7, 3) := by decide +kernel
theorem dX6_word_23 : decode cX6_word 23 = .ok (.lload_n 1, 1) := by decide +kernel
theorem dX6_word_24 : decode cX6_word 24 = .ok (.goto 19, 3) := by decide +kernel
theorem dX6_word_27 : decode cX6_word 27 = .ok (.ldc2_w 256, 3) := by decide +kernel
theorem dX6_word_30 : decode cX6_word 30 = .ok (.lload_n 1, 1) := by decide +kernel
theorem dX6_word_31 : decode cX6_word 31 = .ok (.lmul, 1) := by decide +kernel
theorem dX6_word_32 : decode cX6_word 32 = .ok (.aload_n 0, 1) := by decide +kernel
theorem dX6_word_33 : decode cX6_word 33 = .ok (.getfield 31, 3) := by decide +kernel
theorem dX6_word_36 : decode cX6_word 36 = .ok (.iload_n 3, 1) := by decide +kernel
theorem dX6_word_37 : decode cX6_word 37 = .ok (.iaload, 1) := by decide +kernel
theorem dX6_word_38 : decode cX6_word 38 = .ok (.bipush 96, 2) := by decide +kernel
theorem dX6_word_40 : decode cX6_word 40 = .ok (.isub, 1) := by decide +kernel
theorem dX6_word_41 : decode cX6_word 41 = .ok (.i2l, 1) := by decide +kernel
theorem dX6_word_42 : decode cX6_word 42 = .ok (.ladd, 1) := by decide +kernel
theorem dX6_word_43 : decode cX6_word 43 = .ok (.lstore_n 1, 1) := by decide +kernel
theorem dX6_word_44 : decode cX6_word 44 = .ok (.iinc 3 1, 3) := by decide +kernel
theorem dX6_word_47 : decode cX6_word 47 = .ok (.goto (-40), 3) := by decide +kernel
theorem dX6_word_50 : decode cX6_word 50 = .ok (.aload_n 0, 1) := by decide +kernel
theorem dX6_word_51 : decode cX6_word 51 = .ok (.getfield 248, 3) := by decide +kernel
theorem dX6_word_54 : decode cX6_word 54 = .ok (.ifCond .ne 17, 3) := by decide +kernel
theorem dX6_word_57 : decode cX6_word 57 = .ok (.aload_n 0, 1) := by decide +kernel
theorem dX6_word_58 : decode cX6_word 58 = .ok (.aload_n 0, 1) := by decide +kernel
theorem dX6_word_59 : decode cX6_word 59 = .ok (.getfield 236, 3) := by decide +kernel
theorem dX6_word_62 : decode cX6_word 62 = .ok (.invokevirtual 239, 3) := by decide +kernel
theorem dX6_word_65 : decode cX6_word 65 = .ok (.invokestatic 242, 3) := by decide +kernel
theorem dX6_word_68 : decode cX6_word 68 = .ok (.ifCond .ne 7, 3) := by decide +kernel
theorem dX6_word_71 : decode cX6_word 71 = .ok (.lconst 0, 1) := by decide +kernel
theorem dX6_word_72 : decode cX6_word 72 = .ok (.goto 4, 3) := by decide +kernel
theorem dX6_word_75 : decode cX6_word 75 = .ok (.lload_n 1, 1) := by decide +kernel
theorem dX6_word_76 : decode cX6_word 76 = .ok (.lreturn, 1) := by decide +kernel
theorem dX6_number_0 : decode cX6_number 0 = .ok (.aload_n 0, 1) := by decide +kernel
theorem dX6_number_1 : decode cX6_number 1 = .ok (.getfield 248, 3) := by decide +kernel
theorem dX6_number_4 : decode cX6_number 4 = .ok (.ifCond .eq 4, 3) := by decide +kernel
theorem dX6_number_7 : decode cX6_number 7 = .ok (.return_, 1) := by decide +kernel
theorem dX6_number_8 : decode cX6_number 8 = .ok (.aload_n 0, 1) := by decide +kernel
theorem dX6_number_9 : decode cX6_number 9 = .ok (.aload_n 0, 1) := by decide +kernel
theorem dX6_number_10 : decode cX6_number 10 = .ok (.getfield 236, 3) := by decide +kernel
theorem dX6_number_13 : decode cX6_number 13 = .ok (.invokevirtual 239, 3) := by decide +kernel
theorem dX6_number_16 : decode cX6_number 16 = .ok (.invokestatic 245, 3) := by decide +kernel
theorem dX6_number_19 : decode cX6_number 19 = .ok (.istore_n 3, 1) := by decide +kernel
theorem dX6_number_20 : decode cX6_number 20 = .ok (.iconst 0, 1) := by decide +kernel
theorem dX6_number_21 : decode cX6_number 21 = .ok (.istore 4, 2) := by decide +kernel
theorem dX6_number_23 : decode cX6_number 23 = .ok (.aload_n 0, 1) := by decide +kernel
theorem dX6_number_24 : decode cX6_number 24 = .ok (.getfield 236, 3) := by decide +kernel
theorem dX6_number_27 : decode cX6_number 27 = .ok (.istore 5, 2) := by decide +kernel
theorem dX6_number_29 : decode cX6_number 29 = .ok (.iload 5, 2) := by decide +kernel
theorem dX6_number_31 : decode cX6_number 31 = .ok (.aload_n 0, 1) := by decide +kernel
theorem dX6_number_32 : decode cX6_number 32 = .ok (.getfield 233, 3) := by decide +kernel
theorem dX6_number_35 : decode cX6_number 35 = .ok (.if_icmp .ge 44, 3) := by decide +kernel
theorem dX6_number_38 : decode cX6_number 38 = .ok (.iload_n 3, 1) := by decide +kernel
theorem dX6_number_39 : decode cX6_number 39 = .ok (.ifCond .eq 40, 3) := by decide +kernel
theorem dX6_number_42 : decode cX6_number 42 = .ok (.iload 4, 2) := by decide +kernel
theorem dX6_number_44 : decode cX6_number 44 = .ok (.sipush 9999, 3) := by decide +kernel
theorem dX6_number_47 : decode cX6_number 47 = .ok (.if_icmp .le 8, 3) := by decide +kernel
theorem dX6_number_50 : decode cX6_number 50 = .ok (.iload 4, 2) := by decide +kernel
theorem dX6_number_52 : decode cX6_number 52 = .ok (.goto 19, 3) := by decide +kernel
theorem dX6_number_55 : decode cX6_number 55 = .ok (.bipush 10, 2) := by decide +kernel
theorem dX6_number_57 : decode cX6_number 57 = .ok (.iload 4, 2) := by decide +kernel
theorem dX6_number_59 : decode cX6_number 59 = .ok (.imul, 1) := by decide +kernel
theorem dX6_number_60 : decode cX6_number 60 = .ok (.aload_n 0, 1) := by decide +kernel
theorem dX6_number_61 : decode cX6_number 61 = .ok (.getfield 31, 3) := by decide +kernel
theorem dX6_number_64 : decode cX6_number 64 = .ok (.iload 5, 2) := by decide +kernel
theorem dX6_number_66 : decode cX6_number 66 = .ok (.iaload, 1) := by decide +kernel
theorem dX6_number_67 : decode cX6_number 67 = .ok (.iadd, 1) := by decide +kernel
theorem dX6_number_68 : decode cX6_number 68 = .ok (.bipush 48, 2) := by decide +kernel
theorem dX6_number_70 : decode cX6_number 70 = .ok (.isub, 1) := by decide +kernel
theorem dX6_number_71 : decode cX6_number 71 = .ok (.istore 4, 2) := by decide +kernel
theorem dX6_number_73 : decode cX6_number 73 = .ok (.iinc 5 1, 3) := by decide +kernel
theorem dX6_number_76 : decode cX6_number 76 = .ok (.goto (-47), 3) := by decide +kernel
theorem dX6_number_79 : decode cX6_number 79 = .ok (.aload_n 0, 1) := by decide +kernel
theorem dX6_number_80 : decode cX6_number 80 = .ok (.iload 4, 2) := by decide +kernel
theorem dX6_number_82 : decode cX6_number 82 = .ok (.putfield 258, 3) := by decide +kernel
theorem dX6_number_85 : decode cX6_number 85 = .ok (.aload_n 0, 1) := by decide +kernel
theorem dX6_number_86 : decode cX6_number 86 = .ok (.iload_n 3, 1) := by decide +kernel
theorem dX6_number_87 : decode cX6_number 87 = .ok (.ifCond .eq 20, 3) := by decide +kernel
theorem dX6_number_90 : decode cX6_number 90 = .ok (.iload 4, 2) := by decide +kernel
theorem dX6_number_92 : decode cX6_number 92 = .ok (.i2l, 1) := by decide +kernel
theorem dX6_number_93 : decode cX6_number 93 = .ok (.iload_n 1, 1) := by decide +kernel
theorem dX6_number_94 : decode cX6_number 94 = .ok (.i2l, 1) := by decide +kernel
theorem dX6_number_95 : decode cX6_number 95 = .ok (.iload_n 2, 1) := by decide +kernel
theorem dX6_number_96 : decode cX6_number 96 = .ok (.i2l, 1) := by decide +kernel
theorem dX6_number_97 : decode cX6_number 97 = .ok (.invokestatic 49, 3) := by decide +kernel
theorem dX6_number_100 : decode cX6_number 100 = .ok (.ifCond .eq 7, 3) := by decide +kernel
theorem dX6_number_103 : decode cX6_number 103 = .ok (.iconst 1, 1) := by decide +kernel
theorem dX6_number_104 : decode cX6_number 104 = .ok (.goto 4, 3) := by decide +kernel
theorem dX6_number_107 : decode cX6_number 107 = .ok (.iconst 0, 1) := by decide +kernel
theorem dX6_number_108 : decode cX6_number 108 = .ok (.invokevirtual 261, 3) := by decide +kernel
theorem dX6_number_111 : decode cX6_number 111 = .ok (.return_, 1) := by decide +kernel
theorem dX6_kindHere_0 : decode cX6_kindHere 0 = .ok (.aload_n 0, 1) := by decide +kernel
theorem dX6_kindHere_1 : decode cX6_kindHere 1 = .ok (.invokevirtual 265, 3) := by decide +kernel
theorem dX6_kindHere_4 : decode cX6_kindHere 4 = .ok (.lstore_n 1, 1) := by decide +kernel
theorem dX6_kindHere_5 : decode cX6_kindHere 5 = .ok (.lload_n 1, 1) := by decide +kernel
theorem dX6_kindHere_6 : decode cX6_kindHere 6 = .ok (.ldc2_w 269, 3) := by decide +kernel
theorem dX6_kindHere_9 : decode cX6_kindHere 9 = .ok (.lcmp, 1) := by decide +kernel
theorem dX6_kindHere_10 : decode cX6_kindHere 10 = .ok (.ifCond .ne 7, 3) := by decide +kernel
theorem dX6_kindHere_13 : decode cX6_kindHere 13 = .ok (.iconst 0, 1) := by decide +kernel
theorem dX6_kindHere_14 : decode cX6_kindHere 14 = .ok (.goto 77, 3) := by decide +kernel
theorem dX6_kindHere_17 : decode cX6_kindHere 17 = .ok (.lload_n 1, 1) := by decide +kernel
theorem dX6_kindHere_18 : decode cX6_kindHere 18 = .ok (.ldc2_w 271, 3) := by decide +kernel
theorem dX6_kindHere_21 : decode cX6_kindHere 21 = .ok (.lcmp, 1) := by decide +kernel
theorem dX6_kindHere_22 : decode cX6_kindHere 22 = .ok (.ifCond .ne 7, 3) := by decide +kernel
theorem dX6_kindHere_25 : decode cX6_kindHere 25 = .ok (.iconst 1, 1) := by decide +kernel
theorem dX6_kindHere_26 : decode cX6_kindHere 26 = .ok (.goto 65, 3) := by decide +kernel
theorem dX6_kindHere_29 : decode cX6_kindHere 29 = .ok (.lload_n 1, 1) := by decide +kernel
theorem dX6_kindHere_30 : decode cX6_kindHere 30 = .ok (.ldc2_w 273, 3) := by decide +kernel
theorem dX6_kindHere_33 : decode cX6_kindHere 33 = .ok (.lcmp, 1) := by decide +kernel
theorem dX6_kindHere_34 : decode cX6_kindHere 34 = .ok (.ifCond .ne 7, 3) := by decide +kernel
theorem dX6_kindHere_37 : decode cX6_kindHere 37 = .ok (.iconst 2, 1) := by decide +kernel
theorem dX6_kindHere_38 : decode cX6_kindHere 38 = .ok (.goto 53, 3) := by decide +kernel
theorem dX6_kindHere_41 : decode cX6_kindHere 41 = .ok (.lload_n 1, 1) := by decide +kernel
theorem dX6_kindHere_42 : decode cX6_kindHere 42 = .ok (.ldc2_w 275, 3) := by decide +kernel
theorem dX6_kindHere_45 : decode cX6_kindHere 45 = .ok (.lcmp, 1) := by decide +kernel
theorem dX6_kindHere_46 : decode cX6_kindHere 46 = .ok (.ifCond .ne 7, 3) := by decide +kernel
theorem dX6_kindHere_49 : decode cX6_kindHere 49 = .ok (.iconst 3, 1) := by decide +kernel
theorem dX6_kindHere_50 : decode cX6_kindHere 50 = .ok (.goto 41, 3) := by decide +kernel
theorem dX6_kindHere_53 : decode cX6_kindHere 53 = .ok (.lload_n 1, 1) := by decide +kernel
theorem dX6_kindHere_54 : decode cX6_kindHere 54 = .ok (.ldc2_w 277, 3) := by decide +kernel
theorem dX6_kindHere_57 : decode cX6_kindHere 57 = .ok (.lcmp, 1) := by decide +kernel
theorem dX6_kindHere_58 : decode cX6_kindHere 58 = .ok (.ifCond .ne 7, 3) := by decide +kernel
theorem dX6_kindHere_61 : decode cX6_kindHere 61 = .ok (.iconst 4, 1) := by decide +kernel
theorem dX6_kindHere_62 : decode cX6_kindHere 62 = .ok (.goto 29, 3) := by decide +kernel
theorem dX6_kindHere_65 : decode cX6_kindHere 65 = .ok (.lload_n 1, 1) := by decide +kernel
theorem dX6_kindHere_66 : decode cX6_kindHere 66 = .ok (.ldc2_w 279, 3) := by decide +kernel
theorem dX6_kindHere_69 : decode cX6_kindHere 69 = .ok (.lcmp, 1) := by decide +kernel
theorem dX6_kindHere_70 : decode cX6_kindHere 70 = .ok (.ifCond .ne 7, 3) := by decide +kernel
theorem dX6_kindHere_73 : decode cX6_kindHere 73 = .ok (.iconst 5, 1) := by decide +kernel
theorem dX6_kindHere_74 : decode cX6_kindHere 74 = .ok (.goto 17, 3) := by decide +kernel
theorem dX6_kindHere_77 : decode cX6_kindHere 77 = .ok (.lload_n 1, 1) := by decide +kernel
theorem dX6_kindHere_78 : decode cX6_kindHere 78 = .ok (.ldc2_w 281, 3) := by decide +kernel
theorem dX6_kindHere_81 : decode cX6_kindHere 81 = .ok (.lcmp, 1) := by decide +kernel
theorem dX6_kindHere_82 : decode cX6_kindHere 82 = .ok (.ifCond .ne 8, 3) := by decide +kernel
theorem dX6_kindHere_85 : decode cX6_kindHere 85 = .ok (.bipush 6, 2) := by decide +kernel
theorem dX6_kindHere_87 : decode cX6_kindHere 87 = .ok (.goto 4, 3) := by decide +kernel
theorem dX6_kindHere_90 : decode cX6_kindHere 90 = .ok (.iconst (-1), 1) := by decide +kernel
theorem dX6_kindHere_91 : decode cX6_kindHere 91 = .ok (.ireturn, 1) := by decide +kernel
theorem dX6_perhaps_0 : decode cX6_perhaps 0 = .ok (.aload_n 0, 1) := by decide +kernel
theorem dX6_perhaps_1 : decode cX6_perhaps 1 = .ok (.invokevirtual 265, 3) := by decide +kernel
theorem dX6_perhaps_4 : decode cX6_perhaps 4 = .ok (.lload_n 1, 1) := by decide +kernel
theorem dX6_perhaps_5 : decode cX6_perhaps 5 = .ok (.lcmp, 1) := by decide +kernel
theorem dX6_perhaps_6 : decode cX6_perhaps 6 = .ok (.ifCond .ne 41, 3) := by decide +kernel
theorem dX6_perhaps_9 : decode cX6_perhaps 9 = .ok (.aload_n 0, 1) := by decide +kernel
theorem dX6_perhaps_10 : decode cX6_perhaps 10 = .ok (.iconst 1, 1) := by decide +kernel
theorem dX6_perhaps_11 : decode cX6_perhaps 11 = .ok (.invokevirtual 261, 3) := by decide +kernel
theorem dX6_perhaps_14 : decode cX6_perhaps 14 = .ok (.aload_n 0, 1) := by decide +kernel
theorem dX6_perhaps_15 : decode cX6_perhaps 15 = .ok (.iconst 0, 1) := by decide +kernel
theorem dX6_perhaps_16 : decode cX6_perhaps 16 = .ok (.iload 4, 2) := by decide +kernel
theorem dX6_perhaps_18 : decode cX6_perhaps 18 = .ok (.invokevirtual 283, 3) := by decide +kernel
theorem dX6_perhaps_21 : decode cX6_perhaps 21 = .ok (.aload_n 0, 1) := by decide +kernel
theorem dX6_perhaps_22 : decode cX6_perhaps 22 = .ok (.getfield 7, 3) := by decide +kernel
theorem dX6_perhaps_25 : decode cX6_perhaps 25 = .ok (.iload_n 3, 1) := by decide +kernel
theorem dX6_perhaps_26 : decode cX6_perhaps 26 = .ok (.aload_n 0, 1) := by decide +kernel
theorem dX6_perhaps_27 : decode cX6_perhaps 27 = .ok (.getfield 248, 3) := by decide +kernel
theorem dX6_perhaps_30 : decode cX6_perhaps 30 = .ok (.ifCond .eq 12, 3) := by decide +kernel
theorem dX6_perhaps_33 : decode cX6_perhaps 33 = .ok (.aload_n 0, 1) := by decide +kernel
theorem dX6_perhaps_34 : decode cX6_perhaps 34 = .ok (.getfield 7, 3) := by decide +kernel
theorem dX6_perhaps_37 : decode cX6_perhaps 37 = .ok (.iload_n 3, 1) := by decide +kernel
theorem dX6_perhaps_38 : decode cX6_perhaps 38 = .ok (.iaload, 1) := by decide +kernel
theorem dX6_perhaps_39 : decode cX6_perhaps 39 = .ok (.goto 7, 3) := by decide +kernel
theorem dX6_perhaps_42 : decode cX6_perhaps 42 = .ok (.aload_n 0, 1) := by decide +kernel
theorem dX6_perhaps_43 : decode cX6_perhaps 43 = .ok (.getfield 258, 3) := by decide +kernel
theorem dX6_perhaps_46 : decode cX6_perhaps 46 = .ok (.iastore, 1) := by decide +kernel
theorem dX6_perhaps_47 : decode cX6_perhaps 47 = .ok (.return_, 1) := by decide +kernel
theorem dX6_watcherItem_0 : decode cX6_watcherItem 0 = .ok (.aload_n 0, 1) := by decide +kernel
theorem dX6_watcherItem_1 : decode cX6_watcherItem 1 = .ok (.aload_n 0, 1) := by decide +kernel
theorem dX6_watcherItem_2 : decode cX6_watcherItem 2 = .ok (.getfield 7, 3) := by decide +kernel
theorem dX6_watcherItem_5 : decode cX6_watcherItem 5 = .ok (.iconst 1, 1) := by decide +kernel
theorem dX6_watcherItem_6 : decode cX6_watcherItem 6 = .ok (.iaload, 1) := by decide +kernel
theorem dX6_watcherItem_7 : decode cX6_watcherItem 7 = .ok (.bipush 8, 2) := by decide +kernel
theorem dX6_watcherItem_9 : decode cX6_watcherItem 9 = .ok (.if_icmp .ge 7, 3) := by decide +kernel
theorem dX6_watcherItem_12 : decode cX6_watcherItem 12 = .ok (.iconst 1, 1) := by decide +kernel
theorem dX6_watcherItem_13 : decode cX6_watcherItem 13 = .ok (.goto 4, 3) := by decide +kernel
theorem dX6_watcherItem_16 : decode cX6_watcherItem 16 = .ok (.iconst 0, 1) := by decide +kernel
theorem dX6_watcherItem_17 : decode cX6_watcherItem 17 = .ok (.invokevirtual 261, 3) := by decide +kernel
theorem dX6_watcherItem_20 : decode cX6_watcherItem 20 = .ok (.aload_n 0, 1) := by decide +kernel
theorem dX6_watcherItem_21 : decode cX6_watcherItem 21 = .ok (.getfield 248, 3) := by decide +kernel
theorem dX6_watcherItem_24 : decode cX6_watcherItem 24 = .ok (.ifCond .eq 4, 3) := by decide +kernel
theorem dX6_watcherItem_27 : decode cX6_watcherItem 27 = .ok (.return_, 1) := by decide +kernel
theorem dX6_watcherItem_28 : decode cX6_watcherItem 28 = .ok (.aload_n 0, 1) := by decide +kernel
theorem dX6_watcherItem_29 : decode cX6_watcherItem 29 = .ok (.iload_n 1, 1) := by decide +kernel
theorem dX6_watcherItem_30 : decode cX6_watcherItem 30 = .ok (.iconst 0, 1) := by decide +kernel
theorem dX6_watcherItem_31 : decode cX6_watcherItem 31 = .ok (.invokevirtual 97, 3) := by decide +kernel
theorem dX6_watcherItem_34 : decode cX6_watcherItem 34 = .ok (.istore_n 2, 1) := by decide +kernel
theorem dX6_watcherItem_35 : decode cX6_watcherItem 35 = .ok (.aload_n 0, 1) := by decide +kernel
theorem dX6_watcherItem_36 : decode cX6_watcherItem 36 = .ok (.ldc2_w 287, 3) := by decide +kernel
theorem dX6_watcherItem_39 : decode cX6_watcherItem 39 = .ok (.iload_n 2, 1) := by decide +kernel
theorem dX6_watcherItem_40 : decode cX6_watcherItem 40 = .ok (.iconst 1, 1) := by decide +kernel
theorem dX6_watcherItem_41 : decode cX6_watcherItem 41 = .ok (.invokestatic 59, 3) := by decide +kernel
theorem dX6_watcherItem_44 : decode cX6_watcherItem 44 = .ok (.bipush 11, 2) := by decide +kernel
theorem dX6_watcherItem_46 : decode cX6_watcherItem 46 = .ok (.invokevirtual 289, 3) := by decide +kernel
theorem dX6_watcherItem_49 : decode cX6_watcherItem 49 = .ok (.aload_n 0, 1) := by decide +kernel
theorem dX6_watcherItem_50 : decode cX6_watcherItem 50 = .ok (.ldc2_w 293, 3) := by decide +kernel
theorem dX6_watcherItem_53 : decode cX6_watcherItem 53 = .ok (.iload_n 2, 1) := by decide +kernel
theorem dX6_watcherItem_54 : decode cX6_watcherItem 54 = .ok (.iconst 2, 1) := by decide +kernel
theorem dX6_watcherItem_55 : decode cX6_watcherItem 55 = .ok (.invokestatic 59, 3) := by decide +kernel
theorem dX6_watcherItem_58 : decode cX6_watcherItem 58 = .ok (.sipush 999, 3) := by decide +kernel
theorem dX6_watcherItem_61 : decode cX6_watcherItem 61 = .ok (.invokevirtual 289, 3) := by decide +kernel
theorem dX6_watcherItem_64 : decode cX6_watcherItem 64 = .ok (.aload_n 0, 1) := by decide +kernel
theorem dX6_watcherItem_65 : decode cX6_watcherItem 65 = .ok (.ldc2_w 295, 3) := by decide +kernel
theorem dX6_watcherItem_68 : decode cX6_watcherItem 68 = .ok (.iload_n 2, 1) := by decide +kernel
theorem dX6_watcherItem_69 : decode cX6_watcherItem 69 = .ok (.iconst 3, 1) := by decide +kernel
theorem dX6_watcherItem_70 : decode cX6_watcherItem 70 = .ok (.invokestatic 59, 3) := by decide +kernel
theorem dX6_watcherItem_73 : decode cX6_watcherItem 73 = .ok (.bipush 99, 2) := by decide +kernel
theorem dX6_watcherItem_75 : decode cX6_watcherItem 75 = .ok (.invokevirtual 289, 3) := by decide +kernel
theorem dX6_watcherItem_78 : decode cX6_watcherItem 78 = .ok (.return_, 1) := by decide +kernel
theorem dX6_rowItem_0 : decode cX6_rowItem 0 = .ok (.aload_n 0, 1) := by decide +kernel
theorem dX6_rowItem_1 : decode cX6_rowItem 1 = .ok (.iconst 1, 1) := by decide +kernel
theorem dX6_rowItem_2 : decode cX6_rowItem 2 = .ok (.invokevirtual 261, 3) := by decide +kernel
theorem dX6_rowItem_5 : decode cX6_rowItem 5 = .ok (.aload_n 0, 1) := by decide +kernel
theorem dX6_rowItem_6 : decode cX6_rowItem 6 = .ok (.iconst 0, 1) := by decide +kernel
theorem dX6_rowItem_7 : decode cX6_rowItem 7 = .ok (.iload_n 2, 1) := by decide +kernel
theorem dX6_rowItem_8 : decode cX6_rowItem 8 = .ok (.iconst 1, 1) := by decide +kernel
theorem dX6_rowItem_9 : decode cX6_rowItem 9 = .ok (.isub, 1) := by decide +kernel
theorem dX6_rowItem_10 : decode cX6_rowItem 10 = .ok (.invokevirtual 283, 3) := by decide +kernel
theorem dX6_rowItem_13 : decode cX6_rowItem 13 = .ok (.aload_n 0, 1) := by decide +kernel
theorem dX6_rowItem_14 : decode cX6_rowItem 14 = .ok (.getfield 248, 3) := by decide +kernel
theorem dX6_rowItem_17 : decode cX6_rowItem 17 = .ok (.ifCond .eq 7, 3) := by decide +kernel
theorem dX6_rowItem_20 : decode cX6_rowItem 20 = .ok (.iload_n 1, 1) := by decide +kernel
theorem dX6_rowItem_21 : decode cX6_rowItem 21 = .ok (.goto 9, 3) := by decide +kernel
theorem dX6_rowItem_24 : decode cX6_rowItem 24 = .ok (.iload_n 1, 1) := by decide +kernel
theorem dX6_rowItem_25 : decode cX6_rowItem 25 = .ok (.aload_n 0, 1) := by decide +kernel
theorem dX6_rowItem_26 : decode cX6_rowItem 26 = .ok (.getfield 258, 3) := by decide +kernel
theorem dX6_rowItem_29 : decode cX6_rowItem 29 = .ok (.iadd, 1) := by decide +kernel
theorem dX6_rowItem_30 : decode cX6_rowItem 30 = .ok (.istore 4, 2) := by decide +kernel
theorem dX6_rowItem_32 : decode cX6_rowItem 32 = .ok (.aload_n 0, 1) := by decide +kernel
theorem dX6_rowItem_33 : decode cX6_rowItem 33 = .ok (.iconst 0, 1) := by decide +kernel
theorem dX6_rowItem_34 : decode cX6_rowItem 34 = .ok (.iload_n 3, 1) := by decide +kernel
theorem dX6_rowItem_35 : decode cX6_rowItem 35 = .ok (.invokevirtual 283, 3) := by decide +kernel
theorem dX6_rowItem_38 : decode cX6_rowItem 38 = .ok (.aload_n 0, 1) := by decide +kernel
theorem dX6_rowItem_39 : decode cX6_rowItem 39 = .ok (.getfield 7, 3) := by decide +kernel
theorem dX6_rowItem_42 : decode cX6_rowItem 42 = .ok (.iload 4, 2) := by decide +kernel
theorem dX6_rowItem_44 : decode cX6_rowItem 44 = .ok (.aload_n 0, 1) := by decide +kernel
theorem dX6_rowItem_45 : decode cX6_rowItem 45 = .ok (.getfield 248, 3) := by decide +kernel
theorem dX6_rowItem_48 : decode cX6_rowItem 48 = .ok (.ifCond .eq 13, 3) := by decide +kernel
theorem dX6_rowItem_51 : decode cX6_rowItem 51 = .ok (.aload_n 0, 1) := by decide +kernel
theorem dX6_rowItem_52 : decode cX6_rowItem 52 = .ok (.getfield 7, 3) := by decide +kernel
theorem dX6_rowItem_55 : decode cX6_rowItem 55 = .ok (.iload 4, 2) := by decide +kernel
theorem dX6_rowItem_57 : decode cX6_rowItem 57 = .ok (.iaload, 1) := by decide +kernel
theorem dX6_rowItem_58 : decode cX6_rowItem 58 = .ok (.goto 7, 3) := by decide +kernel
theorem dX6_rowItem_61 : decode cX6_rowItem 61 = .ok (.aload_n 0, 1) := by decide +kernel
theorem dX6_rowItem_62 : decode cX6_rowItem 62 = .ok (.getfield 258, 3) := by decide +kernel
theorem dX6_rowItem_65 : decode cX6_rowItem 65 = .ok (.iastore, 1) := by decide +kernel
theorem dX6_rowItem_66 : decode cX6_rowItem 66 = .ok (.return_, 1) := by decide +kernel
theorem dX6_item_0 : decode cX6_item 0 = .ok (.aload_n 0, 1) := by decide +kernel
theorem dX6_item_1 : decode cX6_item 1 = .ok (.invokevirtual 297, 3) := by decide +kernel
theorem dX6_item_4 : decode cX6_item 4 = .ok (.istore_n 1, 1) := by decide +kernel
theorem dX6_item_5 : decode cX6_item 5 = .ok (.aload_n 0, 1) := by decide +kernel
theorem dX6_item_6 : decode cX6_item 6 = .ok (.invokevirtual 265, 3) := by decide +kernel
theorem dX6_item_9 : decode cX6_item 9 = .ok (.lstore_n 2, 1) := by decide +kernel
theorem dX6_item_10 : decode cX6_item 10 = .ok (.iload_n 1, 1) := by decide +kernel
theorem dX6_item_11 : decode cX6_item 11 = .ok (.ifCond .lt 11, 3) := by decide +kernel
theorem dX6_item_14 : decode cX6_item 14 = .ok (.aload_n 0, 1) := by decide +kernel
theorem dX6_item_15 : decode cX6_item 15 = .ok (.iload_n 1, 1) := by decide +kernel
theorem dX6_item_16 : decode cX6_item 16 = .ok (.invokevirtual 300, 3) := by decide +kernel
theorem dX6_item_19 : decode cX6_item 19 = .ok (.goto 84, 3) := by decide +kernel
theorem dX6_item_22 : decode cX6_item 22 = .ok (.lload_n 2, 1) := by decide +kernel
theorem dX6_item_23 : decode cX6_item 23 = .ok (.ldc2_w 303, 3) := by decide +kernel
theorem dX6_item_26 : decode cX6_item 26 = .ok (.lcmp, 1) := by decide +kernel
theorem dX6_item_27 : decode cX6_item 27 = .ok (.ifCond .ne 17, 3) := by decide +kernel
theorem dX6_item_30 : decode cX6_item 30 = .ok (.aload_n 0, 1) := by decide +kernel
theorem dX6_item_31 : decode cX6_item 31 = .ok (.bipush 12, 2) := by decide +kernel
theorem dX6_item_33 : decode cX6_item 33 = .ok (.bipush 12, 2) := by decide +kernel
theorem dX6_item_35 : decode cX6_item 35 = .ok (.sipush 9999, 3) := by decide +kernel
theorem dX6_item_38 : decode cX6_item 38 = .ok (.invokevirtual 305, 3) := by decide +kernel
theorem dX6_item_41 : decode cX6_item 41 = .ok (.goto 62, 3) := by decide +kernel
theorem dX6_item_44 : decode cX6_item 44 = .ok (.lload_n 2, 1) := by decide +kernel
theorem dX6_item_45 : decode cX6_item 45 = .ok (.ldc2_w 308, 3) := by decide +kernel
theorem dX6_item_48 : decode cX6_item 48 = .ok (.lcmp, 1) := by decide +kernel
theorem dX6_item_49 : decode cX6_item 49 = .ok (.ifCond .ne 15, 3) := by decide +kernel
theorem dX6_item_52 : decode cX6_item 52 = .ok (.aload_n 0, 1) := by decide +kernel
theorem dX6_item_53 : decode cX6_item 53 = .ok (.iconst 4, 1) := by decide +kernel
theorem dX6_item_54 : decode cX6_item 54 = .ok (.bipush 8, 2) := by decide +kernel
theorem dX6_item_56 : decode cX6_item 56 = .ok (.bipush 99, 2) := by decide +kernel
theorem dX6_item_58 : decode cX6_item 58 = .ok (.invokevirtual 305, 3) := by decide +kernel
theorem dX6_item_61 : decode cX6_item 61 = .ok (.goto 42, 3) := by decide +kernel
theorem dX6_item_64 : decode cX6_item 64 = .ok (.aload_n 0, 1) := by decide +kernel
theorem dX6_item_65 : decode cX6_item 65 = .ok (.lload_n 2, 1) := by decide +kernel
theorem dX6_item_66 : decode cX6_item 66 = .ok (.ldc2_w 310, 3) := by decide +kernel
theorem dX6_item_69 : decode cX6_item 69 = .ok (.lcmp, 1) := by decide +kernel
theorem dX6_item_70 : decode cX6_item 70 = .ok (.ifCond .ne 7, 3) := by decide +kernel
theorem dX6_item_73 : decode cX6_item 73 = .ok (.iconst 1, 1) := by decide +kernel
theorem dX6_item_74 : decode cX6_item 74 = .ok (.goto 4, 3) := by decide +kernel
theorem dX6_item_77 : decode cX6_item 77 = .ok (.iconst 0, 1) := by decide +kernel
theorem dX6_item_78 : decode cX6_item 78 = .ok (.invokevirtual 261, 3) := by decide +kernel
theorem dX6_item_81 : decode cX6_item 81 = .ok (.aload_n 0, 1) := by decide +kernel
theorem dX6_item_82 : decode cX6_item 82 = .ok (.iconst 0, 1) := by decide +kernel
theorem dX6_item_83 : decode cX6_item 83 = .ok (.bipush 99, 2) := by decide +kernel
theorem dX6_item_85 : decode cX6_item 85 = .ok (.invokevirtual 283, 3) := by decide +kernel
theorem dX6_item_88 : decode cX6_item 88 = .ok (.aload_n 0, 1) := by decide +kernel
theorem dX6_item_89 : decode cX6_item 89 = .ok (.getfield 248, 3) := by decide +kernel
theorem dX6_item_92 : decode cX6_item 92 = .ok (.ifCond .ne 11, 3) := by decide +kernel
theorem dX6_item_95 : decode cX6_item 95 = .ok (.aload_n 0, 1) := by decide +kernel
theorem dX6_item_96 : decode cX6_item 96 = .ok (.aload_n 0, 1) := by decide +kernel
theorem dX6_item_97 : decode cX6_item 97 = .ok (.getfield 258, 3) := by decide +kernel
theorem dX6_item_100 : decode cX6_item 100 = .ok (.invokevirtual 89, 3) := by decide +kernel
theorem dX6_item_103 : decode cX6_item 103 = .ok (.return_, 1) := by decide +kernel
theorem dX6_text_0 : decode cX6_text 0 = .ok (.aload_n 0, 1) := by decide +kernel
theorem dX6_text_1 : decode cX6_text 1 = .ok (.invokevirtual 312, 3) := by decide +kernel
theorem dX6_text_4 : decode cX6_text 4 = .ok (.aload_n 0, 1) := by decide +kernel
theorem dX6_text_5 : decode cX6_text 5 = .ok (.iconst 0, 1) := by decide +kernel
theorem dX6_text_6 : decode cX6_text 6 = .ok (.putfield 248, 3) := by decide +kernel
theorem dX6_text_9 : decode cX6_text 9 = .ok (.aload_n 0, 1) := by decide +kernel
theorem dX6_text_10 : decode cX6_text 10 = .ok (.iconst 0, 1) := by decide +kernel
theorem dX6_text_11 : decode cX6_text 11 = .ok (.putfield 233, 3) := by decide +kernel
theorem dX6_text_14 : decode cX6_text 14 = .ok (.aload_n 0, 1) := by decide +kernel
theorem dX6_text_15 : decode cX6_text 15 = .ok (.invokevirtual 251, 3) := by decide +kernel
theorem dX6_text_18 : decode cX6_text 18 = .ok (.iconst 1, 1) := by decide +kernel
theorem dX6_text_19 : decode cX6_text 19 = .ok (.istore_n 1, 1) := by decide +kernel
theorem dX6_text_20 : decode cX6_text 20 = .ok (.aload_n 0, 1) := by decide +kernel
theorem dX6_text_21 : decode cX6_text 21 = .ok (.invokevirtual 315, 3) := by decide +kernel
theorem dX6_text_24 : decode cX6_text 24 = .ok (.aload_n 0, 1) := by decide +kernel
theorem dX6_text_25 : decode cX6_text 25 = .ok (.getfield 248, 3) := by decide +kernel
theorem dX6_text_28 : decode cX6_text 28 = .ok (.ifCond .ne 31, 3) := by decide +kernel
theorem dX6_text_31 : decode cX6_text 31 = .ok (.aload_n 0, 1) := by decide +kernel
theorem dX6_text_32 : decode cX6_text 32 = .ok (.aload_n 0, 1) := by decide +kernel
theorem dX6_text_33 : decode cX6_text 33 = .ok (.getfield 236, 3) := by decide +kernel
theorem dX6_text_36 : decode cX6_text 36 = .ok (.invokevirtual 239, 3) := by decide +kernel
theorem dX6_text_39 : decode cX6_text 39 = .ok (.bipush 59, 2) := by decide +kernel
theorem dX6_text_41 : decode cX6_text 41 = .ok (.if_icmp .ne 18, 3) := by decide +kernel
theorem dX6_text_44 : decode cX6_text 44 = .ok (.aload_n 0, 1) := by decide +kernel
theorem dX6_text_45 : decode cX6_text 45 = .ok (.iconst 1, 1) := by decide +kernel
theorem dX6_text_46 : decode cX6_text 46 = .ok (.invokevirtual 261, 3) := by decide +kernel
theorem dX6_text_49 : decode cX6_text 49 = .ok (.aload_n 0, 1) := by decide +kernel
theorem dX6_text_50 : decode cX6_text 50 = .ok (.invokevirtual 315, 3) := by decide +kernel
theorem dX6_text_53 : decode cX6_text 53 = .ok (.iinc 1 1, 3) := by decide +kernel
theorem dX6_text_56 : decode cX6_text 56 = .ok (.goto (-32), 3) := by decide +kernel
theorem dX6_text_59 : decode cX6_text 59 = .ok (.aload_n 0, 1) := by decide +kernel
theorem dX6_text_60 : decode cX6_text 60 = .ok (.aload_n 0, 1) := by decide +kernel
theorem dX6_text_61 : decode cX6_text 61 = .ok (.getfield 248, 3) := by decide +kernel
theorem dX6_text_64 : decode cX6_text 64 = .ok (.ifCond .ne 14, 3) := by decide +kernel
theorem dX6_text_67 : decode cX6_text 67 = .ok (.aload_n 0, 1) := by decide +kernel
theorem dX6_text_68 : decode cX6_text 68 = .ok (.getfield 236, 3) := by decide +kernel
theorem dX6_text_71 : decode cX6_text 71 = .ok (.aload_n 0, 1) := by decide +kernel
theorem dX6_text_72 : decode cX6_text 72 = .ok (.getfield 222, 3) := by decide +kernel
theorem dX6_text_75 : decode cX6_text 75 = .ok (.if_icmp .ge 7, 3) := by decide +kernel
theorem dX6_text_78 : decode cX6_text 78 = .ok (.iconst 1, 1) := by decide +kernel
theorem dX6_text_79 : decode cX6_text 79 = .ok (.goto 4, 3) := by decide +kernel
theorem dX6_text_82 : decode cX6_text 82 = .ok (.iconst 0, 1) := by decide +kernel
theorem dX6_text_83 : decode cX6_text 83 = .ok (.putfield 248, 3) := by decide +kernel
theorem dX6_text_86 : decode cX6_text 86 = .ok (.aload_n 0, 1) := by decide +kernel
theorem dX6_text_87 : decode cX6_text 87 = .ok (.getfield 248, 3) := by decide +kernel
theorem dX6_text_90 : decode cX6_text 90 = .ok (.ifCond .eq 7, 3) := by decide +kernel
theorem dX6_text_93 : decode cX6_text 93 = .ok (.aload_n 0, 1) := by decide +kernel
theorem dX6_text_94 : decode cX6_text 94 = .ok (.invokevirtual 318, 3) := by decide +kernel
theorem dX6_text_97 : decode cX6_text 97 = .ok (.aload_n 0, 1) := by decide +kernel
theorem dX6_text_98 : decode cX6_text 98 = .ok (.iconst 0, 1) := by decide +kernel
theorem dX6_text_99 : decode cX6_text 99 = .ok (.putfield 222, 3) := by decide +kernel
theorem dX6_text_102 : decode cX6_text 102 = .ok (.aload_n 0, 1) := by decide +kernel
theorem dX6_text_103 : decode cX6_text 103 = .ok (.getfield 248, 3) := by decide +kernel
theorem dX6_text_106 : decode cX6_text 106 = .ok (.ifCond .eq 12, 3) := by decide +kernel
theorem dX6_text_109 : decode cX6_text 109 = .ok (.iconst (-1), 1) := by decide +kernel
theorem dX6_text_110 : decode cX6_text 110 = .ok (.aload_n 0, 1) := by decide +kernel
theorem dX6_text_111 : decode cX6_text 111 = .ok (.getfield 236, 3) := by decide +kernel
theorem dX6_text_114 : decode cX6_text 114 = .ok (.isub, 1) := by decide +kernel
theorem dX6_text_115 : decode cX6_text 115 = .ok (.goto 4, 3) := by decide +kernel
theorem dX6_text_118 : decode cX6_text 118 = .ok (.iload_n 1, 1) := by decide +kernel
theorem dX6_text_119 : decode cX6_text 119 = .ok (.ireturn, 1) := by decide +kernel
theorem dX6_isSpot_0 : decode cX6_isSpot 0 = .ok (.iload_n 0, 1) := by decide +kernel
theorem dX6_isSpot_1 : decode cX6_isSpot 1 = .ok (.i2l, 1) := by decide +kernel
theorem dX6_isSpot_2 : decode cX6_isSpot 2 = .ok (.lconst 0, 1) := by decide +kernel
theorem dX6_isSpot_3 : decode cX6_isSpot 3 = .ok (.ldc2_w 321, 3) := by decide +kernel
theorem dX6_isSpot_6 : decode cX6_isSpot 6 = .ok (.invokestatic 49, 3) := by decide +kernel
theorem dX6_isSpot_9 : decode cX6_isSpot 9 = .ok (.ireturn, 1) := by decide +kernel
theorem dX6_hold_0 : decode cX6_hold 0 = .ok (.iload_n 1, 1) := by decide +kernel
theorem dX6_hold_1 : decode cX6_hold 1 = .ok (.invokestatic 323, 3) := by decide +kernel
theorem dX6_hold_4 : decode cX6_hold 4 = .ok (.ifCond .eq 16, 3) := by decide +kernel
theorem dX6_hold_7 : decode cX6_hold 7 = .ok (.iload_n 2, 1) := by decide +kernel
theorem dX6_hold_8 : decode cX6_hold 8 = .ok (.iconst (-1), 1) := by decide +kernel
theorem dX6_hold_9 : decode cX6_hold 9 = .ok (.if_icmp .eq 18, 3) := by decide +kernel
theorem dX6_hold_12 : decode cX6_hold 12 = .ok (.aload_n 0, 1) := by decide +kernel
theorem dX6_hold_13 : decode cX6_hold 13 = .ok (.iload_n 2, 1) := by decide +kernel
theorem dX6_hold_14 : decode cX6_hold 14 = .ok (.invokevirtual 100, 3) := by decide +kernel
theorem dX6_hold_17 : decode cX6_hold 17 = .ok (.ifCond .ne 10, 3) := by decide +kernel
theorem dX6_hold_20 : decode cX6_hold 20 = .ok (.aload_n 0, 1) := by decide +kernel
theorem dX6_hold_21 : decode cX6_hold 21 = .ok (.ldc 46, 2) := by decide +kernel
theorem dX6_hold_23 : decode cX6_hold 23 = .ok (.invokevirtual 75, 3) := by decide +kernel
theorem dX6_hold_26 : decode cX6_hold 26 = .ok (.ireturn, 1) := by decide +kernel
theorem dX6_hold_27 : decode cX6_hold 27 = .ok (.aload_n 0, 1) := by decide +kernel
theorem dX6_hold_28 : decode cX6_hold 28 = .ok (.getfield 7, 3) := by decide +kernel
theorem dX6_hold_31 : decode cX6_hold 31 = .ok (.bipush 64, 2) := by decide +kernel
theorem dX6_hold_33 : decode cX6_hold 33 = .ok (.iload_n 1, 1) := by decide +kernel
theorem dX6_hold_34 : decode cX6_hold 34 = .ok (.iadd, 1) := by decide +kernel
theorem dX6_hold_35 : decode cX6_hold 35 = .ok (.iload_n 2, 1) := by decide +kernel
theorem dX6_hold_36 : decode cX6_hold 36 = .ok (.iastore, 1) := by decide +kernel
theorem dX6_hold_37 : decode cX6_hold 37 = .ok (.iconst 1, 1) := by decide +kernel
theorem dX6_hold_38 : decode cX6_hold 38 = .ok (.ireturn, 1) := by decide +kernel
theorem dX6_above_0 : decode cX6_above 0 = .ok (.iload_n 0, 1) := by decide +kernel
theorem dX6_above_1 : decode cX6_above 1 = .ok (.bipush 6, 2) := by decide +kernel
theorem dX6_above_3 : decode cX6_above 3 = .ok (.if_icmp .ne 7, 3) := by decide +kernel
theorem dX6_above_6 : decode cX6_above 6 = .ok (.iconst 1, 1) := by decide +kernel
theorem dX6_above_7 : decode cX6_above 7 = .ok (.goto 22, 3) := by decide +kernel
theorem dX6_above_10 : decode cX6_above 10 = .ok (.iload_n 0, 1) := by decide +kernel
theorem dX6_above_11 : decode cX6_above 11 = .ok (.iconst 3, 1) := by decide +kernel
theorem dX6_above_12 : decode cX6_above 12 = .ok (.if_icmp .ne 7, 3) := by decide +kernel
theorem dX6_above_15 : decode cX6_above 15 = .ok (.iconst 2, 1) := by decide +kernel
theorem dX6_above_16 : decode cX6_above 16 = .ok (.goto 13, 3) := by decide +kernel
theorem dX6_above_19 : decode cX6_above 19 = .ok (.iload_n 0, 1) := by decide +kernel
theorem dX6_above_20 : decode cX6_above 20 = .ok (.iconst 4, 1) := by decide +kernel
theorem dX6_above_21 : decode cX6_above 21 = .ok (.if_icmp .ne 7, 3) := by decide +kernel
theorem dX6_above_24 : decode cX6_above 24 = .ok (.iconst 3, 1) := by decide +kernel
theorem dX6_above_25 : decode cX6_above 25 = .ok (.goto 4, 3) := by decide +kernel
theorem dX6_above_28 : decode cX6_above 28 = .ok (.iconst 0, 1) := by decide +kernel
theorem dX6_above_29 : decode cX6_above 29 = .ok (.ireturn, 1) := by decide +kernel
theorem dX6_as_0 : decode cX6_as 0 = .ok (.iload_n 1, 1) := by decide +kernel
theorem dX6_as_1 : decode cX6_as 1 = .ok (.invokestatic 323, 3) := by decide +kernel
theorem dX6_as_4 : decode cX6_as 4 = .ok (.ifCond .eq 10, 3) := by decide +kernel
theorem dX6_as_7 : decode cX6_as 7 = .ok (.iload_n 2, 1) := by decide +kernel
theorem dX6_as_8 : decode cX6_as 8 = .ok (.invokestatic 93, 3) := by decide +kernel
theorem dX6_as_11 : decode cX6_as 11 = .ok (.ifCond .ne 10, 3) := by decide +kernel
theorem dX6_as_14 : decode cX6_as 14 = .ok (.aload_n 0, 1) := by decide +kernel
theorem dX6_as_15 : decode cX6_as 15 = .ok (.ldc 46, 2) := by decide +kernel
theorem dX6_as_17 : decode cX6_as 17 = .ok (.invokevirtual 75, 3) := by decide +kernel
theorem dX6_as_20 : decode cX6_as 20 = .ok (.ireturn, 1) := by decide +kernel
theorem dX6_as_21 : decode cX6_as 21 = .ok (.aload_n 0, 1) := by decide +kernel
theorem dX6_as_22 : decode cX6_as 22 = .ok (.getfield 7, 3) := by decide +kernel
theorem dX6_as_25 : decode cX6_as 25 = .ok (.bipush 64, 2) := by decide +kernel
theorem dX6_as_27 : decode cX6_as 27 = .ok (.iload_n 1, 1) := by decide +kernel
theorem dX6_as_28 : decode cX6_as 28 = .ok (.iadd, 1) := by decide +kernel
theorem dX6_as_29 : decode cX6_as 29 = .ok (.iaload, 1) := by decide +kernel
theorem dX6_as_30 : decode cX6_as 30 = .ok (.istore_n 3, 1) := by decide +kernel
theorem dX6_as_31 : decode cX6_as 31 = .ok (.iload_n 3, 1) := by decide +kernel
theorem dX6_as_32 : decode cX6_as 32 = .ok (.ifCond .ge 11, 3) := by decide +kernel
theorem dX6_as_35 : decode cX6_as 35 = .ok (.aload_n 0, 1) := by decide +kernel
theorem dX6_as_36 : decode cX6_as 36 = .ok (.ldc_w 326, 3) := by decide +kernel
theorem dX6_as_39 : decode cX6_as 39 = .ok (.invokevirtual 75, 3) := by decide +kernel
theorem dX6_as_42 : decode cX6_as 42 = .ok (.ireturn, 1) := by decide +kernel
theorem dX6_as_43 : decode cX6_as 43 = .ok (.aload_n 0, 1) := by decide +kernel
theorem dX6_as_44 : decode cX6_as 44 = .ok (.iload_n 3, 1) := by decide +kernel
theorem dX6_as_45 : decode cX6_as 45 = .ok (.iconst 0, 1) := by decide +kernel
theorem dX6_as_46 : decode cX6_as 46 = .ok (.invokevirtual 63, 3) := by decide +kernel
theorem dX6_as_49 : decode cX6_as 49 = .ok (.istore 4, 2) := by decide +kernel
theorem dX6_as_51 : decode cX6_as 51 = .ok (.iload 4, 2) := by decide +kernel
theorem dX6_as_53 : decode cX6_as 53 = .ok (.iload_n 2, 1) := by decide +kernel
theorem dX6_as_54 : decode cX6_as 54 = .ok (.if_icmp .eq 18, 3) := by decide +kernel
theorem dX6_as_57 : decode cX6_as 57 = .ok (.iload 4, 2) := by decide +kernel
theorem dX6_as_59 : decode cX6_as 59 = .ok (.ifCond .eq 13, 3) := by decide +kernel
theorem dX6_as_62 : decode cX6_as 62 = .ok (.iload 4, 2) := by decide +kernel
theorem dX6_as_64 : decode cX6_as 64 = .ok (.invokestatic 327, 3) := by decide +kernel
theorem dX6_as_67 : decode cX6_as 67 = .ok (.istore 4, 2) := by decide +kernel
theorem dX6_as_69 : decode cX6_as 69 = .ok (.goto (-18), 3) := by decide +kernel
theorem dX6_as_72 : decode cX6_as 72 = .ok (.iload 4, 2) := by decide +kernel
theorem dX6_as_74 : decode cX6_as 74 = .ok (.iload_n 2, 1) := by decide +kernel
theorem dX6_as_75 : decode cX6_as 75 = .ok (.if_icmp .ne 7, 3) := by decide +kernel
theorem dX6_as_78 : decode cX6_as 78 = .ok (.iload_n 3, 1) := by decide +kernel
theorem dX6_as_79 : decode cX6_as 79 = .ok (.goto 10, 3) := by decide +kernel
theorem dX6_as_82 : decode cX6_as 82 = .ok (.aload_n 0, 1) := by decide +kernel
theorem dX6_as_83 : decode cX6_as 83 = .ok (.ldc_w 330, 3) := by decide +kernel
theorem dX6_as_86 : decode cX6_as 86 = .ok (.invokevirtual 75, 3) := by decide +kernel
theorem dX6_as_89 : decode cX6_as 89 = .ok (.ireturn, 1) := by decide +kernel
theorem dX6_isOne_0 : decode cX6_isOne 0 = .ok (.iload_n 0, 1) := by decide +kernel
theorem dX6_isOne_1 : decode cX6_isOne 1 = .ok (.i2l, 1) := by decide +kernel
theorem dX6_isOne_2 : decode cX6_isOne 2 = .ok (.lconst 0, 1) := by decide +kernel
theorem dX6_isOne_3 : decode cX6_isOne 3 = .ok (.ldc2_w 167, 3) := by decide +kernel
theorem dX6_isOne_6 : decode cX6_isOne 6 = .ok (.invokestatic 49, 3) := by decide +kernel
theorem dX6_isOne_9 : decode cX6_isOne 9 = .ok (.ireturn, 1) := by decide +kernel
theorem dX6_sheet_0 : decode cX6_sheet 0 = .ok (.iload_n 1, 1) := by decide +kernel
theorem dX6_sheet_1 : decode cX6_sheet 1 = .ok (.invokestatic 331, 3) := by decide +kernel
theorem dX6_sheet_4 : decode cX6_sheet 4 = .ok (.ifCond .eq 25, 3) := by decide +kernel
theorem dX6_sheet_7 : decode cX6_sheet 7 = .ok (.iload_n 2, 1) := by decide +kernel
theorem dX6_sheet_8 : decode cX6_sheet 8 = .ok (.ifCond .eq 28, 3) := by decide +kernel
theorem dX6_sheet_11 : decode cX6_sheet 11 = .ok (.iload_n 2, 1) := by decide +kernel
theorem dX6_sheet_12 : decode cX6_sheet 12 = .ok (.bipush 8, 2) := by decide +kernel
theorem dX6_sheet_14 : decode cX6_sheet 14 = .ok (.if_icmp .eq 22, 3) := by decide +kernel
theorem dX6_sheet_17 : decode cX6_sheet 17 = .ok (.iload_n 2, 1) := by decide +kernel
theorem dX6_sheet_18 : decode cX6_sheet 18 = .ok (.bipush 16, 2) := by decide +kernel
theorem dX6_sheet_20 : decode cX6_sheet 20 = .ok (.if_icmp .eq 16, 3) := by decide +kernel
theorem dX6_sheet_23 : decode cX6_sheet 23 = .ok (.iload_n 2, 1) := by decide +kernel
theorem dX6_sheet_24 : decode cX6_sheet 24 = .ok (.bipush 32, 2) := by decide +kernel
theorem dX6_sheet_26 : decode cX6_sheet 26 = .ok (.if_icmp .eq 10, 3) := by decide +kernel
theorem dX6_sheet_29 : decode cX6_sheet 29 = .ok (.aload_n 0, 1) := by decide +kernel
theorem dX6_sheet_30 : decode cX6_sheet 30 = .ok (.ldc 46, 2) := by decide +kernel
theorem dX6_sheet_32 : decode cX6_sheet 32 = .ok (.invokevirtual 75, 3) := by decide +kernel
theorem dX6_sheet_35 : decode cX6_sheet 35 = .ok (.ireturn, 1) := by decide +kernel
theorem dX6_sheet_36 : decode cX6_sheet 36 = .ok (.iload_n 3, 1) := by decide +kernel
theorem dX6_sheet_37 : decode cX6_sheet 37 = .ok (.ifCond .ge 11, 3) := by decide +kernel
theorem dX6_sheet_40 : decode cX6_sheet 40 = .ok (.aload_n 0, 1) := by decide +kernel
theorem dX6_sheet_41 : decode cX6_sheet 41 = .ok (.ldc_w 334, 3) := by decide +kernel
theorem dX6_sheet_44 : decode cX6_sheet 44 = .ok (.invokevirtual 75, 3) := by decide +kernel
theorem dX6_sheet_47 : decode cX6_sheet 47 = .ok (.ireturn, 1) := by decide +kernel
theorem dX6_sheet_48 : decode cX6_sheet 48 = .ok (.iload_n 3, 1) := by decide +kernel
theorem dX6_sheet_49 : decode cX6_sheet 49 = .ok (.bipush 40, 2) := by decide +kernel
theorem dX6_sheet_51 : decode cX6_sheet 51 = .ok (.if_icmp .le 10, 3) := by decide +kernel
theorem dX6_sheet_54 : decode cX6_sheet 54 = .ok (.aload_n 0, 1) := by decide +kernel
theorem dX6_sheet_55 : decode cX6_sheet 55 = .ok (.ldc 46, 2) := by decide +kernel
theorem dX6_sheet_57 : decode cX6_sheet 57 = .ok (.invokevirtual 75, 3) := by decide +kernel
theorem dX6_sheet_60 : decode cX6_sheet 60 = .ok (.ireturn, 1) := by decide +kernel
theorem dX6_sheet_61 : decode cX6_sheet 61 = .ok (.aload_n 0, 1) := by decide +kernel
theorem dX6_sheet_62 : decode cX6_sheet 62 = .ok (.getfield 34, 3) := by decide +kernel
theorem dX6_sheet_65 : decode cX6_sheet 65 = .ok (.iload_n 1, 1) := by decide +kernel
theorem dX6_sheet_66 : decode cX6_sheet 66 = .ok (.iload_n 2, 1) := by decide +kernel
theorem dX6_sheet_67 : decode cX6_sheet 67 = .ok (.iastore, 1) := by decide +kernel
theorem dX6_sheet_68 : decode cX6_sheet 68 = .ok (.aload_n 0, 1) := by decide +kernel
theorem dX6_sheet_69 : decode cX6_sheet 69 = .ok (.getfield 37, 3) := by decide +kernel
theorem dX6_sheet_72 : decode cX6_sheet 72 = .ok (.iload_n 1, 1) := by decide +kernel
theorem dX6_sheet_73 : decode cX6_sheet 73 = .ok (.iload_n 2, 1) := by decide +kernel
theorem dX6_sheet_74 : decode cX6_sheet 74 = .ok (.ifCond .ne 7, 3) := by decide +kernel
theorem dX6_sheet_77 : decode cX6_sheet 77 = .ok (.iconst 0, 1) := by decide +kernel
theorem dX6_sheet_78 : decode cX6_sheet 78 = .ok (.goto 4, 3) := by decide +kernel
theorem dX6_sheet_81 : decode cX6_sheet 81 = .ok (.iload_n 3, 1) := by decide +kernel
theorem dX6_sheet_82 : decode cX6_sheet 82 = .ok (.iastore, 1) := by decide +kernel
theorem dX6_sheet_83 : decode cX6_sheet 83 = .ok (.iconst 0, 1) := by decide +kernel
theorem dX6_sheet_84 : decode cX6_sheet 84 = .ok (.istore 4, 2) := by decide +kernel
theorem dX6_sheet_86 : decode cX6_sheet 86 = .ok (.iload 4, 2) := by decide +kernel
theorem dX6_sheet_88 : decode cX6_sheet 88 = .ok (.bipush 40, 2) := by decide +kernel
theorem dX6_sheet_90 : decode cX6_sheet 90 = .ok (.if_icmp .ge 22, 3) := by decide +kernel
theorem dX6_sheet_93 : decode cX6_sheet 93 = .ok (.aload_n 0, 1) := by decide +kernel
theorem dX6_sheet_94 : decode cX6_sheet 94 = .ok (.getfield 40, 3) := by decide +kernel
theorem dX6_sheet_97 : decode cX6_sheet 97 = .ok (.bipush 40, 2) := by decide +kernel
theorem dX6_sheet_99 : decode cX6_sheet 99 = .ok (.iload_n 1, 1) := by decide +kernel
theorem dX6_sheet_100 : decode cX6_sheet 100 = .ok (.imul, 1) := by decide +kernel
theorem dX6_sheet_101 : decode cX6_sheet 101 = .ok (.iload 4, 2) := by decide +kernel
theorem dX6_sheet_103 : decode cX6_sheet 103 = .ok (.iadd, 1) := by decide +kernel
theorem dX6_sheet_104 : decode cX6_sheet 104 = .ok (.iconst 0, 1) := by decide +kernel
theorem dX6_sheet_105 : decode cX6_sheet 105 = .ok (.iastore, 1) := by decide +kernel
theorem dX6_sheet_106 : decode cX6_sheet 106 = .ok (.iinc 4 1, 3) := by decide +kernel
theorem dX6_sheet_109 : decode cX6_sheet 109 = .ok (.goto (-23), 3) := by decide +kernel
theorem dX6_sheet_112 : decode cX6_sheet 112 = .ok (.aload_n 0, 1) := by decide +kernel
theorem dX6_sheet_113 : decode cX6_sheet 113 = .ok (.getfield 37, 3) := by decide +kernel
theorem dX6_sheet_116 : decode cX6_sheet 116 = .ok (.iload_n 1, 1) := by decide +kernel
theorem dX6_sheet_117 : decode cX6_sheet 117 = .ok (.iaload, 1) := by decide +kernel
theorem dX6_sheet_118 : decode cX6_sheet 118 = .ok (.ireturn, 1) := by decide +kernel
theorem dX6_narrowed_0 : decode cX6_narrowed 0 = .ok (.iload_n 0, 1) := by decide +kernel
theorem dX6_narrowed_1 : decode cX6_narrowed 1 = .ok (.bipush 8, 2) := by decide +kernel
theorem dX6_narrowed_3 : decode cX6_narrowed 3 = .ok (.if_icmp .ne 8, 3) := by decide +kernel
theorem dX6_narrowed_6 : decode cX6_narrowed 6 = .ok (.iload_n 1, 1) := by decide +kernel
theorem dX6_narrowed_7 : decode cX6_narrowed 7 = .ok (.i2b, 1) := by decide +kernel
theorem dX6_narrowed_8 : decode cX6_narrowed 8 = .ok (.goto 15, 3) := by decide +kernel
theorem dX6_narrowed_11 : decode cX6_narrowed 11 = .ok (.iload_n 0, 1) := by decide +kernel
theorem dX6_narrowed_12 : decode cX6_narrowed 12 = .ok (.bipush 16, 2) := by decide +kernel
theorem dX6_narrowed_14 : decode cX6_narrowed 14 = .ok (.if_icmp .ne 8, 3) := by decide +kernel
theorem dX6_narrowed_17 : decode cX6_narrowed 17 = .ok (.iload_n 1, 1) := by decide +kernel
theorem dX6_narrowed_18 : decode cX6_narrowed 18 = .ok (.i2s, 1) := by decide +kernel
theorem dX6_narrowed_19 : decode cX6_narrowed 19 = .ok (.goto 4, 3) := by decide +kernel
theorem dX6_narrowed_22 : decode cX6_narrowed 22 = .ok (.iload_n 1, 1) := by decide +kernel
theorem dX6_narrowed_23 : decode cX6_narrowed 23 = .ok (.ireturn, 1) := by decide +kernel
theorem dX6_wrong_0 : decode cX6_wrong 0 = .ok (.iload_n 1, 1) := by decide +kernel
theorem dX6_wrong_1 : decode cX6_wrong 1 = .ok (.invokestatic 331, 3) := by decide +kernel
theorem dX6_wrong_4 : decode cX6_wrong 4 = .ok (.ifCond .ne 8, 3) := by decide +kernel
theorem dX6_wrong_7 : decode cX6_wrong 7 = .ok (.ldc 46, 2) := by decide +kernel
theorem dX6_wrong_9 : decode cX6_wrong 9 = .ok (.goto 19, 3) := by decide +kernel
theorem dX6_wrong_12 : decode cX6_wrong 12 = .ok (.aload_n 0, 1) := by decide +kernel
theorem dX6_wrong_13 : decode cX6_wrong 13 = .ok (.getfield 34, 3) := by decide +kernel
theorem dX6_wrong_16 : decode cX6_wrong 16 = .ok (.iload_n 1, 1) := by decide +kernel
theorem dX6_wrong_17 : decode cX6_wrong 17 = .ok (.iaload, 1) := by decide +kernel
theorem dX6_wrong_18 : decode cX6_wrong 18 = .ok (.ifCond .ne 9, 3) := by decide +kernel
theorem dX6_wrong_21 : decode cX6_wrong 21 = .ok (.ldc_w 326, 3) := by decide +kernel
theorem dX6_wrong_24 : decode cX6_wrong 24 = .ok (.goto 4, 3) := by decide +kernel
theorem dX6_wrong_27 : decode cX6_wrong 27 = .ok (.iconst 0, 1) := by decide +kernel
theorem dX6_wrong_28 : decode cX6_wrong 28 = .ok (.ireturn, 1) := by decide +kernel
theorem dX6_write_0 : decode cX6_write 0 = .ok (.aload_n 0, 1) := by decide +kernel
theorem dX6_write_1 : decode cX6_write 1 = .ok (.iload_n 1, 1) := by decide +kernel
theorem dX6_write_2 : decode cX6_write 2 = .ok (.invokevirtual 208, 3) := by decide +kernel
theorem dX6_write_5 : decode cX6_write 5 = .ok (.istore 4, 2) := by decide +kernel
theorem dX6_write_7 : decode cX6_write 7 = .ok (.iload 4, 2) := by decide +kernel
theorem dX6_write_9 : decode cX6_write 9 = .ok (.ifCond .eq 10, 3) := by decide +kernel
theorem dX6_write_12 : decode cX6_write 12 = .ok (.aload_n 0, 1) := by decide +kernel
theorem dX6_write_13 : decode cX6_write 13 = .ok (.iload 4, 2) := by decide +kernel
theorem dX6_write_15 : decode cX6_write 15 = .ok (.invokevirtual 75, 3) := by decide +kernel
theorem dX6_write_18 : decode cX6_write 18 = .ok (.ireturn, 1) := by decide +kernel
theorem dX6_write_19 : decode cX6_write 19 = .ok (.iload_n 2, 1) := by decide +kernel
theorem dX6_write_20 : decode cX6_write 20 = .ok (.i2l, 1) := by decide +kernel
theorem dX6_write_21 : decode cX6_write 21 = .ok (.lconst 0, 1) := by decide +kernel
theorem dX6_write_22 : decode cX6_write 22 = .ok (.aload_n 0, 1) := by decide +kernel
theorem dX6_write_23 : decode cX6_write 23 = .ok (.getfield 37, 3) := by decide +kernel
theorem dX6_write_26 : decode cX6_write 26 = .ok (.iload_n 1, 1) := by decide +kernel
theorem dX6_write_27 : decode cX6_write 27 = .ok (.iaload, 1) := by decide +kernel
theorem dX6_write_28 : decode cX6_write 28 = .ok (.iconst 1, 1) := by decide +kernel
theorem dX6_write_29 : decode cX6_write 29 = .ok (.isub, 1) := by decide +kernel
theorem dX6_write_30 : decode cX6_write 30 = .ok (.i2l, 1) := by decide +kernel
theorem dX6_write_31 : decode cX6_write 31 = .ok (.invokestatic 49, 3) := by decide +kernel
theorem dX6_write_34 : decode cX6_write 34 = .ok (.ifCond .ne 10, 3) := by decide +kernel
theorem dX6_write_37 : decode cX6_write 37 = .ok (.aload_n 0, 1) := by decide +kernel
theorem dX6_write_38 : decode cX6_write 38 = .ok (.ldc 46, 2) := by decide +kernel
theorem dX6_write_40 : decode cX6_write 40 = .ok (.invokevirtual 75, 3) := by decide +kernel
theorem dX6_write_43 : decode cX6_write 43 = .ok (.ireturn, 1) := by decide +kernel
theorem dX6_write_44 : decode cX6_write 44 = .ok (.aload_n 0, 1) := by decide +kernel
theorem dX6_write_45 : decode cX6_write 45 = .ok (.getfield 40, 3) := by decide +kernel
theorem dX6_write_48 : decode cX6_write 48 = .ok (.bipush 40, 2) := by decide +kernel
theorem dX6_write_50 : decode cX6_write 50 = .ok (.iload_n 1, 1) := by decide +kernel
theorem dX6_write_51 : decode cX6_write 51 = .ok (.imul, 1) := by decide +kernel
theorem dX6_write_52 : decode cX6_write 52 = .ok (.iload_n 2, 1) := by decide +kernel
theorem dX6_write_53 : decode cX6_write 53 = .ok (.iadd, 1) := by decide +kernel
theorem dX6_write_54 : decode cX6_write 54 = .ok (.aload_n 0, 1) := by decide +kernel
theorem dX6_write_55 : decode cX6_write 55 = .ok (.getfield 34, 3) := by decide +kernel
theorem dX6_write_58 : decode cX6_write 58 = .ok (.iload_n 1, 1) := by decide +kernel
theorem dX6_write_59 : decode cX6_write 59 = .ok (.iaload, 1) := by decide +kernel
theorem dX6_write_60 : decode cX6_write 60 = .ok (.iload_n 3, 1) := by decide +kernel
theorem dX6_write_61 : decode cX6_write 61 = .ok (.invokestatic 335, 3) := by decide +kernel
theorem dX6_write_64 : decode cX6_write 64 = .ok (.iastore, 1) := by decide +kernel
theorem dX6_write_65 : decode cX6_write 65 = .ok (.iconst 1, 1) := by decide +kernel
theorem dX6_write_66 : decode cX6_write 66 = .ok (.ireturn, 1) := by decide +kernel
theorem dX6_copy_0 : decode cX6_copy 0 = .ok (.iload_n 1, 1) := by decide +kernel
theorem dX6_copy_1 : decode cX6_copy 1 = .ok (.invokestatic 331, 3) := by decide +kernel
theorem dX6_copy_4 : decode cX6_copy 4 = .ok (.ifCond .eq 10, 3) := by decide +kernel
theorem dX6_copy_7 : decode cX6_copy 7 = .ok (.iload_n 3, 1) := by decide +kernel
theorem dX6_copy_8 : decode cX6_copy 8 = .ok (.invokestatic 331, 3) := by decide +kernel
theorem dX6_copy_11 : decode cX6_copy 11 = .ok (.ifCond .ne 10, 3) := by decide +kernel
theorem dX6_copy_14 : decode cX6_copy 14 = .ok (.aload_n 0, 1) := by decide +kernel
theorem dX6_copy_15 : decode cX6_copy 15 = .ok (.ldc 46, 2) := by decide +kernel
theorem dX6_copy_17 : decode cX6_copy 17 = .ok (.invokevirtual 75, 3) := by decide +kernel
theorem dX6_copy_20 : decode cX6_copy 20 = .ok (.ireturn, 1) := by decide +kernel
theorem dX6_copy_21 : decode cX6_copy 21 = .ok (.aload_n 0, 1) := by decide +kernel
theorem dX6_copy_22 : decode cX6_copy 22 = .ok (.getfield 34, 3) := by decide +kernel
theorem dX6_copy_25 : decode cX6_copy 25 = .ok (.iload_n 1, 1) := by decide +kernel
theorem dX6_copy_26 : decode cX6_copy 26 = .ok (.iaload, 1) := by decide +kernel
theorem dX6_copy_27 : decode cX6_copy 27 = .ok (.ifCond .eq 12, 3) := by decide +kernel
theorem dX6_copy_30 : decode cX6_copy 30 = .ok (.aload_n 0, 1) := by decide +kernel
theorem dX6_copy_31 : decode cX6_copy 31 = .ok (.getfield 34, 3) := by decide +kernel
theorem dX6_copy_34 : decode cX6_copy 34 = .ok (.iload_n 3, 1) := by decide +kernel
theorem dX6_copy_35 : decode cX6_copy 35 = .ok (.iaload, 1) := by decide +kernel
theorem dX6_copy_36 : decode cX6_copy 36 = .ok (.ifCond .ne 11, 3) := by decide +kernel
theorem dX6_copy_39 : decode cX6_copy 39 = .ok (.aload_n 0, 1) := by decide +kernel
theorem dX6_copy_40 : decode cX6_copy 40 = .ok (.ldc_w 326, 3) := by decide +kernel
theorem dX6_copy_43 : decode cX6_copy 43 = .ok (.invokevirtual 75, 3) := by decide +kernel
theorem dX6_copy_46 : decode cX6_copy 46 = .ok (.ireturn, 1) := by decide +kernel
theorem dX6_copy_47 : decode cX6_copy 47 = .ok (.aload_n 0, 1) := by decide +kernel
theorem dX6_copy_48 : decode cX6_copy 48 = .ok (.getfield 34, 3) := by decide +kernel
theorem dX6_copy_51 : decode cX6_copy 51 = .ok (.iload_n 1, 1) := by decide +kernel
theorem dX6_copy_52 : decode cX6_copy 52 = .ok (.iaload, 1) := by decide +kernel
theorem dX6_copy_53 : decode cX6_copy 53 = .ok (.aload_n 0, 1) := by decide +kernel
theorem dX6_copy_54 : decode cX6_copy 54 = .ok (.getfield 34, 3) := by decide +kernel
theorem dX6_copy_57 : decode cX6_copy 57 = .ok (.iload_n 3, 1) := by decide +kernel
theorem dX6_copy_58 : decode cX6_copy 58 = .ok (.iaload, 1) := by decide +kernel
theorem dX6_copy_59 : decode cX6_copy 59 = .ok (.if_icmp .eq 11, 3) := by decide +kernel
theorem dX6_copy_62 : decode cX6_copy 62 = .ok (.aload_n 0, 1) := by decide +kernel
theorem dX6_copy_63 : decode cX6_copy 63 = .ok (.ldc_w 330, 3) := by decide +kernel
theorem dX6_copy_66 : decode cX6_copy 66 = .ok (.invokevirtual 75, 3) := by decide +kernel
theorem dX6_copy_69 : decode cX6_copy 69 = .ok (.ireturn, 1) := by decide +kernel
theorem dX6_copy_70 : decode cX6_copy 70 = .ok (.iload_n 2, 1) := by decide +kernel
theorem dX6_copy_71 : decode cX6_copy 71 = .ok (.ifCond .lt 40, 3) := by decide +kernel
theorem dX6_copy_74 : decode cX6_copy 74 = .ok (.iload 4, 2) := by decide +kernel
theorem dX6_copy_76 : decode cX6_copy 76 = .ok (.ifCond .lt 35, 3) := by decide +kernel
theorem dX6_copy_79 : decode cX6_copy 79 = .ok (.iload 5, 2) := by decide +kernel
theorem dX6_copy_81 : decode cX6_copy 81 = .ok (.ifCond .lt 30, 3) := by decide +kernel
theorem dX6_copy_84 : decode cX6_copy 84 = .ok (.iload 5, 2) := by decide +kernel
theorem dX6_copy_86 : decode cX6_copy 86 = .ok (.aload_n 0, 1) := by decide +kernel
theorem dX6_copy_87 : decode cX6_copy 87 = .ok (.getfield 37, 3) := by decide +kernel
theorem dX6_copy_90 : decode cX6_copy 90 = .ok (.iload_n 1, 1) := by decide +kernel
theorem dX6_copy_91 : decode cX6_copy 91 = .ok (.iaload, 1) := by decide +kernel
theorem dX6_copy_92 : decode cX6_copy 92 = .ok (.iload_n 2, 1) := by decide +kernel
theorem dX6_copy_93 : decode cX6_copy 93 = .ok (.isub, 1) := by decide +kernel
theorem dX6_copy_94 : decode cX6_copy 94 = .ok (.if_icmp .gt 17, 3) := by decide +kernel
theorem dX6_copy_97 : decode cX6_copy 97 = .ok (.iload 5, 2) := by decide +kernel
theorem dX6_copy_99 : decode cX6_copy 99 = .ok (.aload_n 0, 1) := by decide +kernel
theorem dX6_copy_100 : decode cX6_copy 100 = .ok (.getfield 37, 3) := by decide +kernel
theorem dX6_copy_103 : decode cX6_copy 103 = .ok (.iload_n 3, 1) := by decide +kernel
theorem dX6_copy_104 : decode cX6_copy 104 = .ok (.iaload, 1) := by decide +kernel
theorem dX6_copy_105 : decode cX6_copy 105 = .ok (.iload 4, 2) := by decide +kernel
theorem dX6_copy_107 : decode cX6_copy 107 = .ok (.isub, 1) := by decide +kernel
theorem dX6_copy_108 : decode cX6_copy 108 = .ok (.if_icmp .le 10, 3) := by decide +kernel
theorem dX6_copy_111 : decode cX6_copy 111 = .ok (.aload_n 0, 1) := by decide +kernel
theorem dX6_copy_112 : decode cX6_copy 112 = .ok (.ldc 46, 2) := by decide +kernel
theorem dX6_copy_114 : decode cX6_copy 114 = .ok (.invokevirtual 75, 3) := by decide +kernel
theorem dX6_copy_117 : decode cX6_copy 117 = .ok (.ireturn, 1) := by decide +kernel
theorem dX6_copy_118 : decode cX6_copy 118 = .ok (.iconst 0, 1) := by decide +kernel
theorem dX6_copy_119 : decode cX6_copy 119 = .ok (.istore 6, 2) := by decide +kernel
theorem dX6_copy_121 : decode cX6_copy 121 = .ok (.iload 6, 2) := by decide +kernel
theorem dX6_copy_123 : decode cX6_copy 123 = .ok (.iload 5, 2) := by decide +kernel
theorem dX6_copy_125 : decode cX6_copy 125 = .ok (.if_icmp .ge 30, 3) := by decide +kernel
theorem dX6_copy_128 : decode cX6_copy 128 = .ok (.aload_n 0, 1) := by decide +kernel
theorem dX6_copy_129 : decode cX6_copy 129 = .ok (.getfield 43, 3) := by decide +kernel
theorem dX6_copy_132 : decode cX6_copy 132 = .ok (.iload 6, 2) := by decide +kernel
theorem dX6_copy_134 : decode cX6_copy 134 = .ok (.aload_n 0, 1) := by decide +kernel
theorem dX6_copy_135 : decode cX6_copy 135 = .ok (.getfield 40, 3) := by decide +kernel
theorem dX6_copy_138 : decode cX6_copy 138 = .ok (.bipush 40, 2) := by decide +kernel
theorem dX6_copy_140 : decode cX6_copy 140 = .ok (.iload_n 1, 1) := by decide +kernel
theorem dX6_copy_141 : decode cX6_copy 141 = .ok (.imul, 1) := by decide +kernel
theorem dX6_copy_142 : decode cX6_copy 142 = .ok (.iload_n 2, 1) := by decide +kernel
theorem dX6_copy_143 : decode cX6_copy 143 = .ok (.iadd, 1) := by decide +kernel
theorem dX6_copy_144 : decode cX6_copy 144 = .ok (.iload 6, 2) := by decide +kernel
theorem dX6_copy_146 : decode cX6_copy 146 = .ok (.iadd, 1) := by decide +kernel
theorem dX6_copy_147 : decode cX6_copy 147 = .ok (.iaload, 1) := by decide +kernel
theorem dX6_copy_148 : decode cX6_copy 148 = .ok (.iastore, 1) := by decide +kernel
theorem dX6_copy_149 : decode cX6_copy 149 = .ok (.iinc 6 1, 3) := by decide +kernel
theorem dX6_copy_152 : decode cX6_copy 152 = .ok (.goto (-31), 3) := by decide +kernel
theorem dX6_copy_155 : decode cX6_copy 155 = .ok (.iconst 0, 1) := by decide +kernel
theorem dX6_copy_156 : decode cX6_copy 156 = .ok (.istore 6, 2) := by decide +kernel
theorem dX6_copy_158 : decode cX6_copy 158 = .ok (.iload 6, 2) := by decide +kernel
theorem dX6_copy_160 : decode cX6_copy 160 = .ok (.iload 5, 2) := by decide +kernel
theorem dX6_copy_162 : decode cX6_copy 162 = .ok (.if_icmp .ge 31, 3) := by decide +kernel
theorem dX6_copy_165 : decode cX6_copy 165 = .ok (.aload_n 0, 1) := by decide +kernel
theorem dX6_copy_166 : decode cX6_copy 166 = .ok (.getfield 40, 3) := by decide +kernel
theorem dX6_copy_169 : decode cX6_copy 169 = .ok (.bipush 40, 2) := by decide +kernel
theorem dX6_copy_171 : decode cX6_copy 171 = .ok (.iload_n 3, 1) := by decide +kernel
theorem dX6_copy_172 : decode cX6_copy 172 = .ok (.imul, 1) := by decide +kernel
theorem dX6_copy_173 : decode cX6_copy 173 = .ok (.iload 4, 2) := by decide +kernel
theorem dX6_copy_175 : decode cX6_copy 175 = .ok (.iadd, 1) := by decide +kernel
theorem dX6_copy_176 : decode cX6_copy 176 = .ok (.iload 6, 2) := by decide +kernel
theorem dX6_copy_178 : decode cX6_copy 178 = .ok (.iadd, 1) := by decide +kernel
theorem dX6_copy_179 : decode cX6_copy 179 = .ok (.aload_n 0, 1) := by decide +kernel
theorem dX6_copy_180 : decode cX6_copy 180 = .ok (.getfield 43, 3) := by decide +kernel
theorem dX6_copy_183 : decode cX6_copy 183 = .ok (.iload 6, 2) := by decide +kernel
theorem dX6_copy_185 : decode cX6_copy 185 = .ok (.iaload, 1) := by decide +kernel
theorem dX6_copy_186 : decode cX6_copy 186 = .ok (.iastore, 1) := by decide +kernel
theorem dX6_copy_187 : decode cX6_copy 187 = .ok (.iinc 6 1, 3) := by decide +kernel
theorem dX6_copy_190 : decode cX6_copy 190 = .ok (.goto (-32), 3) := by decide +kernel
theorem dX6_copy_193 : decode cX6_copy 193 = .ok (.iload 5, 2) := by decide +kernel
theorem dX6_copy_195 : decode cX6_copy 195 = .ok (.ireturn, 1) := by decide +kernel
theorem dX6_load_0 : decode cX6_load 0 = .ok (.aload_n 0, 1) := by decide +kernel
theorem dX6_load_1 : decode cX6_load 1 = .ok (.iload_n 1, 1) := by decide +kernel
theorem dX6_load_2 : decode cX6_load 2 = .ok (.invokevirtual 208, 3) := by decide +kernel
theorem dX6_load_5 : decode cX6_load 5 = .ok (.istore_n 2, 1) := by decide +kernel
theorem dX6_load_6 : decode cX6_load 6 = .ok (.iload_n 2, 1) := by decide +kernel
theorem dX6_load_7 : decode cX6_load 7 = .ok (.ifCond .eq 9, 3) := by decide +kernel
theorem dX6_load_10 : decode cX6_load 10 = .ok (.aload_n 0, 1) := by decide +kernel
theorem dX6_load_11 : decode cX6_load 11 = .ok (.iload_n 2, 1) := by decide +kernel
theorem dX6_load_12 : decode cX6_load 12 = .ok (.invokevirtual 75, 3) := by decide +kernel
theorem dX6_load_15 : decode cX6_load 15 = .ok (.ireturn, 1) := by decide +kernel
theorem dX6_load_16 : decode cX6_load 16 = .ok (.iconst 0, 1) := by decide +kernel
theorem dX6_load_17 : decode cX6_load 17 = .ok (.istore_n 3, 1) := by decide +kernel
theorem dX6_load_18 : decode cX6_load 18 = .ok (.iload_n 3, 1) := by decide +kernel
theorem dX6_load_19 : decode cX6_load 19 = .ok (.aload_n 0, 1) := by decide +kernel
theorem dX6_load_20 : decode cX6_load 20 = .ok (.getfield 37, 3) := by decide +kernel
theorem dX6_load_23 : decode cX6_load 23 = .ok (.iload_n 1, 1) := by decide +kernel
theorem dX6_load_24 : decode cX6_load 24 = .ok (.iaload, 1) := by decide +kernel
theorem dX6_load_25 : decode cX6_load 25 = .ok (.if_icmp .ge 51, 3) := by decide +kernel
theorem dX6_load_28 : decode cX6_load 28 = .ok (.iload_n 3, 1) := by decide +kernel
theorem dX6_load_29 : decode cX6_load 29 = .ok (.bipush 8, 2) := by decide +kernel
theorem dX6_load_31 : decode cX6_load 31 = .ok (.if_icmp .ge 45, 3) := by decide +kernel
theorem dX6_load_34 : decode cX6_load 34 = .ok (.aload_n 0, 1) := by decide +kernel
theorem dX6_load_35 : decode cX6_load 35 = .ok (.getfield 40, 3) := by decide +kernel
theorem dX6_load_38 : decode cX6_load 38 = .ok (.bipush 40, 2) := by decide +kernel
theorem dX6_load_40 : decode cX6_load 40 = .ok (.iload_n 1, 1) := by decide +kernel
theorem dX6_load_41 : decode cX6_load 41 = .ok (.imul, 1) := by decide +kernel
theorem dX6_load_42 : decode cX6_load 42 = .ok (.iload_n 3, 1) := by decide +kernel
theorem dX6_load_43 : decode cX6_load 43 = .ok (.iadd, 1) := by decide +kernel
theorem dX6_load_44 : decode cX6_load 44 = .ok (.iaload, 1) := by decide +kernel
theorem dX6_load_45 : decode cX6_load 45 = .ok (.invokestatic 82, 3) := by decide +kernel
theorem dX6_load_48 : decode cX6_load 48 = .ok (.ifCond .eq 28, 3) := by decide +kernel
theorem dX6_load_51 : decode cX6_load 51 = .ok (.aload_n 0, 1) := by decide +kernel
theorem dX6_load_52 : decode cX6_load 52 = .ok (.getfield 7, 3) := by decide +kernel
theorem dX6_load_55 : decode cX6_load 55 = .ok (.iconst 4, 1) := by decide +kernel
theorem dX6_load_56 : decode cX6_load 56 = .ok (.iload_n 3, 1) := by decide +kernel
theorem dX6_load_57 : decode cX6_load 57 = .ok (.iadd, 1) := by decide +kernel
theorem dX6_load_58 : decode cX6_load 58 = .ok (.aload_n 0, 1) := by decide +kernel
theorem dX6_load_59 : decode cX6_load 59 = .ok (.getfield 40, 3) := by decide +kernel
theorem dX6_load_62 : decode cX6_load 62 = .ok (.bipush 40, 2) := by decide +kernel
theorem dX6_load_64 : decode cX6_load 64 = .ok (.iload_n 1, 1) := by decide +kernel
theorem dX6_load_65 : decode cX6_load 65 = .ok (.imul, 1) := by decide +kernel
theorem dX6_load_66 : decode cX6_load 66 = .ok (.iload_n 3, 1) := by decide +kernel
theorem dX6_load_67 : decode cX6_load 67 = .ok (.iadd, 1) := by decide +kernel
theorem dX6_load_68 : decode cX6_load 68 = .ok (.iaload, 1) := by decide +kernel
theorem dX6_load_69 : decode cX6_load 69 = .ok (.iastore, 1) := by decide +kernel
theorem dX6_load_70 : decode cX6_load 70 = .ok (.iinc 3 1, 3) := by decide +kernel
theorem dX6_load_73 : decode cX6_load 73 = .ok (.goto (-55), 3) := by decide +kernel
theorem dX6_load_76 : decode cX6_load 76 = .ok (.iload_n 3, 1) := by decide +kernel
theorem dX6_load_77 : decode cX6_load 77 = .ok (.ireturn, 1) := by decide +kernel
theorem dX6_judge_0 : decode cX6_judge 0 = .ok (.aload_n 0, 1) := by decide +kernel
theorem dX6_judge_1 : decode cX6_judge 1 = .ok (.iload_n 1, 1) := by decide +kernel
theorem dX6_judge_2 : decode cX6_judge 2 = .ok (.invokevirtual 208, 3) := by decide +kernel
theorem dX6_judge_5 : decode cX6_judge 5 = .ok (.istore_n 2, 1) := by decide +kernel
theorem dX6_judge_6 : decode cX6_judge 6 = .ok (.iload_n 2, 1) := by decide +kernel
theorem dX6_judge_7 : decode cX6_judge 7 = .ok (.ifCond .eq 9, 3) := by decide +kernel
theorem dX6_judge_10 : decode cX6_judge 10 = .ok (.aload_n 0, 1) := by decide +kernel
theorem dX6_judge_11 : decode cX6_judge 11 = .ok (.iload_n 2, 1) := by decide +kernel
theorem dX6_judge_12 : decode cX6_judge 12 = .ok (.invokevirtual 75, 3) := by decide +kernel
theorem dX6_judge_15 : decode cX6_judge 15 = .ok (.ireturn, 1) := by decide +kernel
theorem dX6_judge_16 : decode cX6_judge 16 = .ok (.iconst 0, 1) := by decide +kernel
theorem dX6_judge_17 : decode cX6_judge 17 = .ok (.istore_n 3, 1) := by decide +kernel
theorem dX6_judge_18 : decode cX6_judge 18 = .ok (.iload_n 3, 1) := by decide +kernel
theorem dX6_judge_19 : decode cX6_judge 19 = .ok (.aload_n 0, 1) := by decide +kernel
theorem dX6_judge_20 : decode cX6_judge 20 = .ok (.getfield 37, 3) := by decide +kernel
theorem dX6_judge_23 : decode cX6_judge 23 = .ok (.iload_n 1, 1) := by decide +kernel
theorem dX6_judge_24 : decode cX6_judge 24 = .ok (.iaload, 1) := by decide +kernel
theorem dX6_judge_25 : decode cX6_judge 25 = .ok (.if_icmp .ge 42, 3) := by decide +kernel
theorem dX6_judge_28 : decode cX6_judge 28 = .ok (.iload_n 3, 1) := by decide +kernel
theorem dX6_judge_29 : decode cX6_judge 29 = .ok (.bipush 12, 2) := by decide +kernel
theorem dX6_judge_31 : decode cX6_judge 31 = .ok (.if_icmp .ge 26, 3) := by decide +kernel
theorem dX6_judge_34 : decode cX6_judge 34 = .ok (.aload_n 0, 1) := by decide +kernel
theorem dX6_judge_35 : decode cX6_judge 35 = .ok (.getfield 40, 3) := by decide +kernel
theorem dX6_judge_38 : decode cX6_judge 38 = .ok (.bipush 40, 2) := by decide +kernel
theorem dX6_judge_40 : decode cX6_judge 40 = .ok (.iload_n 1, 1) := by decide +kernel
theorem dX6_judge_41 : decode cX6_judge 41 = .ok (.imul, 1) := by decide +kernel
theorem dX6_judge_42 : decode cX6_judge 42 = .ok (.iload_n 3, 1) := by decide +kernel
theorem dX6_judge_43 : decode cX6_judge 43 = .ok (.iadd, 1) := by decide +kernel
theorem dX6_judge_44 : decode cX6_judge 44 = .ok (.iaload, 1) := by decide +kernel
theorem dX6_judge_45 : decode cX6_judge 45 = .ok (.aload_n 0, 1) := by decide +kernel
theorem dX6_judge_46 : decode cX6_judge 46 = .ok (.getfield 7, 3) := by decide +kernel
theorem dX6_judge_49 : decode cX6_judge 49 = .ok (.bipush 12, 2) := by decide +kernel
theorem dX6_judge_51 : decode cX6_judge 51 = .ok (.iload_n 3, 1) := by decide +kernel
theorem dX6_judge_52 : decode cX6_judge 52 = .ok (.iadd, 1) := by decide +kernel
theorem dX6_judge_53 : decode cX6_judge 53 = .ok (.iaload, 1) := by decide +kernel
theorem dX6_judge_54 : decode cX6_judge 54 = .ok (.if_icmp .eq 7, 3) := by decide +kernel
theorem dX6_judge_57 : decode cX6_judge 57 = .ok (.iconst 1, 1) := by decide +kernel
theorem dX6_judge_58 : decode cX6_judge 58 = .ok (.iload_n 3, 1) := by decide +kernel
theorem dX6_judge_59 : decode cX6_judge 59 = .ok (.iadd, 1) := by decide +kernel
theorem dX6_judge_60 : decode cX6_judge 60 = .ok (.ireturn, 1) := by decide +kernel
theorem dX6_judge_61 : decode cX6_judge 61 = .ok (.iinc 3 1, 3) := by decide +kernel
theorem dX6_judge_64 : decode cX6_judge 64 = .ok (.goto (-46), 3) := by decide +kernel
theorem dX6_judge_67 : decode cX6_judge 67 = .ok (.iconst 0, 1) := by decide +kernel
theorem dX6_judge_68 : decode cX6_judge 68 = .ok (.ireturn, 1) := by decide +kernel
theorem dX6_image_0 : decode cX6_image 0 = .ok (.iconst 0, 1) := by decide +kernel
theorem dX6_image_1 : decode cX6_image 1 = .ok (.istore_n 1, 1) := by decide +kernel
theorem dX6_image_2 : decode cX6_image 2 = .ok (.iload_n 1, 1) := by decide +kernel
theorem dX6_image_3 : decode cX6_image 3 = .ok (.bipush 74, 2) := by decide +kernel
theorem dX6_image_5 : decode cX6_image 5 = .ok (.if_icmp .ge 21, 3) := by decide +kernel
theorem dX6_image_8 : decode cX6_image 8 = .ok (.aload_n 0, 1) := by decide +kernel
theorem dX6_image_9 : decode cX6_image 9 = .ok (.getfield 13, 3) := by decide +kernel
theorem dX6_image_12 : decode cX6_image 12 = .ok (.iload_n 1, 1) := by decide +kernel
theorem dX6_image_13 : decode cX6_image 13 = .ok (.aload_n 0, 1) := by decide +kernel
theorem dX6_image_14 : decode cX6_image 14 = .ok (.getfield 7, 3) := by decide +kernel
theorem dX6_image_17 : decode cX6_image 17 = .ok (.iload_n 1, 1) := by decide +kernel
theorem dX6_image_18 : decode cX6_image 18 = .ok (.iaload, 1) := by decide +kernel
theorem dX6_image_19 : decode cX6_image 19 = .ok (.iastore, 1) := by decide +kernel
theorem dX6_image_20 : decode cX6_image 20 = .ok (.iinc 1 1, 3) := by decide +kernel
theorem dX6_image_23 : decode cX6_image 23 = .ok (.goto (-21), 3) := by decide +kernel
theorem dX6_image_26 : decode cX6_image 26 = .ok (.aload_n 0, 1) := by decide +kernel
theorem dX6_image_27 : decode cX6_image 27 = .ok (.iconst 1, 1) := by decide +kernel
theorem dX6_image_28 : decode cX6_image 28 = .ok (.putfield 338, 3) := by decide +kernel
theorem dX6_image_31 : decode cX6_image 31 = .ok (.iconst 1, 1) := by decide +kernel
theorem dX6_image_32 : decode cX6_image 32 = .ok (.ireturn, 1) := by decide +kernel
theorem dX6_undo_0 : decode cX6_undo 0 = .ok (.aload_n 0, 1) := by decide +kernel
theorem dX6_undo_1 : decode cX6_undo 1 = .ok (.getfield 338, 3) := by decide +kernel
theorem dX6_undo_4 : decode cX6_undo 4 = .ok (.ifCond .ne 10, 3) := by decide +kernel
theorem dX6_undo_7 : decode cX6_undo 7 = .ok (.aload_n 0, 1) := by decide +kernel
theorem dX6_undo_8 : decode cX6_undo 8 = .ok (.ldc 169, 2) := by decide +kernel
theorem dX6_undo_10 : decode cX6_undo 10 = .ok (.invokevirtual 75, 3) := by decide +kernel
theorem dX6_undo_13 : decode cX6_undo 13 = .ok (.ireturn, 1) := by decide +kernel
theorem dX6_undo_14 : decode cX6_undo 14 = .ok (.iconst 0, 1) := by decide +kernel
theorem dX6_undo_15 : decode cX6_undo 15 = .ok (.istore_n 1, 1) := by decide +kernel
theorem dX6_undo_16 : decode cX6_undo 16 = .ok (.iload_n 1, 1) := by decide +kernel
theorem dX6_undo_17 : decode cX6_undo 17 = .ok (.bipush 74, 2) := by decide +kernel
theorem dX6_undo_19 : decode cX6_undo 19 = .ok (.if_icmp .ge 21, 3) := by decide +kernel
theorem dX6_undo_22 : decode cX6_undo 22 = .ok (.aload_n 0, 1) := by decide +kernel
theorem dX6_undo_23 : decode cX6_undo 23 = .ok (.getfield 7, 3) := by decide +kernel
theorem dX6_undo_26 : decode cX6_undo 26 = .ok (.iload_n 1, 1) := by decide +kernel
theorem dX6_undo_27 : decode cX6_undo 27 = .ok (.aload_n 0, 1) := by decide +kernel
theorem dX6_undo_28 : decode cX6_undo 28 = .ok (.getfield 13, 3) := by decide +kernel
theorem dX6_undo_31 : decode cX6_undo 31 = .ok (.iload_n 1, 1) := by decide +kernel
theorem dX6_undo_32 : decode cX6_undo 32 = .ok (.iaload, 1) := by decide +kernel
theorem dX6_undo_33 : decode cX6_undo 33 = .ok (.iastore, 1) := by decide +kernel
theorem dX6_undo_34 : decode cX6_undo 34 = .ok (.iinc 1 1, 3) := by decide +kernel
theorem dX6_undo_37 : decode cX6_undo 37 = .ok (.goto (-21), 3) := by decide +kernel
theorem dX6_undo_40 : decode cX6_undo 40 = .ok (.aload_n 0, 1) := by decide +kernel
theorem dX6_undo_41 : decode cX6_undo 41 = .ok (.getfield 7, 3) := by decide +kernel
theorem dX6_undo_44 : decode cX6_undo 44 = .ok (.iconst 0, 1) := by decide +kernel
theorem dX6_undo_45 : decode cX6_undo 45 = .ok (.iaload, 1) := by decide +kernel
theorem dX6_undo_46 : decode cX6_undo 46 = .ok (.ireturn, 1) := by decide +kernel
theorem dX6_tear_0 : decode cX6_tear 0 = .ok (.aload_n 0, 1) := by decide +kernel
theorem dX6_tear_1 : decode cX6_tear 1 = .ok (.getfield 338, 3) := by decide +kernel
theorem dX6_tear_4 : decode cX6_tear 4 = .ok (.ifCond .eq 7, 3) := by decide +kernel
theorem dX6_tear_7 : decode cX6_tear 7 = .ok (.iconst 1, 1) := by decide +kernel
theorem dX6_tear_8 : decode cX6_tear 8 = .ok (.goto 4, 3) := by decide +kernel
theorem dX6_tear_11 : decode cX6_tear 11 = .ok (.iconst 0, 1) := by decide +kernel
theorem dX6_tear_12 : decode cX6_tear 12 = .ok (.istore_n 1, 1) := by decide +kernel
theorem dX6_tear_13 : decode cX6_tear 13 = .ok (.aload_n 0, 1) := by decide +kernel
theorem dX6_tear_14 : decode cX6_tear 14 = .ok (.iconst 0, 1) := by decide +kernel
theorem dX6_tear_15 : decode cX6_tear 15 = .ok (.putfield 338, 3) := by decide +kernel
theorem dX6_tear_18 : decode cX6_tear 18 = .ok (.iload_n 1, 1) := by decide +kernel
theorem dX6_tear_19 : decode cX6_tear 19 = .ok (.ireturn, 1) := by decide +kernel
theorem dX6_heldSpots_0 : decode cX6_heldSpots 0 = .ok (.iconst 0, 1) := by decide +kernel
theorem dX6_heldSpots_1 : decode cX6_heldSpots 1 = .ok (.istore_n 1, 1) := by decide +kernel
theorem dX6_heldSpots_2 : decode cX6_heldSpots 2 = .ok (.iconst 0, 1) := by decide +kernel
theorem dX6_heldSpots_3 : decode cX6_heldSpots 3 = .ok (.istore_n 2, 1) := by decide +kernel
theorem dX6_heldSpots_4 : decode cX6_heldSpots 4 = .ok (.iload_n 2, 1) := by decide +kernel
theorem dX6_heldSpots_5 : decode cX6_heldSpots 5 = .ok (.bipush 10, 2) := by decide +kernel
theorem dX6_heldSpots_7 : decode cX6_heldSpots 7 = .ok (.if_icmp .ge 29, 3) := by decide +kernel
theorem dX6_heldSpots_10 : decode cX6_heldSpots 10 = .ok (.iload_n 1, 1) := by decide +kernel
theorem dX6_heldSpots_11 : decode cX6_heldSpots 11 = .ok (.aload_n 0, 1) := by decide +kernel
theorem dX6_heldSpots_12 : decode cX6_heldSpots 12 = .ok (.getfield 7, 3) := by decide +kernel
theorem dX6_heldSpots_15 : decode cX6_heldSpots 15 = .ok (.bipush 64, 2) := by decide +kernel
theorem dX6_heldSpots_17 : decode cX6_heldSpots 17 = .ok (.iload_n 2, 1) := by decide +kernel
theorem dX6_heldSpots_18 : decode cX6_heldSpots 18 = .ok (.iadd, 1) := by decide +kernel
theorem dX6_heldSpots_19 : decode cX6_heldSpots 19 = .ok (.iaload, 1) := by decide +kernel
theorem dX6_heldSpots_20 : decode cX6_heldSpots 20 = .ok (.ifCond .lt 7, 3) := by decide +kernel
theorem dX6_heldSpots_23 : decode cX6_heldSpots 23 = .ok (.iconst 1, 1) := by decide +kernel
theorem dX6_heldSpots_24 : decode cX6_heldSpots 24 = .ok (.goto 4, 3) := by decide +kernel
theorem dX6_heldSpots_27 : decode cX6_heldSpots 27 = .ok (.iconst 0, 1) := by decide +kernel
theorem dX6_heldSpots_28 : decode cX6_heldSpots 28 = .ok (.iadd, 1) := by decide +kernel
theorem dX6_heldSpots_29 : decode cX6_heldSpots 29 = .ok (.istore_n 1, 1) := by decide +kernel
theorem dX6_heldSpots_30 : decode cX6_heldSpots 30 = .ok (.iinc 2 1, 3) := by decide +kernel
theorem dX6_heldSpots_33 : decode cX6_heldSpots 33 = .ok (.goto (-29), 3) := by decide +kernel
theorem dX6_heldSpots_36 : decode cX6_heldSpots 36 = .ok (.iload_n 1, 1) := by decide +kernel
theorem dX6_heldSpots_37 : decode cX6_heldSpots 37 = .ok (.ireturn, 1) := by decide +kernel
theorem dX6_count_0 : decode cX6_count 0 = .ok (.iload_n 1, 1) := by decide +kernel
theorem dX6_count_1 : decode cX6_count 1 = .ok (.tableswitch 96 0 7 #[47, 54, 61, 69, 74, 79, 84, 91], 47) := by decide +kernel
theorem dX6_count_48 : decode cX6_count 48 = .ok (.aload_n 0, 1) := by decide +kernel
theorem dX6_count_49 : decode cX6_count 49 = .ok (.getfield 7, 3) := by decide +kernel
theorem dX6_count_52 : decode cX6_count 52 = .ok (.iconst 0, 1) := by decide +kernel
theorem dX6_count_53 : decode cX6_count 53 = .ok (.iaload, 1) := by decide +kernel
theorem dX6_count_54 : decode cX6_count 54 = .ok (.ireturn, 1) := by decide +kernel
theorem dX6_count_55 : decode cX6_count 55 = .ok (.aload_n 0, 1) := by decide +kernel
theorem dX6_count_56 : decode cX6_count 56 = .ok (.getfield 7, 3) := by decide +kernel
theorem dX6_count_59 : decode cX6_count 59 = .ok (.iconst 1, 1) := by decide +kernel
theorem dX6_count_60 : decode cX6_count 60 = .ok (.iaload, 1) := by decide +kernel
theorem dX6_count_61 : decode cX6_count 61 = .ok (.ireturn, 1) := by decide +kernel
theorem dX6_count_62 : decode cX6_count 62 = .ok (.aload_n 0, 1) := by decide +kernel
theorem dX6_count_63 : decode cX6_count 63 = .ok (.invokevirtual 144, 3) := by decide +kernel
theorem dX6_count_66 : decode cX6_count 66 = .ok (.invokestatic 190, 3) := by decide +kernel
theorem dX6_count_69 : decode cX6_count 69 = .ok (.ireturn, 1) := by decide +kernel
theorem dX6_count_70 : decode cX6_count 70 = .ok (.aload_n 0, 1) := by decide +kernel
theorem dX6_count_71 : decode cX6_count 71 = .ok (.invokevirtual 147, 3) := by decide +kernel
theorem dX6_count_74 : decode cX6_count 74 = .ok (.ireturn, 1) := by decide +kernel
theorem dX6_count_75 : decode cX6_count 75 = .ok (.aload_n 0, 1) := by decide +kernel
theorem dX6_count_76 : decode cX6_count 76 = .ok (.invokevirtual 153, 3) := by decide +kernel
theorem dX6_count_79 : decode cX6_count 79 = .ok (.ireturn, 1) := by decide +kernel
theorem dX6_count_80 : decode cX6_count 80 = .ok (.aload_n 0, 1) := by decide +kernel
theorem dX6_count_81 : decode cX6_count 81 = .ok (.getfield 222, 3) := by decide +kernel
theorem dX6_count_84 : decode cX6_count 84 = .ok (.ireturn, 1) := by decide +kernel
theorem dX6_count_85 : decode cX6_count 85 = .ok (.aload_n 0, 1) := by decide +kernel
theorem dX6_count_86 : decode cX6_count 86 = .ok (.getfield 7, 3) := by decide +kernel
theorem dX6_count_89 : decode cX6_count 89 = .ok (.iconst 3, 1) := by decide +kernel
theorem dX6_count_90 : decode cX6_count 90 = .ok (.iaload, 1) := by decide +kernel
theorem dX6_count_91 : decode cX6_count 91 = .ok (.ireturn, 1) := by decide +kernel
theorem dX6_count_92 : decode cX6_count 92 = .ok (.aload_n 0, 1) := by decide +kernel
theorem dX6_count_93 : decode cX6_count 93 = .ok (.invokevirtual 341, 3) := by decide +kernel
theorem dX6_count_96 : decode cX6_count 96 = .ok (.ireturn, 1) := by decide +kernel
theorem dX6_count_97 : decode cX6_count 97 = .ok (.aload_n 0, 1) := by decide +kernel
theorem dX6_count_98 : decode cX6_count 98 = .ok (.ldc 46, 2) := by decide +kernel
theorem dX6_count_100 : decode cX6_count 100 = .ok (.invokevirtual 75, 3) := by decide +kernel
theorem dX6_count_103 : decode cX6_count 103 = .ok (.ireturn, 1) := by decide +kernel
theorem dX6_status_0 : decode cX6_status 0 = .ok (.iload_n 1, 1) := by decide +kernel
theorem dX6_status_1 : decode cX6_status 1 = .ok (.i2l, 1) := by decide +kernel
theorem dX6_status_2 : decode cX6_status 2 = .ok (.ldc2_w 344, 3) := by decide +kernel
theorem dX6_status_5 : decode cX6_status 5 = .ok (.ldc2_w 57, 3) := by decide +kernel
theorem dX6_status_8 : decode cX6_status 8 = .ok (.invokestatic 49, 3) := by decide +kernel
theorem dX6_status_11 : decode cX6_status 11 = .ok (.ifCond .ne 10, 3) := by decide +kernel
theorem dX6_status_14 : decode cX6_status 14 = .ok (.aload_n 0, 1) := by decide +kernel
theorem dX6_status_15 : decode cX6_status 15 = .ok (.ldc 46, 2) := by decide +kernel
theorem dX6_status_17 : decode cX6_status 17 = .ok (.invokevirtual 75, 3) := by decide +kernel
theorem dX6_status_20 : decode cX6_status 20 = .ok (.ireturn, 1) := by decide +kernel
theorem dX6_status_21 : decode cX6_status 21 = .ok (.iconst 0, 1) := by decide +kernel
theorem dX6_status_22 : decode cX6_status 22 = .ok (.istore_n 2, 1) := by decide +kernel
theorem dX6_status_23 : decode cX6_status 23 = .ok (.iconst 0, 1) := by decide +kernel
theorem dX6_status_24 : decode cX6_status 24 = .ok (.istore_n 3, 1) := by decide +kernel
theorem dX6_status_25 : decode cX6_status 25 = .ok (.iload_n 3, 1) := by decide +kernel
theorem dX6_status_26 : decode cX6_status 26 = .ok (.bipush 7, 2) := by decide +kernel
end
section
theorem dX6_status_28 : decode cX6_status 28 = .ok (.if_icmp .ge 31, 3) := by decide +kernel
theorem dX6_status_31 : decode cX6_status 31 = .ok (.iload_n 2, 1) := by decide +kernel
theorem dX6_status_32 : decode cX6_status 32 = .ok (.iload_n 1, 1) := by decide +kernel
theorem dX6_status_33 : decode cX6_status 33 = .ok (.ifCond .lt 8, 3) := by decide +kernel
theorem dX6_status_36 : decode cX6_status 36 = .ok (.iload_n 3, 1) := by decide +kernel
theorem dX6_status_37 : decode cX6_status 37 = .ok (.iload_n 1, 1) := by decide +kernel
theorem dX6_status_38 : decode cX6_status 38 = .ok (.if_icmp .ne 12, 3) := by decide +kernel
theorem dX6_status_41 : decode cX6_status 41 = .ok (.aload_n 0, 1) := by decide +kernel
theorem dX6_status_42 : decode cX6_status 42 = .ok (.getfield 22, 3) := by decide +kernel
theorem dX6_status_45 : decode cX6_status 45 = .ok (.iload_n 3, 1) := by decide +kernel
theorem dX6_status_46 : decode cX6_status 46 = .ok (.iaload, 1) := by decide +kernel
theorem dX6_status_47 : decode cX6_status 47 = .ok (.goto 4, 3) := by decide +kernel
theorem dX6_status_50 : decode cX6_status 50 = .ok (.iconst 0, 1) := by decide +kernel
theorem dX6_status_51 : decode cX6_status 51 = .ok (.iadd, 1) := by decide +kernel
theorem dX6_status_52 : decode cX6_status 52 = .ok (.istore_n 2, 1) := by decide +kernel
theorem dX6_status_53 : decode cX6_status 53 = .ok (.iinc 3 1, 3) := by decide +kernel
theorem dX6_status_56 : decode cX6_status 56 = .ok (.goto (-31), 3) := by decide +kernel
theorem dX6_status_59 : decode cX6_status 59 = .ok (.iload_n 2, 1) := by decide +kernel
theorem dX6_status_60 : decode cX6_status 60 = .ok (.ireturn, 1) := by decide +kernel
theorem dJ6_numberOfTrailingZeros_0f7a4_0 : decode cJ6_numberOfTrailingZeros_0f7a4 0 = .ok (.iload_n 0, 1) := by decide +kernel
theorem dJ6_numberOfTrailingZeros_0f7a4_1 : decode cJ6_numberOfTrailingZeros_0f7a4 1 = .ok (.iconst (-1), 1) := by decide +kernel
theorem dJ6_numberOfTrailingZeros_0f7a4_2 : decode cJ6_numberOfTrailingZeros_0f7a4 2 = .ok (.ixor, 1) := by decide +kernel
theorem dJ6_numberOfTrailingZeros_0f7a4_3 : decode cJ6_numberOfTrailingZeros_0f7a4 3 = .ok (.iload_n 0, 1) := by decide +kernel
theorem dJ6_numberOfTrailingZeros_0f7a4_4 : decode cJ6_numberOfTrailingZeros_0f7a4 4 = .ok (.iconst 1, 1) := by decide +kernel
theorem dJ6_numberOfTrailingZeros_0f7a4_5 : decode cJ6_numberOfTrailingZeros_0f7a4 5 = .ok (.isub, 1) := by decide +kernel
theorem dJ6_numberOfTrailingZeros_0f7a4_6 : decode cJ6_numberOfTrailingZeros_0f7a4 6 = .ok (.iand, 1) := by decide +kernel
theorem dJ6_numberOfTrailingZeros_0f7a4_7 : decode cJ6_numberOfTrailingZeros_0f7a4 7 = .ok (.istore_n 0, 1) := by decide +kernel
theorem dJ6_numberOfTrailingZeros_0f7a4_8 : decode cJ6_numberOfTrailingZeros_0f7a4 8 = .ok (.iload_n 0, 1) := by decide +kernel
theorem dJ6_numberOfTrailingZeros_0f7a4_9 : decode cJ6_numberOfTrailingZeros_0f7a4 9 = .ok (.ifCond .gt 8, 3) := by decide +kernel
theorem dJ6_numberOfTrailingZeros_0f7a4_12 : decode cJ6_numberOfTrailingZeros_0f7a4 12 = .ok (.iload_n 0, 1) := by decide +kernel
theorem dJ6_numberOfTrailingZeros_0f7a4_13 : decode cJ6_numberOfTrailingZeros_0f7a4 13 = .ok (.bipush 32, 2) := by decide +kernel
theorem dJ6_numberOfTrailingZeros_0f7a4_15 : decode cJ6_numberOfTrailingZeros_0f7a4 15 = .ok (.iand, 1) := by decide +kernel
theorem dJ6_numberOfTrailingZeros_0f7a4_16 : decode cJ6_numberOfTrailingZeros_0f7a4 16 = .ok (.ireturn, 1) := by decide +kernel
theorem dJ6_numberOfTrailingZeros_0f7a4_17 : decode cJ6_numberOfTrailingZeros_0f7a4 17 = .ok (.iconst 1, 1) := by decide +kernel
theorem dJ6_numberOfTrailingZeros_0f7a4_18 : decode cJ6_numberOfTrailingZeros_0f7a4 18 = .ok (.istore_n 1, 1) := by decide +kernel
theorem dJ6_numberOfTrailingZeros_0f7a4_19 : decode cJ6_numberOfTrailingZeros_0f7a4 19 = .ok (.iload_n 0, 1) := by decide +kernel
theorem dJ6_numberOfTrailingZeros_0f7a4_20 : decode cJ6_numberOfTrailingZeros_0f7a4 20 = .ok (.ldc_w 264, 3) := by decide +kernel
theorem dJ6_numberOfTrailingZeros_0f7a4_23 : decode cJ6_numberOfTrailingZeros_0f7a4 23 = .ok (.if_icmp .le 11, 3) := by decide +kernel
theorem dJ6_numberOfTrailingZeros_0f7a4_26 : decode cJ6_numberOfTrailingZeros_0f7a4 26 = .ok (.iinc 1 16, 3) := by decide +kernel
theorem dJ6_numberOfTrailingZeros_0f7a4_29 : decode cJ6_numberOfTrailingZeros_0f7a4 29 = .ok (.iload_n 0, 1) := by decide +kernel
theorem dJ6_numberOfTrailingZeros_0f7a4_30 : decode cJ6_numberOfTrailingZeros_0f7a4 30 = .ok (.bipush 16, 2) := by decide +kernel
theorem dJ6_numberOfTrailingZeros_0f7a4_32 : decode cJ6_numberOfTrailingZeros_0f7a4 32 = .ok (.iushr, 1) := by decide +kernel
theorem dJ6_numberOfTrailingZeros_0f7a4_33 : decode cJ6_numberOfTrailingZeros_0f7a4 33 = .ok (.istore_n 0, 1) := by decide +kernel
theorem dJ6_numberOfTrailingZeros_0f7a4_34 : decode cJ6_numberOfTrailingZeros_0f7a4 34 = .ok (.iload_n 0, 1) := by decide +kernel
theorem dJ6_numberOfTrailingZeros_0f7a4_35 : decode cJ6_numberOfTrailingZeros_0f7a4 35 = .ok (.sipush 256, 3) := by decide +kernel
theorem dJ6_numberOfTrailingZeros_0f7a4_38 : decode cJ6_numberOfTrailingZeros_0f7a4 38 = .ok (.if_icmp .le 11, 3) := by decide +kernel
theorem dJ6_numberOfTrailingZeros_0f7a4_41 : decode cJ6_numberOfTrailingZeros_0f7a4 41 = .ok (.iinc 1 8, 3) := by decide +kernel
theorem dJ6_numberOfTrailingZeros_0f7a4_44 : decode cJ6_numberOfTrailingZeros_0f7a4 44 = .ok (.iload_n 0, 1) := by decide +kernel
theorem dJ6_numberOfTrailingZeros_0f7a4_45 : decode cJ6_numberOfTrailingZeros_0f7a4 45 = .ok (.bipush 8, 2) := by decide +kernel
theorem dJ6_numberOfTrailingZeros_0f7a4_47 : decode cJ6_numberOfTrailingZeros_0f7a4 47 = .ok (.iushr, 1) := by decide +kernel
theorem dJ6_numberOfTrailingZeros_0f7a4_48 : decode cJ6_numberOfTrailingZeros_0f7a4 48 = .ok (.istore_n 0, 1) := by decide +kernel
theorem dJ6_numberOfTrailingZeros_0f7a4_49 : decode cJ6_numberOfTrailingZeros_0f7a4 49 = .ok (.iload_n 0, 1) := by decide +kernel
theorem dJ6_numberOfTrailingZeros_0f7a4_50 : decode cJ6_numberOfTrailingZeros_0f7a4 50 = .ok (.bipush 16, 2) := by decide +kernel
theorem dJ6_numberOfTrailingZeros_0f7a4_52 : decode cJ6_numberOfTrailingZeros_0f7a4 52 = .ok (.if_icmp .le 10, 3) := by decide +kernel
theorem dJ6_numberOfTrailingZeros_0f7a4_55 : decode cJ6_numberOfTrailingZeros_0f7a4 55 = .ok (.iinc 1 4, 3) := by decide +kernel
theorem dJ6_numberOfTrailingZeros_0f7a4_58 : decode cJ6_numberOfTrailingZeros_0f7a4 58 = .ok (.iload_n 0, 1) := by decide +kernel
theorem dJ6_numberOfTrailingZeros_0f7a4_59 : decode cJ6_numberOfTrailingZeros_0f7a4 59 = .ok (.iconst 4, 1) := by decide +kernel
theorem dJ6_numberOfTrailingZeros_0f7a4_60 : decode cJ6_numberOfTrailingZeros_0f7a4 60 = .ok (.iushr, 1) := by decide +kernel
theorem dJ6_numberOfTrailingZeros_0f7a4_61 : decode cJ6_numberOfTrailingZeros_0f7a4 61 = .ok (.istore_n 0, 1) := by decide +kernel
theorem dJ6_numberOfTrailingZeros_0f7a4_62 : decode cJ6_numberOfTrailingZeros_0f7a4 62 = .ok (.iload_n 0, 1) := by decide +kernel
theorem dJ6_numberOfTrailingZeros_0f7a4_63 : decode cJ6_numberOfTrailingZeros_0f7a4 63 = .ok (.iconst 4, 1) := by decide +kernel
theorem dJ6_numberOfTrailingZeros_0f7a4_64 : decode cJ6_numberOfTrailingZeros_0f7a4 64 = .ok (.if_icmp .le 10, 3) := by decide +kernel
theorem dJ6_numberOfTrailingZeros_0f7a4_67 : decode cJ6_numberOfTrailingZeros_0f7a4 67 = .ok (.iinc 1 2, 3) := by decide +kernel
theorem dJ6_numberOfTrailingZeros_0f7a4_70 : decode cJ6_numberOfTrailingZeros_0f7a4 70 = .ok (.iload_n 0, 1) := by decide +kernel
theorem dJ6_numberOfTrailingZeros_0f7a4_71 : decode cJ6_numberOfTrailingZeros_0f7a4 71 = .ok (.iconst 2, 1) := by decide +kernel
theorem dJ6_numberOfTrailingZeros_0f7a4_72 : decode cJ6_numberOfTrailingZeros_0f7a4 72 = .ok (.iushr, 1) := by decide +kernel
theorem dJ6_numberOfTrailingZeros_0f7a4_73 : decode cJ6_numberOfTrailingZeros_0f7a4 73 = .ok (.istore_n 0, 1) := by decide +kernel
theorem dJ6_numberOfTrailingZeros_0f7a4_74 : decode cJ6_numberOfTrailingZeros_0f7a4 74 = .ok (.iload_n 1, 1) := by decide +kernel
theorem dJ6_numberOfTrailingZeros_0f7a4_75 : decode cJ6_numberOfTrailingZeros_0f7a4 75 = .ok (.iload_n 0, 1) := by decide +kernel
theorem dJ6_numberOfTrailingZeros_0f7a4_76 : decode cJ6_numberOfTrailingZeros_0f7a4 76 = .ok (.iconst 1, 1) := by decide +kernel
theorem dJ6_numberOfTrailingZeros_0f7a4_77 : decode cJ6_numberOfTrailingZeros_0f7a4 77 = .ok (.iushr, 1) := by decide +kernel
theorem dJ6_numberOfTrailingZeros_0f7a4_78 : decode cJ6_numberOfTrailingZeros_0f7a4 78 = .ok (.iadd, 1) := by decide +kernel
theorem dJ6_numberOfTrailingZeros_0f7a4_79 : decode cJ6_numberOfTrailingZeros_0f7a4 79 = .ok (.ireturn, 1) := by decide +kernel
theorem dJ6_bitCount_0f7a4_0 : decode cJ6_bitCount_0f7a4 0 = .ok (.iload_n 0, 1) := by decide +kernel
theorem dJ6_bitCount_0f7a4_1 : decode cJ6_bitCount_0f7a4 1 = .ok (.iload_n 0, 1) := by decide +kernel
theorem dJ6_bitCount_0f7a4_2 : decode cJ6_bitCount_0f7a4 2 = .ok (.iconst 1, 1) := by decide +kernel
theorem dJ6_bitCount_0f7a4_3 : decode cJ6_bitCount_0f7a4 3 = .ok (.iushr, 1) := by decide +kernel
theorem dJ6_bitCount_0f7a4_4 : decode cJ6_bitCount_0f7a4 4 = .ok (.ldc_w 265, 3) := by decide +kernel
theorem dJ6_bitCount_0f7a4_7 : decode cJ6_bitCount_0f7a4 7 = .ok (.iand, 1) := by decide +kernel
theorem dJ6_bitCount_0f7a4_8 : decode cJ6_bitCount_0f7a4 8 = .ok (.isub, 1) := by decide +kernel
theorem dJ6_bitCount_0f7a4_9 : decode cJ6_bitCount_0f7a4 9 = .ok (.istore_n 0, 1) := by decide +kernel
theorem dJ6_bitCount_0f7a4_10 : decode cJ6_bitCount_0f7a4 10 = .ok (.iload_n 0, 1) := by decide +kernel
theorem dJ6_bitCount_0f7a4_11 : decode cJ6_bitCount_0f7a4 11 = .ok (.ldc_w 266, 3) := by decide +kernel
theorem dJ6_bitCount_0f7a4_14 : decode cJ6_bitCount_0f7a4 14 = .ok (.iand, 1) := by decide +kernel
theorem dJ6_bitCount_0f7a4_15 : decode cJ6_bitCount_0f7a4 15 = .ok (.iload_n 0, 1) := by decide +kernel
theorem dJ6_bitCount_0f7a4_16 : decode cJ6_bitCount_0f7a4 16 = .ok (.iconst 2, 1) := by decide +kernel
theorem dJ6_bitCount_0f7a4_17 : decode cJ6_bitCount_0f7a4 17 = .ok (.iushr, 1) := by decide +kernel
theorem dJ6_bitCount_0f7a4_18 : decode cJ6_bitCount_0f7a4 18 = .ok (.ldc_w 266, 3) := by decide +kernel
theorem dJ6_bitCount_0f7a4_21 : decode cJ6_bitCount_0f7a4 21 = .ok (.iand, 1) := by decide +kernel
theorem dJ6_bitCount_0f7a4_22 : decode cJ6_bitCount_0f7a4 22 = .ok (.iadd, 1) := by decide +kernel
theorem dJ6_bitCount_0f7a4_23 : decode cJ6_bitCount_0f7a4 23 = .ok (.istore_n 0, 1) := by decide +kernel
theorem dJ6_bitCount_0f7a4_24 : decode cJ6_bitCount_0f7a4 24 = .ok (.iload_n 0, 1) := by decide +kernel
theorem dJ6_bitCount_0f7a4_25 : decode cJ6_bitCount_0f7a4 25 = .ok (.iload_n 0, 1) := by decide +kernel
theorem dJ6_bitCount_0f7a4_26 : decode cJ6_bitCount_0f7a4 26 = .ok (.iconst 4, 1) := by decide +kernel
theorem dJ6_bitCount_0f7a4_27 : decode cJ6_bitCount_0f7a4 27 = .ok (.iushr, 1) := by decide +kernel
theorem dJ6_bitCount_0f7a4_28 : decode cJ6_bitCount_0f7a4 28 = .ok (.iadd, 1) := by decide +kernel
theorem dJ6_bitCount_0f7a4_29 : decode cJ6_bitCount_0f7a4 29 = .ok (.ldc_w 267, 3) := by decide +kernel
theorem dJ6_bitCount_0f7a4_32 : decode cJ6_bitCount_0f7a4 32 = .ok (.iand, 1) := by decide +kernel
theorem dJ6_bitCount_0f7a4_33 : decode cJ6_bitCount_0f7a4 33 = .ok (.istore_n 0, 1) := by decide +kernel
theorem dJ6_bitCount_0f7a4_34 : decode cJ6_bitCount_0f7a4 34 = .ok (.iload_n 0, 1) := by decide +kernel
theorem dJ6_bitCount_0f7a4_35 : decode cJ6_bitCount_0f7a4 35 = .ok (.iload_n 0, 1) := by decide +kernel
theorem dJ6_bitCount_0f7a4_36 : decode cJ6_bitCount_0f7a4 36 = .ok (.bipush 8, 2) := by decide +kernel
theorem dJ6_bitCount_0f7a4_38 : decode cJ6_bitCount_0f7a4 38 = .ok (.iushr, 1) := by decide +kernel
theorem dJ6_bitCount_0f7a4_39 : decode cJ6_bitCount_0f7a4 39 = .ok (.iadd, 1) := by decide +kernel
theorem dJ6_bitCount_0f7a4_40 : decode cJ6_bitCount_0f7a4 40 = .ok (.istore_n 0, 1) := by decide +kernel
theorem dJ6_bitCount_0f7a4_41 : decode cJ6_bitCount_0f7a4 41 = .ok (.iload_n 0, 1) := by decide +kernel
theorem dJ6_bitCount_0f7a4_42 : decode cJ6_bitCount_0f7a4 42 = .ok (.iload_n 0, 1) := by decide +kernel
theorem dJ6_bitCount_0f7a4_43 : decode cJ6_bitCount_0f7a4 43 = .ok (.bipush 16, 2) := by decide +kernel
theorem dJ6_bitCount_0f7a4_45 : decode cJ6_bitCount_0f7a4 45 = .ok (.iushr, 1) := by decide +kernel
theorem dJ6_bitCount_0f7a4_46 : decode cJ6_bitCount_0f7a4 46 = .ok (.iadd, 1) := by decide +kernel
theorem dJ6_bitCount_0f7a4_47 : decode cJ6_bitCount_0f7a4 47 = .ok (.istore_n 0, 1) := by decide +kernel
theorem dJ6_bitCount_0f7a4_48 : decode cJ6_bitCount_0f7a4 48 = .ok (.iload_n 0, 1) := by decide +kernel
theorem dJ6_bitCount_0f7a4_49 : decode cJ6_bitCount_0f7a4 49 = .ok (.bipush 63, 2) := by decide +kernel
theorem dJ6_bitCount_0f7a4_51 : decode cJ6_bitCount_0f7a4 51 = .ok (.iand, 1) := by decide +kernel
theorem dJ6_bitCount_0f7a4_52 : decode cJ6_bitCount_0f7a4 52 = .ok (.ireturn, 1) := by decide +kernel
theorem dJ9_abs_0f7a4_0 : decode cJ9_abs_0f7a4 0 = .ok (.iload_n 0, 1) := by decide +kernel
theorem dJ9_abs_0f7a4_1 : decode cJ9_abs_0f7a4 1 = .ok (.ifCond .ge 8, 3) := by decide +kernel
theorem dJ9_abs_0f7a4_4 : decode cJ9_abs_0f7a4 4 = .ok (.iload_n 0, 1) := by decide +kernel
theorem dJ9_abs_0f7a4_5 : decode cJ9_abs_0f7a4 5 = .ok (.ineg, 1) := by decide +kernel
theorem dJ9_abs_0f7a4_6 : decode cJ9_abs_0f7a4 6 = .ok (.goto 4, 3) := by decide +kernel
theorem dJ9_abs_0f7a4_9 : decode cJ9_abs_0f7a4 9 = .ok (.iload_n 0, 1) := by decide +kernel
theorem dJ9_abs_0f7a4_10 : decode cJ9_abs_0f7a4 10 = .ok (.ireturn, 1) := by decide +kernel
theorem dJ9_max_7cf53_0 : decode cJ9_max_7cf53 0 = .ok (.iload_n 0, 1) := by decide +kernel
theorem dJ9_max_7cf53_1 : decode cJ9_max_7cf53 1 = .ok (.iload_n 1, 1) := by decide +kernel
theorem dJ9_max_7cf53_2 : decode cJ9_max_7cf53 2 = .ok (.if_icmp .lt 7, 3) := by decide +kernel
theorem dJ9_max_7cf53_5 : decode cJ9_max_7cf53 5 = .ok (.iload_n 0, 1) := by decide +kernel
theorem dJ9_max_7cf53_6 : decode cJ9_max_7cf53 6 = .ok (.goto 4, 3) := by decide +kernel
theorem dJ9_max_7cf53_9 : decode cJ9_max_7cf53 9 = .ok (.iload_n 1, 1) := by decide +kernel
theorem dJ9_max_7cf53_10 : decode cJ9_max_7cf53 10 = .ok (.ireturn, 1) := by decide +kernel
theorem dJ9_min_7cf53_0 : decode cJ9_min_7cf53 0 = .ok (.iload_n 0, 1) := by decide +kernel
theorem dJ9_min_7cf53_1 : decode cJ9_min_7cf53 1 = .ok (.iload_n 1, 1) := by decide +kernel
theorem dJ9_min_7cf53_2 : decode cJ9_min_7cf53 2 = .ok (.if_icmp .gt 7, 3) := by decide +kernel
theorem dJ9_min_7cf53_5 : decode cJ9_min_7cf53 5 = .ok (.iload_n 0, 1) := by decide +kernel
theorem dJ9_min_7cf53_6 : decode cJ9_min_7cf53 6 = .ok (.goto 4, 3) := by decide +kernel
theorem dJ9_min_7cf53_9 : decode cJ9_min_7cf53 9 = .ok (.iload_n 1, 1) := by decide +kernel
theorem dJ9_min_7cf53_10 : decode cJ9_min_7cf53 10 = .ok (.ireturn, 1) := by decide +kernel
theorem dJ0_length_8abf5_0 : decode cJ0_length_8abf5 0 = .ok (.aload_n 0, 1) := by decide +kernel
theorem dJ0_length_8abf5_1 : decode cJ0_length_8abf5 1 = .ok (.getfield 9, 3) := by decide +kernel
theorem dJ0_length_8abf5_4 : decode cJ0_length_8abf5 4 = .ok (.arraylength, 1) := by decide +kernel
theorem dJ0_length_8abf5_5 : decode cJ0_length_8abf5 5 = .ok (.aload_n 0, 1) := by decide +kernel
theorem dJ0_length_8abf5_6 : decode cJ0_length_8abf5 6 = .ok (.invokevirtual 335, 3) := by decide +kernel
theorem dJ0_length_8abf5_9 : decode cJ0_length_8abf5 9 = .ok (.ishr, 1) := by decide +kernel
theorem dJ0_length_8abf5_10 : decode cJ0_length_8abf5 10 = .ok (.ireturn, 1) := by decide +kernel
theorem dJ0_charAt_5068e_0 : decode cJ0_charAt_5068e 0 = .ok (.aload_n 0, 1) := by decide +kernel
theorem dJ0_charAt_5068e_1 : decode cJ0_charAt_5068e 1 = .ok (.invokevirtual 492, 3) := by decide +kernel
theorem dJ0_charAt_5068e_4 : decode cJ0_charAt_5068e 4 = .ok (.ifCond .eq 12, 3) := by decide +kernel
theorem dJ0_charAt_5068e_7 : decode cJ0_charAt_5068e 7 = .ok (.aload_n 0, 1) := by decide +kernel
theorem dJ0_charAt_5068e_8 : decode cJ0_charAt_5068e 8 = .ok (.getfield 9, 3) := by decide +kernel
theorem dJ0_charAt_5068e_11 : decode cJ0_charAt_5068e 11 = .ok (.iload_n 1, 1) := by decide +kernel
theorem dJ0_charAt_5068e_12 : decode cJ0_charAt_5068e 12 = .ok (.invokestatic 495, 3) := by decide +kernel
theorem dJ0_charAt_5068e_15 : decode cJ0_charAt_5068e 15 = .ok (.ireturn, 1) := by decide +kernel
theorem dJ0_charAt_5068e_16 : decode cJ0_charAt_5068e 16 = .ok (.aload_n 0, 1) := by decide +kernel
theorem dJ0_charAt_5068e_17 : decode cJ0_charAt_5068e 17 = .ok (.getfield 9, 3) := by decide +kernel
theorem dJ0_charAt_5068e_20 : decode cJ0_charAt_5068e 20 = .ok (.iload_n 1, 1) := by decide +kernel
theorem dJ0_charAt_5068e_21 : decode cJ0_charAt_5068e 21 = .ok (.invokestatic 498, 3) := by decide +kernel
theorem dJ0_charAt_5068e_24 : decode cJ0_charAt_5068e 24 = .ok (.ireturn, 1) := by decide +kernel
theorem dJ0_coder_7d493_0 : decode cJ0_coder_7d493 0 = .ok (.getstatic 38, 3) := by decide +kernel
theorem dJ0_coder_7d493_3 : decode cJ0_coder_7d493 3 = .ok (.ifCond .eq 10, 3) := by decide +kernel
theorem dJ0_coder_7d493_6 : decode cJ0_coder_7d493 6 = .ok (.aload_n 0, 1) := by decide +kernel
theorem dJ0_coder_7d493_7 : decode cJ0_coder_7d493 7 = .ok (.getfield 15, 3) := by decide +kernel
theorem dJ0_coder_7d493_10 : decode cJ0_coder_7d493 10 = .ok (.goto 4, 3) := by decide +kernel
theorem dJ0_coder_7d493_13 : decode cJ0_coder_7d493 13 = .ok (.iconst 1, 1) := by decide +kernel
theorem dJ0_coder_7d493_14 : decode cJ0_coder_7d493 14 = .ok (.ireturn, 1) := by decide +kernel
theorem dJ0_isLatin1_aae02_0 : decode cJ0_isLatin1_aae02 0 = .ok (.getstatic 38, 3) := by decide +kernel
theorem dJ0_isLatin1_aae02_3 : decode cJ0_isLatin1_aae02 3 = .ok (.ifCond .eq 14, 3) := by decide +kernel
theorem dJ0_isLatin1_aae02_6 : decode cJ0_isLatin1_aae02 6 = .ok (.aload_n 0, 1) := by decide +kernel
theorem dJ0_isLatin1_aae02_7 : decode cJ0_isLatin1_aae02 7 = .ok (.getfield 15, 3) := by decide +kernel
theorem dJ0_isLatin1_aae02_10 : decode cJ0_isLatin1_aae02 10 = .ok (.ifCond .ne 7, 3) := by decide +kernel
theorem dJ0_isLatin1_aae02_13 : decode cJ0_isLatin1_aae02 13 = .ok (.iconst 1, 1) := by decide +kernel
theorem dJ0_isLatin1_aae02_14 : decode cJ0_isLatin1_aae02 14 = .ok (.goto 4, 3) := by decide +kernel
theorem dJ0_isLatin1_aae02_17 : decode cJ0_isLatin1_aae02 17 = .ok (.iconst 0, 1) := by decide +kernel
theorem dJ0_isLatin1_aae02_18 : decode cJ0_isLatin1_aae02 18 = .ok (.ireturn, 1) := by decide +kernel
theorem dJ0_checkIndex_df160_0 : decode cJ0_checkIndex_df160 0 = .ok (.iload_n 0, 1) := by decide +kernel
theorem dJ0_checkIndex_df160_1 : decode cJ0_checkIndex_df160 1 = .ok (.iload_n 1, 1) := by decide +kernel
theorem dJ0_checkIndex_df160_2 : decode cJ0_checkIndex_df160 2 = .ok (.getstatic 1053, 3) := by decide +kernel
theorem dJ0_checkIndex_df160_5 : decode cJ0_checkIndex_df160 5 = .ok (.invokestatic 1059, 3) := by decide +kernel
theorem dJ0_checkIndex_df160_8 : decode cJ0_checkIndex_df160 8 = .ok (.pop, 1) := by decide +kernel
theorem dJ0_checkIndex_df160_9 : decode cJ0_checkIndex_df160 9 = .ok (.return_, 1) := by decide +kernel
theorem dJ1_charAt_3b067_0 : decode cJ1_charAt_3b067 0 = .ok (.iload_n 1, 1) := by decide +kernel
theorem dJ1_charAt_3b067_1 : decode cJ1_charAt_3b067 1 = .ok (.aload_n 0, 1) := by decide +kernel
theorem dJ1_charAt_3b067_2 : decode cJ1_charAt_3b067 2 = .ok (.arraylength, 1) := by decide +kernel
theorem dJ1_charAt_3b067_3 : decode cJ1_charAt_3b067 3 = .ok (.invokestatic 9, 3) := by decide +kernel
theorem dJ1_charAt_3b067_6 : decode cJ1_charAt_3b067 6 = .ok (.aload_n 0, 1) := by decide +kernel
theorem dJ1_charAt_3b067_7 : decode cJ1_charAt_3b067 7 = .ok (.iload_n 1, 1) := by decide +kernel
theorem dJ1_charAt_3b067_8 : decode cJ1_charAt_3b067 8 = .ok (.baload, 1) := by decide +kernel
theorem dJ1_charAt_3b067_9 : decode cJ1_charAt_3b067 9 = .ok (.sipush 255, 3) := by decide +kernel
theorem dJ1_charAt_3b067_12 : decode cJ1_charAt_3b067 12 = .ok (.iand, 1) := by decide +kernel
theorem dJ1_charAt_3b067_13 : decode cJ1_charAt_3b067 13 = .ok (.i2c, 1) := by decide +kernel
theorem dJ1_charAt_3b067_14 : decode cJ1_charAt_3b067 14 = .ok (.ireturn, 1) := by decide +kernel
theorem dJ2_getChar_3b067_0 : decode cJ2_getChar_3b067 0 = .ok (.getstatic 44, 3) := by decide +kernel
theorem dJ2_getChar_3b067_3 : decode cJ2_getChar_3b067 3 = .ok (.ifCond .ne 25, 3) := by decide +kernel
theorem dJ2_getChar_3b067_6 : decode cJ2_getChar_3b067 6 = .ok (.iload_n 1, 1) := by decide +kernel
theorem dJ2_getChar_3b067_7 : decode cJ2_getChar_3b067 7 = .ok (.ifCond .lt 11, 3) := by decide +kernel
theorem dJ2_getChar_3b067_10 : decode cJ2_getChar_3b067 10 = .ok (.iload_n 1, 1) := by decide +kernel
theorem dJ2_getChar_3b067_11 : decode cJ2_getChar_3b067 11 = .ok (.aload_n 0, 1) := by decide +kernel
theorem dJ2_getChar_3b067_12 : decode cJ2_getChar_3b067 12 = .ok (.invokestatic 48, 3) := by decide +kernel
theorem dJ2_getChar_3b067_15 : decode cJ2_getChar_3b067 15 = .ok (.if_icmp .lt 13, 3) := by decide +kernel
theorem dJ2_getChar_3b067_18 : decode cJ2_getChar_3b067 18 = .ok (.new 52, 3) := by decide +kernel
theorem dJ2_getChar_3b067_21 : decode cJ2_getChar_3b067 21 = .ok (.dup, 1) := by decide +kernel
theorem dJ2_getChar_3b067_22 : decode cJ2_getChar_3b067 22 = .ok (.ldc 54, 2) := by decide +kernel
theorem dJ2_getChar_3b067_24 : decode cJ2_getChar_3b067 24 = .ok (.invokespecial 56, 3) := by decide +kernel
theorem dJ2_getChar_3b067_27 : decode cJ2_getChar_3b067 27 = .ok (.athrow, 1) := by decide +kernel
theorem dJ2_getChar_3b067_28 : decode cJ2_getChar_3b067 28 = .ok (.iload_n 1, 1) := by decide +kernel
theorem dJ2_getChar_3b067_29 : decode cJ2_getChar_3b067 29 = .ok (.iconst 1, 1) := by decide +kernel
theorem dJ2_getChar_3b067_30 : decode cJ2_getChar_3b067 30 = .ok (.ishl, 1) := by decide +kernel
theorem dJ2_getChar_3b067_31 : decode cJ2_getChar_3b067 31 = .ok (.istore_n 1, 1) := by decide +kernel
theorem dJ2_getChar_3b067_32 : decode cJ2_getChar_3b067 32 = .ok (.aload_n 0, 1) := by decide +kernel
theorem dJ2_getChar_3b067_33 : decode cJ2_getChar_3b067 33 = .ok (.iload_n 1, 1) := by decide +kernel
theorem dJ2_getChar_3b067_34 : decode cJ2_getChar_3b067 34 = .ok (.iinc 1 1, 3) := by decide +kernel
theorem dJ2_getChar_3b067_37 : decode cJ2_getChar_3b067 37 = .ok (.baload, 1) := by decide +kernel
theorem dJ2_getChar_3b067_38 : decode cJ2_getChar_3b067 38 = .ok (.sipush 255, 3) := by decide +kernel
theorem dJ2_getChar_3b067_41 : decode cJ2_getChar_3b067 41 = .ok (.iand, 1) := by decide +kernel
theorem dJ2_getChar_3b067_42 : decode cJ2_getChar_3b067 42 = .ok (.getstatic 59, 3) := by decide +kernel
theorem dJ2_getChar_3b067_45 : decode cJ2_getChar_3b067 45 = .ok (.ishl, 1) := by decide +kernel
theorem dJ2_getChar_3b067_46 : decode cJ2_getChar_3b067 46 = .ok (.aload_n 0, 1) := by decide +kernel
theorem dJ2_getChar_3b067_47 : decode cJ2_getChar_3b067 47 = .ok (.iload_n 1, 1) := by decide +kernel
theorem dJ2_getChar_3b067_48 : decode cJ2_getChar_3b067 48 = .ok (.baload, 1) := by decide +kernel
theorem dJ2_getChar_3b067_49 : decode cJ2_getChar_3b067 49 = .ok (.sipush 255, 3) := by decide +kernel
theorem dJ2_getChar_3b067_52 : decode cJ2_getChar_3b067 52 = .ok (.iand, 1) := by decide +kernel
theorem dJ2_getChar_3b067_53 : decode cJ2_getChar_3b067 53 = .ok (.getstatic 63, 3) := by decide +kernel
theorem dJ2_getChar_3b067_56 : decode cJ2_getChar_3b067 56 = .ok (.ishl, 1) := by decide +kernel
theorem dJ2_getChar_3b067_57 : decode cJ2_getChar_3b067 57 = .ok (.ior, 1) := by decide +kernel
theorem dJ2_getChar_3b067_58 : decode cJ2_getChar_3b067 58 = .ok (.i2c, 1) := by decide +kernel
theorem dJ2_getChar_3b067_59 : decode cJ2_getChar_3b067 59 = .ok (.ireturn, 1) := by decide +kernel
theorem dJ2_length_9d52b_0 : decode cJ2_length_9d52b 0 = .ok (.aload_n 0, 1) := by decide +kernel
theorem dJ2_length_9d52b_1 : decode cJ2_length_9d52b 1 = .ok (.arraylength, 1) := by decide +kernel
theorem dJ2_length_9d52b_2 : decode cJ2_length_9d52b 2 = .ok (.iconst 1, 1) := by decide +kernel
theorem dJ2_length_9d52b_3 : decode cJ2_length_9d52b 3 = .ok (.ishr, 1) := by decide +kernel
theorem dJ2_length_9d52b_4 : decode cJ2_length_9d52b 4 = .ok (.ireturn, 1) := by decide +kernel
theorem dJ2_charAt_3b067_0 : decode cJ2_charAt_3b067 0 = .ok (.iload_n 1, 1) := by decide +kernel
theorem dJ2_charAt_3b067_1 : decode cJ2_charAt_3b067 1 = .ok (.aload_n 0, 1) := by decide +kernel
theorem dJ2_charAt_3b067_2 : decode cJ2_charAt_3b067 2 = .ok (.invokestatic 67, 3) := by decide +kernel
theorem dJ2_charAt_3b067_5 : decode cJ2_charAt_3b067 5 = .ok (.aload_n 0, 1) := by decide +kernel
theorem dJ2_charAt_3b067_6 : decode cJ2_charAt_3b067 6 = .ok (.iload_n 1, 1) := by decide +kernel
theorem dJ2_charAt_3b067_7 : decode cJ2_charAt_3b067 7 = .ok (.invokestatic 71, 3) := by decide +kernel
theorem dJ2_charAt_3b067_10 : decode cJ2_charAt_3b067 10 = .ok (.ireturn, 1) := by decide +kernel
theorem dJ2_checkIndex_2214a_0 : decode cJ2_checkIndex_2214a 0 = .ok (.iload_n 0, 1) := by decide +kernel
theorem dJ2_checkIndex_2214a_1 : decode cJ2_checkIndex_2214a 1 = .ok (.aload_n 1, 1) := by decide +kernel
theorem dJ2_checkIndex_2214a_2 : decode cJ2_checkIndex_2214a 2 = .ok (.invokestatic 48, 3) := by decide +kernel
theorem dJ2_checkIndex_2214a_5 : decode cJ2_checkIndex_2214a 5 = .ok (.invokestatic 414, 3) := by decide +kernel
theorem dJ2_checkIndex_2214a_8 : decode cJ2_checkIndex_2214a 8 = .ok (.return_, 1) := by decide +kernel
theorem dJ3_checkIndex_8e157_0 : decode cJ3_checkIndex_8e157 0 = .ok (.iload_n 0, 1) := by decide +kernel
theorem dJ3_checkIndex_8e157_1 : decode cJ3_checkIndex_8e157 1 = .ok (.ifCond .lt 8, 3) := by decide +kernel
theorem dJ3_checkIndex_8e157_4 : decode cJ3_checkIndex_8e157 4 = .ok (.iload_n 0, 1) := by decide +kernel
theorem dJ3_checkIndex_8e157_5 : decode cJ3_checkIndex_8e157 5 = .ok (.iload_n 1, 1) := by decide +kernel
theorem dJ3_checkIndex_8e157_6 : decode cJ3_checkIndex_8e157 6 = .ok (.if_icmp .lt 10, 3) := by decide +kernel
theorem dJ3_checkIndex_8e157_9 : decode cJ3_checkIndex_8e157 9 = .ok (.aload_n 2, 1) := by decide +kernel
theorem dJ3_checkIndex_8e157_10 : decode cJ3_checkIndex_8e157 10 = .ok (.iload_n 0, 1) := by decide +kernel
theorem dJ3_checkIndex_8e157_11 : decode cJ3_checkIndex_8e157 11 = .ok (.iload_n 1, 1) := by decide +kernel
theorem dJ3_checkIndex_8e157_12 : decode cJ3_checkIndex_8e157 12 = .ok (.invokestatic 95, 3) := by decide +kernel
theorem dJ3_checkIndex_8e157_15 : decode cJ3_checkIndex_8e157 15 = .ok (.athrow, 1) := by decide +kernel
theorem dJ3_checkIndex_8e157_16 : decode cJ3_checkIndex_8e157 16 = .ok (.iload_n 0, 1) := by decide +kernel
theorem dJ3_checkIndex_8e157_17 : decode cJ3_checkIndex_8e157 17 = .ok (.ireturn, 1) := by decide +kernel
theorem dL_law_0 : decode cL_law 0 = .ok (.new 7, 3) := by decide +kernel
theorem dL_law_3 : decode cL_law 3 = .ok (.dup, 1) := by decide +kernel
theorem dL_law_4 : decode cL_law 4 = .ok (.invokespecial 9, 3) := by decide +kernel
theorem dL_law_7 : decode cL_law 7 = .ok (.astore_n 1, 1) := by decide +kernel
theorem dL_law_8 : decode cL_law 8 = .ok (.new 10, 3) := by decide +kernel
theorem dL_law_11 : decode cL_law 11 = .ok (.dup, 1) := by decide +kernel
theorem dL_law_12 : decode cL_law 12 = .ok (.invokespecial 12, 3) := by decide +kernel
theorem dL_law_15 : decode cL_law 15 = .ok (.astore_n 2, 1) := by decide +kernel
theorem dL_law_16 : decode cL_law 16 = .ok (.iconst 0, 1) := by decide +kernel
theorem dL_law_17 : decode cL_law 17 = .ok (.istore_n 3, 1) := by decide +kernel
theorem dL_law_18 : decode cL_law 18 = .ok (.iload_n 3, 1) := by decide +kernel
theorem dL_law_19 : decode cL_law 19 = .ok (.aload_n 0, 1) := by decide +kernel
theorem dL_law_20 : decode cL_law 20 = .ok (.arraylength, 1) := by decide +kernel
theorem dL_law_21 : decode cL_law 21 = .ok (.bipush 6, 2) := by decide +kernel
theorem dL_law_23 : decode cL_law 23 = .ok (.isub, 1) := by decide +kernel
theorem dL_law_24 : decode cL_law 24 = .ok (.if_icmp .gt 1543, 3) := by decide +kernel
theorem dL_law_27 : decode cL_law 27 = .ok (.aload_n 0, 1) := by decide +kernel
theorem dL_law_28 : decode cL_law 28 = .ok (.iload_n 3, 1) := by decide +kernel
theorem dL_law_29 : decode cL_law 29 = .ok (.iaload, 1) := by decide +kernel
theorem dL_law_30 : decode cL_law 30 = .ok (.bipush 63, 2) := by decide +kernel
theorem dL_law_32 : decode cL_law 32 = .ok (.iand, 1) := by decide +kernel
theorem dL_law_33 : decode cL_law 33 = .ok (.tableswitch 1528 0 45 #[199, 232, 255, 288, 311, 334, 367, 400, 443, 466, 489, 522, 565, 588, 601, 634, 677, 700, 733, 766, 789, 802, 835, 868, 901, 924, 967, 1010, 1043, 1066, 1100, 1123, 1156, 1169, 1182, 1215, 1248, 1291, 1334, 1397, 1420, 1443, 1456, 1469, 1482, 1505], 199) := by decide +kernel
theorem dL_law_232 : decode cL_law 232 = .ok (.aload_n 1, 1) := by decide +kernel
theorem dL_law_233 : decode cL_law 233 = .ok (.aload_n 0, 1) := by decide +kernel
theorem dL_law_234 : decode cL_law 234 = .ok (.iload_n 3, 1) := by decide +kernel
theorem dL_law_235 : decode cL_law 235 = .ok (.iconst 1, 1) := by decide +kernel
theorem dL_law_236 : decode cL_law 236 = .ok (.iadd, 1) := by decide +kernel
theorem dL_law_237 : decode cL_law 237 = .ok (.iaload, 1) := by decide +kernel
theorem dL_law_238 : decode cL_law 238 = .ok (.aload_n 0, 1) := by decide +kernel
theorem dL_law_239 : decode cL_law 239 = .ok (.iload_n 3, 1) := by decide +kernel
theorem dL_law_240 : decode cL_law 240 = .ok (.iconst 2, 1) := by decide +kernel
theorem dL_law_241 : decode cL_law 241 = .ok (.iadd, 1) := by decide +kernel
theorem dL_law_242 : decode cL_law 242 = .ok (.iaload, 1) := by decide +kernel
theorem dL_law_243 : decode cL_law 243 = .ok (.invokevirtual 13, 3) := by decide +kernel
theorem dL_law_246 : decode cL_law 246 = .ok (.aload_n 2, 1) := by decide +kernel
theorem dL_law_247 : decode cL_law 247 = .ok (.aload_n 0, 1) := by decide +kernel
theorem dL_law_248 : decode cL_law 248 = .ok (.iload_n 3, 1) := by decide +kernel
theorem dL_law_249 : decode cL_law 249 = .ok (.iconst 1, 1) := by decide +kernel
theorem dL_law_250 : decode cL_law 250 = .ok (.iadd, 1) := by decide +kernel
theorem dL_law_251 : decode cL_law 251 = .ok (.iaload, 1) := by decide +kernel
theorem dL_law_252 : decode cL_law 252 = .ok (.aload_n 0, 1) := by decide +kernel
theorem dL_law_253 : decode cL_law 253 = .ok (.iload_n 3, 1) := by decide +kernel
theorem dL_law_254 : decode cL_law 254 = .ok (.iconst 2, 1) := by decide +kernel
theorem dL_law_255 : decode cL_law 255 = .ok (.iadd, 1) := by decide +kernel
theorem dL_law_256 : decode cL_law 256 = .ok (.iaload, 1) := by decide +kernel
theorem dL_law_257 : decode cL_law 257 = .ok (.invokevirtual 17, 3) := by decide +kernel
theorem dL_law_260 : decode cL_law 260 = .ok (.if_icmp .eq 1301, 3) := by decide +kernel
theorem dL_law_263 : decode cL_law 263 = .ok (.iconst 0, 1) := by decide +kernel
theorem dL_law_264 : decode cL_law 264 = .ok (.ireturn, 1) := by decide +kernel
theorem dL_law_265 : decode cL_law 265 = .ok (.aload_n 1, 1) := by decide +kernel
theorem dL_law_266 : decode cL_law 266 = .ok (.aload_n 0, 1) := by decide +kernel
theorem dL_law_267 : decode cL_law 267 = .ok (.iload_n 3, 1) := by decide +kernel
theorem dL_law_268 : decode cL_law 268 = .ok (.iconst 1, 1) := by decide +kernel
theorem dL_law_269 : decode cL_law 269 = .ok (.iadd, 1) := by decide +kernel
theorem dL_law_270 : decode cL_law 270 = .ok (.iaload, 1) := by decide +kernel
theorem dL_law_271 : decode cL_law 271 = .ok (.invokevirtual 18, 3) := by decide +kernel
theorem dL_law_274 : decode cL_law 274 = .ok (.aload_n 2, 1) := by decide +kernel
theorem dL_law_275 : decode cL_law 275 = .ok (.aload_n 0, 1) := by decide +kernel
theorem dL_law_276 : decode cL_law 276 = .ok (.iload_n 3, 1) := by decide +kernel
theorem dL_law_277 : decode cL_law 277 = .ok (.iconst 1, 1) := by decide +kernel
theorem dL_law_278 : decode cL_law 278 = .ok (.iadd, 1) := by decide +kernel
theorem dL_law_279 : decode cL_law 279 = .ok (.iaload, 1) := by decide +kernel
theorem dL_law_280 : decode cL_law 280 = .ok (.invokevirtual 22, 3) := by decide +kernel
theorem dL_law_283 : decode cL_law 283 = .ok (.if_icmp .eq 1278, 3) := by decide +kernel
theorem dL_law_286 : decode cL_law 286 = .ok (.iconst 0, 1) := by decide +kernel
theorem dL_law_287 : decode cL_law 287 = .ok (.ireturn, 1) := by decide +kernel
theorem dL_law_288 : decode cL_law 288 = .ok (.aload_n 1, 1) := by decide +kernel
theorem dL_law_289 : decode cL_law 289 = .ok (.aload_n 0, 1) := by decide +kernel
theorem dL_law_290 : decode cL_law 290 = .ok (.iload_n 3, 1) := by decide +kernel
theorem dL_law_291 : decode cL_law 291 = .ok (.iconst 1, 1) := by decide +kernel
theorem dL_law_292 : decode cL_law 292 = .ok (.iadd, 1) := by decide +kernel
theorem dL_law_293 : decode cL_law 293 = .ok (.iaload, 1) := by decide +kernel
theorem dL_law_294 : decode cL_law 294 = .ok (.aload_n 0, 1) := by decide +kernel
theorem dL_law_295 : decode cL_law 295 = .ok (.iload_n 3, 1) := by decide +kernel
theorem dL_law_296 : decode cL_law 296 = .ok (.iconst 2, 1) := by decide +kernel
theorem dL_law_297 : decode cL_law 297 = .ok (.iadd, 1) := by decide +kernel
theorem dL_law_298 : decode cL_law 298 = .ok (.iaload, 1) := by decide +kernel
theorem dL_law_299 : decode cL_law 299 = .ok (.invokevirtual 23, 3) := by decide +kernel
theorem dL_law_302 : decode cL_law 302 = .ok (.aload_n 2, 1) := by decide +kernel
theorem dL_law_303 : decode cL_law 303 = .ok (.aload_n 0, 1) := by decide +kernel
theorem dL_law_304 : decode cL_law 304 = .ok (.iload_n 3, 1) := by decide +kernel
theorem dL_law_305 : decode cL_law 305 = .ok (.iconst 1, 1) := by decide +kernel
theorem dL_law_306 : decode cL_law 306 = .ok (.iadd, 1) := by decide +kernel
theorem dL_law_307 : decode cL_law 307 = .ok (.iaload, 1) := by decide +kernel
theorem dL_law_308 : decode cL_law 308 = .ok (.aload_n 0, 1) := by decide +kernel
theorem dL_law_309 : decode cL_law 309 = .ok (.iload_n 3, 1) := by decide +kernel
theorem dL_law_310 : decode cL_law 310 = .ok (.iconst 2, 1) := by decide +kernel
theorem dL_law_311 : decode cL_law 311 = .ok (.iadd, 1) := by decide +kernel
theorem dL_law_312 : decode cL_law 312 = .ok (.iaload, 1) := by decide +kernel
theorem dL_law_313 : decode cL_law 313 = .ok (.invokevirtual 26, 3) := by decide +kernel
theorem dL_law_316 : decode cL_law 316 = .ok (.if_icmp .eq 1245, 3) := by decide +kernel
theorem dL_law_319 : decode cL_law 319 = .ok (.iconst 0, 1) := by decide +kernel
theorem dL_law_320 : decode cL_law 320 = .ok (.ireturn, 1) := by decide +kernel
theorem dL_law_321 : decode cL_law 321 = .ok (.aload_n 1, 1) := by decide +kernel
theorem dL_law_322 : decode cL_law 322 = .ok (.aload_n 0, 1) := by decide +kernel
theorem dL_law_323 : decode cL_law 323 = .ok (.iload_n 3, 1) := by decide +kernel
theorem dL_law_324 : decode cL_law 324 = .ok (.iconst 1, 1) := by decide +kernel
theorem dL_law_325 : decode cL_law 325 = .ok (.iadd, 1) := by decide +kernel
theorem dL_law_326 : decode cL_law 326 = .ok (.iaload, 1) := by decide +kernel
theorem dL_law_327 : decode cL_law 327 = .ok (.invokevirtual 27, 3) := by decide +kernel
theorem dL_law_330 : decode cL_law 330 = .ok (.aload_n 2, 1) := by decide +kernel
theorem dL_law_331 : decode cL_law 331 = .ok (.aload_n 0, 1) := by decide +kernel
theorem dL_law_332 : decode cL_law 332 = .ok (.iload_n 3, 1) := by decide +kernel
theorem dL_law_333 : decode cL_law 333 = .ok (.iconst 1, 1) := by decide +kernel
theorem dL_law_334 : decode cL_law 334 = .ok (.iadd, 1) := by decide +kernel
theorem dL_law_335 : decode cL_law 335 = .ok (.iaload, 1) := by decide +kernel
theorem dL_law_336 : decode cL_law 336 = .ok (.invokevirtual 30, 3) := by decide +kernel
theorem dL_law_339 : decode cL_law 339 = .ok (.if_icmp .eq 1222, 3) := by decide +kernel
theorem dL_law_342 : decode cL_law 342 = .ok (.iconst 0, 1) := by decide +kernel
theorem dL_law_343 : decode cL_law 343 = .ok (.ireturn, 1) := by decide +kernel
theorem dL_law_344 : decode cL_law 344 = .ok (.aload_n 1, 1) := by decide +kernel
theorem dL_law_345 : decode cL_law 345 = .ok (.aload_n 0, 1) := by decide +kernel
theorem dL_law_346 : decode cL_law 346 = .ok (.iload_n 3, 1) := by decide +kernel
theorem dL_law_347 : decode cL_law 347 = .ok (.iconst 1, 1) := by decide +kernel
theorem dL_law_348 : decode cL_law 348 = .ok (.iadd, 1) := by decide +kernel
theorem dL_law_349 : decode cL_law 349 = .ok (.iaload, 1) := by decide +kernel
theorem dL_law_350 : decode cL_law 350 = .ok (.invokevirtual 31, 3) := by decide +kernel
theorem dL_law_353 : decode cL_law 353 = .ok (.aload_n 2, 1) := by decide +kernel
theorem dL_law_354 : decode cL_law 354 = .ok (.aload_n 0, 1) := by decide +kernel
theorem dL_law_355 : decode cL_law 355 = .ok (.iload_n 3, 1) := by decide +kernel
theorem dL_law_356 : decode cL_law 356 = .ok (.iconst 1, 1) := by decide +kernel
theorem dL_law_357 : decode cL_law 357 = .ok (.iadd, 1) := by decide +kernel
theorem dL_law_358 : decode cL_law 358 = .ok (.iaload, 1) := by decide +kernel
theorem dL_law_359 : decode cL_law 359 = .ok (.invokevirtual 34, 3) := by decide +kernel
theorem dL_law_362 : decode cL_law 362 = .ok (.if_icmp .eq 1199, 3) := by decide +kernel
theorem dL_law_365 : decode cL_law 365 = .ok (.iconst 0, 1) := by decide +kernel
theorem dL_law_366 : decode cL_law 366 = .ok (.ireturn, 1) := by decide +kernel
theorem dL_law_367 : decode cL_law 367 = .ok (.aload_n 1, 1) := by decide +kernel
theorem dL_law_368 : decode cL_law 368 = .ok (.aload_n 0, 1) := by decide +kernel
theorem dL_law_369 : decode cL_law 369 = .ok (.iload_n 3, 1) := by decide +kernel
theorem dL_law_370 : decode cL_law 370 = .ok (.iconst 1, 1) := by decide +kernel
theorem dL_law_371 : decode cL_law 371 = .ok (.iadd, 1) := by decide +kernel
theorem dL_law_372 : decode cL_law 372 = .ok (.iaload, 1) := by decide +kernel
theorem dL_law_373 : decode cL_law 373 = .ok (.aload_n 0, 1) := by decide +kernel
theorem dL_law_374 : decode cL_law 374 = .ok (.iload_n 3, 1) := by decide +kernel
theorem dL_law_375 : decode cL_law 375 = .ok (.iconst 2, 1) := by decide +kernel
theorem dL_law_376 : decode cL_law 376 = .ok (.iadd, 1) := by decide +kernel
theorem dL_law_377 : decode cL_law 377 = .ok (.iaload, 1) := by decide +kernel
theorem dL_law_378 : decode cL_law 378 = .ok (.invokevirtual 35, 3) := by decide +kernel
theorem dL_law_381 : decode cL_law 381 = .ok (.aload_n 2, 1) := by decide +kernel
theorem dL_law_382 : decode cL_law 382 = .ok (.aload_n 0, 1) := by decide +kernel
theorem dL_law_383 : decode cL_law 383 = .ok (.iload_n 3, 1) := by decide +kernel
theorem dL_law_384 : decode cL_law 384 = .ok (.iconst 1, 1) := by decide +kernel
theorem dL_law_385 : decode cL_law 385 = .ok (.iadd, 1) := by decide +kernel
theorem dL_law_386 : decode cL_law 386 = .ok (.iaload, 1) := by decide +kernel
theorem dL_law_387 : decode cL_law 387 = .ok (.aload_n 0, 1) := by decide +kernel
theorem dL_law_388 : decode cL_law 388 = .ok (.iload_n 3, 1) := by decide +kernel
theorem dL_law_389 : decode cL_law 389 = .ok (.iconst 2, 1) := by decide +kernel
theorem dL_law_390 : decode cL_law 390 = .ok (.iadd, 1) := by decide +kernel
theorem dL_law_391 : decode cL_law 391 = .ok (.iaload, 1) := by decide +kernel
theorem dL_law_392 : decode cL_law 392 = .ok (.invokevirtual 38, 3) := by decide +kernel
theorem dL_law_395 : decode cL_law 395 = .ok (.if_icmp .eq 1166, 3) := by decide +kernel
theorem dL_law_398 : decode cL_law 398 = .ok (.iconst 0, 1) := by decide +kernel
theorem dL_law_399 : decode cL_law 399 = .ok (.ireturn, 1) := by decide +kernel
theorem dL_law_400 : decode cL_law 400 = .ok (.aload_n 1, 1) := by decide +kernel
theorem dL_law_401 : decode cL_law 401 = .ok (.aload_n 0, 1) := by decide +kernel
theorem dL_law_402 : decode cL_law 402 = .ok (.iload_n 3, 1) := by decide +kernel
theorem dL_law_403 : decode cL_law 403 = .ok (.iconst 1, 1) := by decide +kernel
theorem dL_law_404 : decode cL_law 404 = .ok (.iadd, 1) := by decide +kernel
theorem dL_law_405 : decode cL_law 405 = .ok (.iaload, 1) := by decide +kernel
theorem dL_law_406 : decode cL_law 406 = .ok (.aload_n 0, 1) := by decide +kernel
theorem dL_law_407 : decode cL_law 407 = .ok (.iload_n 3, 1) := by decide +kernel
theorem dL_law_408 : decode cL_law 408 = .ok (.iconst 2, 1) := by decide +kernel
theorem dL_law_409 : decode cL_law 409 = .ok (.iadd, 1) := by decide +kernel
theorem dL_law_410 : decode cL_law 410 = .ok (.iaload, 1) := by decide +kernel
theorem dL_law_411 : decode cL_law 411 = .ok (.invokevirtual 39, 3) := by decide +kernel
theorem dL_law_414 : decode cL_law 414 = .ok (.aload_n 2, 1) := by decide +kernel
theorem dL_law_415 : decode cL_law 415 = .ok (.aload_n 0, 1) := by decide +kernel
theorem dL_law_416 : decode cL_law 416 = .ok (.iload_n 3, 1) := by decide +kernel
theorem dL_law_417 : decode cL_law 417 = .ok (.iconst 1, 1) := by decide +kernel
theorem dL_law_418 : decode cL_law 418 = .ok (.iadd, 1) := by decide +kernel
theorem dL_law_419 : decode cL_law 419 = .ok (.iaload, 1) := by decide +kernel
theorem dL_law_420 : decode cL_law 420 = .ok (.aload_n 0, 1) := by decide +kernel
theorem dL_law_421 : decode cL_law 421 = .ok (.iload_n 3, 1) := by decide +kernel
theorem dL_law_422 : decode cL_law 422 = .ok (.iconst 2, 1) := by decide +kernel
theorem dL_law_423 : decode cL_law 423 = .ok (.iadd, 1) := by decide +kernel
theorem dL_law_424 : decode cL_law 424 = .ok (.iaload, 1) := by decide +kernel
theorem dL_law_425 : decode cL_law 425 = .ok (.invokevirtual 42, 3) := by decide +kernel
theorem dL_law_428 : decode cL_law 428 = .ok (.if_icmp .eq 1133, 3) := by decide +kernel
theorem dL_law_431 : decode cL_law 431 = .ok (.iconst 0, 1) := by decide +kernel
theorem dL_law_432 : decode cL_law 432 = .ok (.ireturn, 1) := by decide +kernel
theorem dL_law_433 : decode cL_law 433 = .ok (.aload_n 1, 1) := by decide +kernel
theorem dL_law_434 : decode cL_law 434 = .ok (.aload_n 0, 1) := by decide +kernel
theorem dL_law_435 : decode cL_law 435 = .ok (.iload_n 3, 1) := by decide +kernel
theorem dL_law_436 : decode cL_law 436 = .ok (.iconst 1, 1) := by decide +kernel
theorem dL_law_437 : decode cL_law 437 = .ok (.iadd, 1) := by decide +kernel
theorem dL_law_438 : decode cL_law 438 = .ok (.iaload, 1) := by decide +kernel
theorem dL_law_439 : decode cL_law 439 = .ok (.aload_n 0, 1) := by decide +kernel
theorem dL_law_440 : decode cL_law 440 = .ok (.iload_n 3, 1) := by decide +kernel
theorem dL_law_441 : decode cL_law 441 = .ok (.iconst 2, 1) := by decide +kernel
theorem dL_law_442 : decode cL_law 442 = .ok (.iadd, 1) := by decide +kernel
theorem dL_law_443 : decode cL_law 443 = .ok (.iaload, 1) := by decide +kernel
theorem dL_law_444 : decode cL_law 444 = .ok (.aload_n 0, 1) := by decide +kernel
theorem dL_law_445 : decode cL_law 445 = .ok (.iload_n 3, 1) := by decide +kernel
theorem dL_law_446 : decode cL_law 446 = .ok (.iconst 3, 1) := by decide +kernel
theorem dL_law_447 : decode cL_law 447 = .ok (.iadd, 1) := by decide +kernel
theorem dL_law_448 : decode cL_law 448 = .ok (.iaload, 1) := by decide +kernel
theorem dL_law_449 : decode cL_law 449 = .ok (.invokevirtual 43, 3) := by decide +kernel
theorem dL_law_452 : decode cL_law 452 = .ok (.aload_n 2, 1) := by decide +kernel
theorem dL_law_453 : decode cL_law 453 = .ok (.aload_n 0, 1) := by decide +kernel
theorem dL_law_454 : decode cL_law 454 = .ok (.iload_n 3, 1) := by decide +kernel
theorem dL_law_455 : decode cL_law 455 = .ok (.iconst 1, 1) := by decide +kernel
theorem dL_law_456 : decode cL_law 456 = .ok (.iadd, 1) := by decide +kernel
theorem dL_law_457 : decode cL_law 457 = .ok (.iaload, 1) := by decide +kernel
theorem dL_law_458 : decode cL_law 458 = .ok (.aload_n 0, 1) := by decide +kernel
theorem dL_law_459 : decode cL_law 459 = .ok (.iload_n 3, 1) := by decide +kernel
theorem dL_law_460 : decode cL_law 460 = .ok (.iconst 2, 1) := by decide +kernel
theorem dL_law_461 : decode cL_law 461 = .ok (.iadd, 1) := by decide +kernel
theorem dL_law_462 : decode cL_law 462 = .ok (.iaload, 1) := by decide +kernel
theorem dL_law_463 : decode cL_law 463 = .ok (.aload_n 0, 1) := by decide +kernel
theorem dL_law_464 : decode cL_law 464 = .ok (.iload_n 3, 1) := by decide +kernel
theorem dL_law_465 : decode cL_law 465 = .ok (.iconst 3, 1) := by decide +kernel
theorem dL_law_466 : decode cL_law 466 = .ok (.iadd, 1) := by decide +kernel
theorem dL_law_467 : decode cL_law 467 = .ok (.iaload, 1) := by decide +kernel
theorem dL_law_468 : decode cL_law 468 = .ok (.invokevirtual 47, 3) := by decide +kernel
theorem dL_law_471 : decode cL_law 471 = .ok (.if_icmp .eq 1090, 3) := by decide +kernel
theorem dL_law_474 : decode cL_law 474 = .ok (.iconst 0, 1) := by decide +kernel
theorem dL_law_475 : decode cL_law 475 = .ok (.ireturn, 1) := by decide +kernel
theorem dL_law_476 : decode cL_law 476 = .ok (.aload_n 1, 1) := by decide +kernel
theorem dL_law_477 : decode cL_law 477 = .ok (.aload_n 0, 1) := by decide +kernel
theorem dL_law_478 : decode cL_law 478 = .ok (.iload_n 3, 1) := by decide +kernel
theorem dL_law_479 : decode cL_law 479 = .ok (.iconst 1, 1) := by decide +kernel
theorem dL_law_480 : decode cL_law 480 = .ok (.iadd, 1) := by decide +kernel
theorem dL_law_481 : decode cL_law 481 = .ok (.iaload, 1) := by decide +kernel
theorem dL_law_482 : decode cL_law 482 = .ok (.invokevirtual 48, 3) := by decide +kernel
theorem dL_law_485 : decode cL_law 485 = .ok (.aload_n 2, 1) := by decide +kernel
theorem dL_law_486 : decode cL_law 486 = .ok (.aload_n 0, 1) := by decide +kernel
theorem dL_law_487 : decode cL_law 487 = .ok (.iload_n 3, 1) := by decide +kernel
theorem dL_law_488 : decode cL_law 488 = .ok (.iconst 1, 1) := by decide +kernel
theorem dL_law_489 : decode cL_law 489 = .ok (.iadd, 1) := by decide +kernel
theorem dL_law_490 : decode cL_law 490 = .ok (.iaload, 1) := by decide +kernel
theorem dL_law_491 : decode cL_law 491 = .ok (.invokevirtual 51, 3) := by decide +kernel
theorem dL_law_494 : decode cL_law 494 = .ok (.if_icmp .eq 1067, 3) := by decide +kernel
theorem dL_law_497 : decode cL_law 497 = .ok (.iconst 0, 1) := by decide +kernel
theorem dL_law_498 : decode cL_law 498 = .ok (.ireturn, 1) := by decide +kernel
theorem dL_law_499 : decode cL_law 499 = .ok (.aload_n 1, 1) := by decide +kernel
theorem dL_law_500 : decode cL_law 500 = .ok (.aload_n 0, 1) := by decide +kernel
theorem dL_law_501 : decode cL_law 501 = .ok (.iload_n 3, 1) := by decide +kernel
theorem dL_law_502 : decode cL_law 502 = .ok (.iconst 1, 1) := by decide +kernel
theorem dL_law_503 : decode cL_law 503 = .ok (.iadd, 1) := by decide +kernel
theorem dL_law_504 : decode cL_law 504 = .ok (.iaload, 1) := by decide +kernel
theorem dL_law_505 : decode cL_law 505 = .ok (.invokevirtual 52, 3) := by decide +kernel
theorem dL_law_508 : decode cL_law 508 = .ok (.aload_n 2, 1) := by decide +kernel
theorem dL_law_509 : decode cL_law 509 = .ok (.aload_n 0, 1) := by decide +kernel
theorem dL_law_510 : decode cL_law 510 = .ok (.iload_n 3, 1) := by decide +kernel
theorem dL_law_511 : decode cL_law 511 = .ok (.iconst 1, 1) := by decide +kernel
theorem dL_law_512 : decode cL_law 512 = .ok (.iadd, 1) := by decide +kernel
theorem dL_law_513 : decode cL_law 513 = .ok (.iaload, 1) := by decide +kernel
theorem dL_law_514 : decode cL_law 514 = .ok (.invokevirtual 55, 3) := by decide +kernel
theorem dL_law_517 : decode cL_law 517 = .ok (.if_icmp .eq 1044, 3) := by decide +kernel
theorem dL_law_520 : decode cL_law 520 = .ok (.iconst 0, 1) := by decide +kernel
theorem dL_law_521 : decode cL_law 521 = .ok (.ireturn, 1) := by decide +kernel
theorem dL_law_522 : decode cL_law 522 = .ok (.aload_n 1, 1) := by decide +kernel
theorem dL_law_523 : decode cL_law 523 = .ok (.aload_n 0, 1) := by decide +kernel
theorem dL_law_524 : decode cL_law 524 = .ok (.iload_n 3, 1) := by decide +kernel
theorem dL_law_525 : decode cL_law 525 = .ok (.iconst 1, 1) := by decide +kernel
theorem dL_law_526 : decode cL_law 526 = .ok (.iadd, 1) := by decide +kernel
theorem dL_law_527 : decode cL_law 527 = .ok (.iaload, 1) := by decide +kernel
theorem dL_law_528 : decode cL_law 528 = .ok (.aload_n 0, 1) := by decide +kernel
theorem dL_law_529 : decode cL_law 529 = .ok (.iload_n 3, 1) := by decide +kernel
theorem dL_law_530 : decode cL_law 530 = .ok (.iconst 2, 1) := by decide +kernel
theorem dL_law_531 : decode cL_law 531 = .ok (.iadd, 1) := by decide +kernel
theorem dL_law_532 : decode cL_law 532 = .ok (.iaload, 1) := by decide +kernel
theorem dL_law_533 : decode cL_law 533 = .ok (.invokevirtual 56, 3) := by decide +kernel
theorem dL_law_536 : decode cL_law 536 = .ok (.aload_n 2, 1) := by decide +kernel
theorem dL_law_537 : decode cL_law 537 = .ok (.aload_n 0, 1) := by decide +kernel
theorem dL_law_538 : decode cL_law 538 = .ok (.iload_n 3, 1) := by decide +kernel
theorem dL_law_539 : decode cL_law 539 = .ok (.iconst 1, 1) := by decide +kernel
theorem dL_law_540 : decode cL_law 540 = .ok (.iadd, 1) := by decide +kernel
theorem dL_law_541 : decode cL_law 541 = .ok (.iaload, 1) := by decide +kernel
theorem dL_law_542 : decode cL_law 542 = .ok (.aload_n 0, 1) := by decide +kernel
theorem dL_law_543 : decode cL_law 543 = .ok (.iload_n 3, 1) := by decide +kernel
theorem dL_law_544 : decode cL_law 544 = .ok (.iconst 2, 1) := by decide +kernel
theorem dL_law_545 : decode cL_law 545 = .ok (.iadd, 1) := by decide +kernel
theorem dL_law_546 : decode cL_law 546 = .ok (.iaload, 1) := by decide +kernel
theorem dL_law_547 : decode cL_law 547 = .ok (.invokevirtual 59, 3) := by decide +kernel
theorem dL_law_550 : decode cL_law 550 = .ok (.if_icmp .eq 1011, 3) := by decide +kernel
theorem dL_law_553 : decode cL_law 553 = .ok (.iconst 0, 1) := by decide +kernel
theorem dL_law_554 : decode cL_law 554 = .ok (.ireturn, 1) := by decide +kernel
theorem dL_law_555 : decode cL_law 555 = .ok (.aload_n 1, 1) := by decide +kernel
theorem dL_law_556 : decode cL_law 556 = .ok (.aload_n 0, 1) := by decide +kernel
theorem dL_law_557 : decode cL_law 557 = .ok (.iload_n 3, 1) := by decide +kernel
theorem dL_law_558 : decode cL_law 558 = .ok (.iconst 1, 1) := by decide +kernel
theorem dL_law_559 : decode cL_law 559 = .ok (.iadd, 1) := by decide +kernel
theorem dL_law_560 : decode cL_law 560 = .ok (.iaload, 1) := by decide +kernel
theorem dL_law_561 : decode cL_law 561 = .ok (.aload_n 0, 1) := by decide +kernel
theorem dL_law_562 : decode cL_law 562 = .ok (.iload_n 3, 1) := by decide +kernel
theorem dL_law_563 : decode cL_law 563 = .ok (.iconst 2, 1) := by decide +kernel
theorem dL_law_564 : decode cL_law 564 = .ok (.iadd, 1) := by decide +kernel
theorem dL_law_565 : decode cL_law 565 = .ok (.iaload, 1) := by decide +kernel
theorem dL_law_566 : decode cL_law 566 = .ok (.aload_n 0, 1) := by decide +kernel
theorem dL_law_567 : decode cL_law 567 = .ok (.iload_n 3, 1) := by decide +kernel
theorem dL_law_568 : decode cL_law 568 = .ok (.iconst 3, 1) := by decide +kernel
theorem dL_law_569 : decode cL_law 569 = .ok (.iadd, 1) := by decide +kernel
theorem dL_law_570 : decode cL_law 570 = .ok (.iaload, 1) := by decide +kernel
theorem dL_law_571 : decode cL_law 571 = .ok (.invokevirtual 60, 3) := by decide +kernel
theorem dL_law_574 : decode cL_law 574 = .ok (.aload_n 2, 1) := by decide +kernel
theorem dL_law_575 : decode cL_law 575 = .ok (.aload_n 0, 1) := by decide +kernel
theorem dL_law_576 : decode cL_law 576 = .ok (.iload_n 3, 1) := by decide +kernel
theorem dL_law_577 : decode cL_law 577 = .ok (.iconst 1, 1) := by decide +kernel
theorem dL_law_578 : decode cL_law 578 = .ok (.iadd, 1) := by decide +kernel
theorem dL_law_579 : decode cL_law 579 = .ok (.iaload, 1) := by decide +kernel
theorem dL_law_580 : decode cL_law 580 = .ok (.aload_n 0, 1) := by decide +kernel
theorem dL_law_581 : decode cL_law 581 = .ok (.iload_n 3, 1) := by decide +kernel
theorem dL_law_582 : decode cL_law 582 = .ok (.iconst 2, 1) := by decide +kernel
theorem dL_law_583 : decode cL_law 583 = .ok (.iadd, 1) := by decide +kernel
theorem dL_law_584 : decode cL_law 584 = .ok (.iaload, 1) := by decide +kernel
theorem dL_law_585 : decode cL_law 585 = .ok (.aload_n 0, 1) := by decide +kernel
theorem dL_law_586 : decode cL_law 586 = .ok (.iload_n 3, 1) := by decide +kernel
theorem dL_law_587 : decode cL_law 587 = .ok (.iconst 3, 1) := by decide +kernel
theorem dL_law_588 : decode cL_law 588 = .ok (.iadd, 1) := by decide +kernel
theorem dL_law_589 : decode cL_law 589 = .ok (.iaload, 1) := by decide +kernel
theorem dL_law_590 : decode cL_law 590 = .ok (.invokevirtual 63, 3) := by decide +kernel
theorem dL_law_593 : decode cL_law 593 = .ok (.if_icmp .eq 968, 3) := by decide +kernel
theorem dL_law_596 : decode cL_law 596 = .ok (.iconst 0, 1) := by decide +kernel
theorem dL_law_597 : decode cL_law 597 = .ok (.ireturn, 1) := by decide +kernel
theorem dL_law_598 : decode cL_law 598 = .ok (.aload_n 1, 1) := by decide +kernel
theorem dL_law_599 : decode cL_law 599 = .ok (.aload_n 0, 1) := by decide +kernel
theorem dL_law_600 : decode cL_law 600 = .ok (.iload_n 3, 1) := by decide +kernel
theorem dL_law_601 : decode cL_law 601 = .ok (.iconst 1, 1) := by decide +kernel
theorem dL_law_602 : decode cL_law 602 = .ok (.iadd, 1) := by decide +kernel
theorem dL_law_603 : decode cL_law 603 = .ok (.iaload, 1) := by decide +kernel
theorem dL_law_604 : decode cL_law 604 = .ok (.invokevirtual 64, 3) := by decide +kernel
theorem dL_law_607 : decode cL_law 607 = .ok (.aload_n 2, 1) := by decide +kernel
theorem dL_law_608 : decode cL_law 608 = .ok (.aload_n 0, 1) := by decide +kernel
theorem dL_law_609 : decode cL_law 609 = .ok (.iload_n 3, 1) := by decide +kernel
theorem dL_law_610 : decode cL_law 610 = .ok (.iconst 1, 1) := by decide +kernel
theorem dL_law_611 : decode cL_law 611 = .ok (.iadd, 1) := by decide +kernel
theorem dL_law_612 : decode cL_law 612 = .ok (.iaload, 1) := by decide +kernel
theorem dL_law_613 : decode cL_law 613 = .ok (.invokevirtual 67, 3) := by decide +kernel
theorem dL_law_616 : decode cL_law 616 = .ok (.if_icmp .eq 945, 3) := by decide +kernel
theorem dL_law_619 : decode cL_law 619 = .ok (.iconst 0, 1) := by decide +kernel
theorem dL_law_620 : decode cL_law 620 = .ok (.ireturn, 1) := by decide +kernel
theorem dL_law_621 : decode cL_law 621 = .ok (.aload_n 1, 1) := by decide +kernel
theorem dL_law_622 : decode cL_law 622 = .ok (.invokevirtual 68, 3) := by decide +kernel
theorem dL_law_625 : decode cL_law 625 = .ok (.aload_n 2, 1) := by decide +kernel
theorem dL_law_626 : decode cL_law 626 = .ok (.invokevirtual 72, 3) := by decide +kernel
theorem dL_law_629 : decode cL_law 629 = .ok (.if_icmp .eq 932, 3) := by decide +kernel
theorem dL_law_632 : decode cL_law 632 = .ok (.iconst 0, 1) := by decide +kernel
theorem dL_law_633 : decode cL_law 633 = .ok (.ireturn, 1) := by decide +kernel
theorem dL_law_634 : decode cL_law 634 = .ok (.aload_n 1, 1) := by decide +kernel
theorem dL_law_635 : decode cL_law 635 = .ok (.aload_n 0, 1) := by decide +kernel
theorem dL_law_636 : decode cL_law 636 = .ok (.iload_n 3, 1) := by decide +kernel
theorem dL_law_637 : decode cL_law 637 = .ok (.iconst 1, 1) := by decide +kernel
theorem dL_law_638 : decode cL_law 638 = .ok (.iadd, 1) := by decide +kernel
theorem dL_law_639 : decode cL_law 639 = .ok (.iaload, 1) := by decide +kernel
theorem dL_law_640 : decode cL_law 640 = .ok (.aload_n 0, 1) := by decide +kernel
theorem dL_law_641 : decode cL_law 641 = .ok (.iload_n 3, 1) := by decide +kernel
theorem dL_law_642 : decode cL_law 642 = .ok (.iconst 2, 1) := by decide +kernel
theorem dL_law_643 : decode cL_law 643 = .ok (.iadd, 1) := by decide +kernel
theorem dL_law_644 : decode cL_law 644 = .ok (.iaload, 1) := by decide +kernel
theorem dL_law_645 : decode cL_law 645 = .ok (.invokevirtual 73, 3) := by decide +kernel
theorem dL_law_648 : decode cL_law 648 = .ok (.aload_n 2, 1) := by decide +kernel
theorem dL_law_649 : decode cL_law 649 = .ok (.aload_n 0, 1) := by decide +kernel
theorem dL_law_650 : decode cL_law 650 = .ok (.iload_n 3, 1) := by decide +kernel
theorem dL_law_651 : decode cL_law 651 = .ok (.iconst 1, 1) := by decide +kernel
theorem dL_law_652 : decode cL_law 652 = .ok (.iadd, 1) := by decide +kernel
theorem dL_law_653 : decode cL_law 653 = .ok (.iaload, 1) := by decide +kernel
theorem dL_law_654 : decode cL_law 654 = .ok (.aload_n 0, 1) := by decide +kernel
theorem dL_law_655 : decode cL_law 655 = .ok (.iload_n 3, 1) := by decide +kernel
theorem dL_law_656 : decode cL_law 656 = .ok (.iconst 2, 1) := by decide +kernel
theorem dL_law_657 : decode cL_law 657 = .ok (.iadd, 1) := by decide +kernel
theorem dL_law_658 : decode cL_law 658 = .ok (.iaload, 1) := by decide +kernel
theorem dL_law_659 : decode cL_law 659 = .ok (.invokevirtual 76, 3) := by decide +kernel
theorem dL_law_662 : decode cL_law 662 = .ok (.if_icmp .eq 899, 3) := by decide +kernel
theorem dL_law_665 : decode cL_law 665 = .ok (.iconst 0, 1) := by decide +kernel
theorem dL_law_666 : decode cL_law 666 = .ok (.ireturn, 1) := by decide +kernel
theorem dL_law_667 : decode cL_law 667 = .ok (.aload_n 1, 1) := by decide +kernel
theorem dL_law_668 : decode cL_law 668 = .ok (.aload_n 0, 1) := by decide +kernel
theorem dL_law_669 : decode cL_law 669 = .ok (.iload_n 3, 1) := by decide +kernel
theorem dL_law_670 : decode cL_law 670 = .ok (.iconst 1, 1) := by decide +kernel
theorem dL_law_671 : decode cL_law 671 = .ok (.iadd, 1) := by decide +kernel
theorem dL_law_672 : decode cL_law 672 = .ok (.iaload, 1) := by decide +kernel
theorem dL_law_673 : decode cL_law 673 = .ok (.aload_n 0, 1) := by decide +kernel
theorem dL_law_674 : decode cL_law 674 = .ok (.iload_n 3, 1) := by decide +kernel
theorem dL_law_675 : decode cL_law 675 = .ok (.iconst 2, 1) := by decide +kernel
theorem dL_law_676 : decode cL_law 676 = .ok (.iadd, 1) := by decide +kernel
theorem dL_law_677 : decode cL_law 677 = .ok (.iaload, 1) := by decide +kernel
theorem dL_law_678 : decode cL_law 678 = .ok (.aload_n 0, 1) := by decide +kernel
theorem dL_law_679 : decode cL_law 679 = .ok (.iload_n 3, 1) := by decide +kernel
theorem dL_law_680 : decode cL_law 680 = .ok (.iconst 3, 1) := by decide +kernel
theorem dL_law_681 : decode cL_law 681 = .ok (.iadd, 1) := by decide +kernel
theorem dL_law_682 : decode cL_law 682 = .ok (.iaload, 1) := by decide +kernel
theorem dL_law_683 : decode cL_law 683 = .ok (.invokevirtual 77, 3) := by decide +kernel
theorem dL_law_686 : decode cL_law 686 = .ok (.aload_n 2, 1) := by decide +kernel
theorem dL_law_687 : decode cL_law 687 = .ok (.aload_n 0, 1) := by decide +kernel
theorem dL_law_688 : decode cL_law 688 = .ok (.iload_n 3, 1) := by decide +kernel
theorem dL_law_689 : decode cL_law 689 = .ok (.iconst 1, 1) := by decide +kernel
theorem dL_law_690 : decode cL_law 690 = .ok (.iadd, 1) := by decide +kernel
theorem dL_law_691 : decode cL_law 691 = .ok (.iaload, 1) := by decide +kernel
theorem dL_law_692 : decode cL_law 692 = .ok (.aload_n 0, 1) := by decide +kernel
theorem dL_law_693 : decode cL_law 693 = .ok (.iload_n 3, 1) := by decide +kernel
theorem dL_law_694 : decode cL_law 694 = .ok (.iconst 2, 1) := by decide +kernel
theorem dL_law_695 : decode cL_law 695 = .ok (.iadd, 1) := by decide +kernel
theorem dL_law_696 : decode cL_law 696 = .ok (.iaload, 1) := by decide +kernel
theorem dL_law_697 : decode cL_law 697 = .ok (.aload_n 0, 1) := by decide +kernel
theorem dL_law_698 : decode cL_law 698 = .ok (.iload_n 3, 1) := by decide +kernel
theorem dL_law_699 : decode cL_law 699 = .ok (.iconst 3, 1) := by decide +kernel
theorem dL_law_700 : decode cL_law 700 = .ok (.iadd, 1) := by decide +kernel
theorem dL_law_701 : decode cL_law 701 = .ok (.iaload, 1) := by decide +kernel
theorem dL_law_702 : decode cL_law 702 = .ok (.invokevirtual 80, 3) := by decide +kernel
theorem dL_law_705 : decode cL_law 705 = .ok (.if_icmp .eq 856, 3) := by decide +kernel
theorem dL_law_708 : decode cL_law 708 = .ok (.iconst 0, 1) := by decide +kernel
theorem dL_law_709 : decode cL_law 709 = .ok (.ireturn, 1) := by decide +kernel
theorem dL_law_710 : decode cL_law 710 = .ok (.aload_n 1, 1) := by decide +kernel
theorem dL_law_711 : decode cL_law 711 = .ok (.aload_n 0, 1) := by decide +kernel
theorem dL_law_712 : decode cL_law 712 = .ok (.iload_n 3, 1) := by decide +kernel
theorem dL_law_713 : decode cL_law 713 = .ok (.iconst 1, 1) := by decide +kernel
theorem dL_law_714 : decode cL_law 714 = .ok (.iadd, 1) := by decide +kernel
theorem dL_law_715 : decode cL_law 715 = .ok (.iaload, 1) := by decide +kernel
theorem dL_law_716 : decode cL_law 716 = .ok (.invokevirtual 81, 3) := by decide +kernel
theorem dL_law_719 : decode cL_law 719 = .ok (.aload_n 2, 1) := by decide +kernel
theorem dL_law_720 : decode cL_law 720 = .ok (.aload_n 0, 1) := by decide +kernel
theorem dL_law_721 : decode cL_law 721 = .ok (.iload_n 3, 1) := by decide +kernel
theorem dL_law_722 : decode cL_law 722 = .ok (.iconst 1, 1) := by decide +kernel
theorem dL_law_723 : decode cL_law 723 = .ok (.iadd, 1) := by decide +kernel
theorem dL_law_724 : decode cL_law 724 = .ok (.iaload, 1) := by decide +kernel
theorem dL_law_725 : decode cL_law 725 = .ok (.invokevirtual 84, 3) := by decide +kernel
theorem dL_law_728 : decode cL_law 728 = .ok (.if_icmp .eq 833, 3) := by decide +kernel
theorem dL_law_731 : decode cL_law 731 = .ok (.iconst 0, 1) := by decide +kernel
theorem dL_law_732 : decode cL_law 732 = .ok (.ireturn, 1) := by decide +kernel
theorem dL_law_733 : decode cL_law 733 = .ok (.aload_n 1, 1) := by decide +kernel
theorem dL_law_734 : decode cL_law 734 = .ok (.aload_n 0, 1) := by decide +kernel
theorem dL_law_735 : decode cL_law 735 = .ok (.iload_n 3, 1) := by decide +kernel
theorem dL_law_736 : decode cL_law 736 = .ok (.iconst 1, 1) := by decide +kernel
theorem dL_law_737 : decode cL_law 737 = .ok (.iadd, 1) := by decide +kernel
theorem dL_law_738 : decode cL_law 738 = .ok (.iaload, 1) := by decide +kernel
theorem dL_law_739 : decode cL_law 739 = .ok (.aload_n 0, 1) := by decide +kernel
theorem dL_law_740 : decode cL_law 740 = .ok (.iload_n 3, 1) := by decide +kernel
theorem dL_law_741 : decode cL_law 741 = .ok (.iconst 2, 1) := by decide +kernel
theorem dL_law_742 : decode cL_law 742 = .ok (.iadd, 1) := by decide +kernel
theorem dL_law_743 : decode cL_law 743 = .ok (.iaload, 1) := by decide +kernel
theorem dL_law_744 : decode cL_law 744 = .ok (.invokevirtual 85, 3) := by decide +kernel
theorem dL_law_747 : decode cL_law 747 = .ok (.aload_n 2, 1) := by decide +kernel
theorem dL_law_748 : decode cL_law 748 = .ok (.aload_n 0, 1) := by decide +kernel
theorem dL_law_749 : decode cL_law 749 = .ok (.iload_n 3, 1) := by decide +kernel
theorem dL_law_750 : decode cL_law 750 = .ok (.iconst 1, 1) := by decide +kernel
theorem dL_law_751 : decode cL_law 751 = .ok (.iadd, 1) := by decide +kernel
theorem dL_law_752 : decode cL_law 752 = .ok (.iaload, 1) := by decide +kernel
theorem dL_law_753 : decode cL_law 753 = .ok (.aload_n 0, 1) := by decide +kernel
theorem dL_law_754 : decode cL_law 754 = .ok (.iload_n 3, 1) := by decide +kernel
theorem dL_law_755 : decode cL_law 755 = .ok (.iconst 2, 1) := by decide +kernel
theorem dL_law_756 : decode cL_law 756 = .ok (.iadd, 1) := by decide +kernel
theorem dL_law_757 : decode cL_law 757 = .ok (.iaload, 1) := by decide +kernel
theorem dL_law_758 : decode cL_law 758 = .ok (.invokevirtual 88, 3) := by decide +kernel
theorem dL_law_761 : decode cL_law 761 = .ok (.if_icmp .eq 800, 3) := by decide +kernel
theorem dL_law_764 : decode cL_law 764 = .ok (.iconst 0, 1) := by decide +kernel
theorem dL_law_765 : decode cL_law 765 = .ok (.ireturn, 1) := by decide +kernel
theorem dL_law_766 : decode cL_law 766 = .ok (.aload_n 1, 1) := by decide +kernel
theorem dL_law_767 : decode cL_law 767 = .ok (.aload_n 0, 1) := by decide +kernel
theorem dL_law_768 : decode cL_law 768 = .ok (.iload_n 3, 1) := by decide +kernel
theorem dL_law_769 : decode cL_law 769 = .ok (.iconst 1, 1) := by decide +kernel
theorem dL_law_770 : decode cL_law 770 = .ok (.iadd, 1) := by decide +kernel
theorem dL_law_771 : decode cL_law 771 = .ok (.iaload, 1) := by decide +kernel
theorem dL_law_772 : decode cL_law 772 = .ok (.aload_n 0, 1) := by decide +kernel
theorem dL_law_773 : decode cL_law 773 = .ok (.iload_n 3, 1) := by decide +kernel
theorem dL_law_774 : decode cL_law 774 = .ok (.iconst 2, 1) := by decide +kernel
theorem dL_law_775 : decode cL_law 775 = .ok (.iadd, 1) := by decide +kernel
theorem dL_law_776 : decode cL_law 776 = .ok (.iaload, 1) := by decide +kernel
theorem dL_law_777 : decode cL_law 777 = .ok (.invokevirtual 89, 3) := by decide +kernel
theorem dL_law_780 : decode cL_law 780 = .ok (.aload_n 2, 1) := by decide +kernel
theorem dL_law_781 : decode cL_law 781 = .ok (.aload_n 0, 1) := by decide +kernel
theorem dL_law_782 : decode cL_law 782 = .ok (.iload_n 3, 1) := by decide +kernel
theorem dL_law_783 : decode cL_law 783 = .ok (.iconst 1, 1) := by decide +kernel
theorem dL_law_784 : decode cL_law 784 = .ok (.iadd, 1) := by decide +kernel
theorem dL_law_785 : decode cL_law 785 = .ok (.iaload, 1) := by decide +kernel
theorem dL_law_786 : decode cL_law 786 = .ok (.aload_n 0, 1) := by decide +kernel
theorem dL_law_787 : decode cL_law 787 = .ok (.iload_n 3, 1) := by decide +kernel
theorem dL_law_788 : decode cL_law 788 = .ok (.iconst 2, 1) := by decide +kernel
theorem dL_law_789 : decode cL_law 789 = .ok (.iadd, 1) := by decide +kernel
theorem dL_law_790 : decode cL_law 790 = .ok (.iaload, 1) := by decide +kernel
theorem dL_law_791 : decode cL_law 791 = .ok (.invokevirtual 92, 3) := by decide +kernel
theorem dL_law_794 : decode cL_law 794 = .ok (.if_icmp .eq 767, 3) := by decide +kernel
theorem dL_law_797 : decode cL_law 797 = .ok (.iconst 0, 1) := by decide +kernel
theorem dL_law_798 : decode cL_law 798 = .ok (.ireturn, 1) := by decide +kernel
theorem dL_law_799 : decode cL_law 799 = .ok (.aload_n 1, 1) := by decide +kernel
theorem dL_law_800 : decode cL_law 800 = .ok (.aload_n 0, 1) := by decide +kernel
theorem dL_law_801 : decode cL_law 801 = .ok (.iload_n 3, 1) := by decide +kernel
theorem dL_law_802 : decode cL_law 802 = .ok (.iconst 1, 1) := by decide +kernel
theorem dL_law_803 : decode cL_law 803 = .ok (.iadd, 1) := by decide +kernel
theorem dL_law_804 : decode cL_law 804 = .ok (.iaload, 1) := by decide +kernel
theorem dL_law_805 : decode cL_law 805 = .ok (.invokevirtual 93, 3) := by decide +kernel
theorem dL_law_808 : decode cL_law 808 = .ok (.aload_n 2, 1) := by decide +kernel
theorem dL_law_809 : decode cL_law 809 = .ok (.aload_n 0, 1) := by decide +kernel
theorem dL_law_810 : decode cL_law 810 = .ok (.iload_n 3, 1) := by decide +kernel
theorem dL_law_811 : decode cL_law 811 = .ok (.iconst 1, 1) := by decide +kernel
theorem dL_law_812 : decode cL_law 812 = .ok (.iadd, 1) := by decide +kernel
theorem dL_law_813 : decode cL_law 813 = .ok (.iaload, 1) := by decide +kernel
theorem dL_law_814 : decode cL_law 814 = .ok (.invokevirtual 96, 3) := by decide +kernel
theorem dL_law_817 : decode cL_law 817 = .ok (.if_icmp .eq 744, 3) := by decide +kernel
theorem dL_law_820 : decode cL_law 820 = .ok (.iconst 0, 1) := by decide +kernel
theorem dL_law_821 : decode cL_law 821 = .ok (.ireturn, 1) := by decide +kernel
theorem dL_law_822 : decode cL_law 822 = .ok (.aload_n 1, 1) := by decide +kernel
theorem dL_law_823 : decode cL_law 823 = .ok (.invokevirtual 97, 3) := by decide +kernel
theorem dL_law_826 : decode cL_law 826 = .ok (.aload_n 2, 1) := by decide +kernel
theorem dL_law_827 : decode cL_law 827 = .ok (.invokevirtual 100, 3) := by decide +kernel
theorem dL_law_830 : decode cL_law 830 = .ok (.if_icmp .eq 731, 3) := by decide +kernel
theorem dL_law_833 : decode cL_law 833 = .ok (.iconst 0, 1) := by decide +kernel
theorem dL_law_834 : decode cL_law 834 = .ok (.ireturn, 1) := by decide +kernel
theorem dL_law_835 : decode cL_law 835 = .ok (.aload_n 1, 1) := by decide +kernel
theorem dL_law_836 : decode cL_law 836 = .ok (.aload_n 0, 1) := by decide +kernel
theorem dL_law_837 : decode cL_law 837 = .ok (.iload_n 3, 1) := by decide +kernel
theorem dL_law_838 : decode cL_law 838 = .ok (.iconst 1, 1) := by decide +kernel
theorem dL_law_839 : decode cL_law 839 = .ok (.iadd, 1) := by decide +kernel
theorem dL_law_840 : decode cL_law 840 = .ok (.iaload, 1) := by decide +kernel
theorem dL_law_841 : decode cL_law 841 = .ok (.aload_n 0, 1) := by decide +kernel
theorem dL_law_842 : decode cL_law 842 = .ok (.iload_n 3, 1) := by decide +kernel
theorem dL_law_843 : decode cL_law 843 = .ok (.iconst 2, 1) := by decide +kernel
theorem dL_law_844 : decode cL_law 844 = .ok (.iadd, 1) := by decide +kernel
theorem dL_law_845 : decode cL_law 845 = .ok (.iaload, 1) := by decide +kernel
theorem dL_law_846 : decode cL_law 846 = .ok (.invokevirtual 101, 3) := by decide +kernel
theorem dL_law_849 : decode cL_law 849 = .ok (.aload_n 2, 1) := by decide +kernel
theorem dL_law_850 : decode cL_law 850 = .ok (.aload_n 0, 1) := by decide +kernel
theorem dL_law_851 : decode cL_law 851 = .ok (.iload_n 3, 1) := by decide +kernel
theorem dL_law_852 : decode cL_law 852 = .ok (.iconst 1, 1) := by decide +kernel
theorem dL_law_853 : decode cL_law 853 = .ok (.iadd, 1) := by decide +kernel
theorem dL_law_854 : decode cL_law 854 = .ok (.iaload, 1) := by decide +kernel
theorem dL_law_855 : decode cL_law 855 = .ok (.aload_n 0, 1) := by decide +kernel
theorem dL_law_856 : decode cL_law 856 = .ok (.iload_n 3, 1) := by decide +kernel
theorem dL_law_857 : decode cL_law 857 = .ok (.iconst 2, 1) := by decide +kernel
theorem dL_law_858 : decode cL_law 858 = .ok (.iadd, 1) := by decide +kernel
theorem dL_law_859 : decode cL_law 859 = .ok (.iaload, 1) := by decide +kernel
theorem dL_law_860 : decode cL_law 860 = .ok (.invokevirtual 104, 3) := by decide +kernel
theorem dL_law_863 : decode cL_law 863 = .ok (.if_icmp .eq 698, 3) := by decide +kernel
theorem dL_law_866 : decode cL_law 866 = .ok (.iconst 0, 1) := by decide +kernel
theorem dL_law_867 : decode cL_law 867 = .ok (.ireturn, 1) := by decide +kernel
theorem dL_law_868 : decode cL_law 868 = .ok (.aload_n 1, 1) := by decide +kernel
theorem dL_law_869 : decode cL_law 869 = .ok (.aload_n 0, 1) := by decide +kernel
theorem dL_law_870 : decode cL_law 870 = .ok (.iload_n 3, 1) := by decide +kernel
theorem dL_law_871 : decode cL_law 871 = .ok (.iconst 1, 1) := by decide +kernel
theorem dL_law_872 : decode cL_law 872 = .ok (.iadd, 1) := by decide +kernel
theorem dL_law_873 : decode cL_law 873 = .ok (.iaload, 1) := by decide +kernel
theorem dL_law_874 : decode cL_law 874 = .ok (.aload_n 0, 1) := by decide +kernel
theorem dL_law_875 : decode cL_law 875 = .ok (.iload_n 3, 1) := by decide +kernel
theorem dL_law_876 : decode cL_law 876 = .ok (.iconst 2, 1) := by decide +kernel
theorem dL_law_877 : decode cL_law 877 = .ok (.iadd, 1) := by decide +kernel
theorem dL_law_878 : decode cL_law 878 = .ok (.iaload, 1) := by decide +kernel
theorem dL_law_879 : decode cL_law 879 = .ok (.invokevirtual 105, 3) := by decide +kernel
theorem dL_law_882 : decode cL_law 882 = .ok (.aload_n 2, 1) := by decide +kernel
theorem dL_law_883 : decode cL_law 883 = .ok (.aload_n 0, 1) := by decide +kernel
theorem dL_law_884 : decode cL_law 884 = .ok (.iload_n 3, 1) := by decide +kernel
theorem dL_law_885 : decode cL_law 885 = .ok (.iconst 1, 1) := by decide +kernel
theorem dL_law_886 : decode cL_law 886 = .ok (.iadd, 1) := by decide +kernel
theorem dL_law_887 : decode cL_law 887 = .ok (.iaload, 1) := by decide +kernel
theorem dL_law_888 : decode cL_law 888 = .ok (.aload_n 0, 1) := by decide +kernel
theorem dL_law_889 : decode cL_law 889 = .ok (.iload_n 3, 1) := by decide +kernel
theorem dL_law_890 : decode cL_law 890 = .ok (.iconst 2, 1) := by decide +kernel
theorem dL_law_891 : decode cL_law 891 = .ok (.iadd, 1) := by decide +kernel
theorem dL_law_892 : decode cL_law 892 = .ok (.iaload, 1) := by decide +kernel
theorem dL_law_893 : decode cL_law 893 = .ok (.invokevirtual 108, 3) := by decide +kernel
theorem dL_law_896 : decode cL_law 896 = .ok (.if_icmp .eq 665, 3) := by decide +kernel
theorem dL_law_899 : decode cL_law 899 = .ok (.iconst 0, 1) := by decide +kernel
theorem dL_law_900 : decode cL_law 900 = .ok (.ireturn, 1) := by decide +kernel
theorem dL_law_901 : decode cL_law 901 = .ok (.aload_n 1, 1) := by decide +kernel
theorem dL_law_902 : decode cL_law 902 = .ok (.aload_n 0, 1) := by decide +kernel
theorem dL_law_903 : decode cL_law 903 = .ok (.iload_n 3, 1) := by decide +kernel
theorem dL_law_904 : decode cL_law 904 = .ok (.iconst 1, 1) := by decide +kernel
theorem dL_law_905 : decode cL_law 905 = .ok (.iadd, 1) := by decide +kernel
theorem dL_law_906 : decode cL_law 906 = .ok (.iaload, 1) := by decide +kernel
theorem dL_law_907 : decode cL_law 907 = .ok (.aload_n 0, 1) := by decide +kernel
theorem dL_law_908 : decode cL_law 908 = .ok (.iload_n 3, 1) := by decide +kernel
theorem dL_law_909 : decode cL_law 909 = .ok (.iconst 2, 1) := by decide +kernel
theorem dL_law_910 : decode cL_law 910 = .ok (.iadd, 1) := by decide +kernel
theorem dL_law_911 : decode cL_law 911 = .ok (.iaload, 1) := by decide +kernel
theorem dL_law_912 : decode cL_law 912 = .ok (.invokevirtual 109, 3) := by decide +kernel
theorem dL_law_915 : decode cL_law 915 = .ok (.aload_n 2, 1) := by decide +kernel
theorem dL_law_916 : decode cL_law 916 = .ok (.aload_n 0, 1) := by decide +kernel
theorem dL_law_917 : decode cL_law 917 = .ok (.iload_n 3, 1) := by decide +kernel
theorem dL_law_918 : decode cL_law 918 = .ok (.iconst 1, 1) := by decide +kernel
theorem dL_law_919 : decode cL_law 919 = .ok (.iadd, 1) := by decide +kernel
theorem dL_law_920 : decode cL_law 920 = .ok (.iaload, 1) := by decide +kernel
theorem dL_law_921 : decode cL_law 921 = .ok (.aload_n 0, 1) := by decide +kernel
theorem dL_law_922 : decode cL_law 922 = .ok (.iload_n 3, 1) := by decide +kernel
theorem dL_law_923 : decode cL_law 923 = .ok (.iconst 2, 1) := by decide +kernel
theorem dL_law_924 : decode cL_law 924 = .ok (.iadd, 1) := by decide +kernel
theorem dL_law_925 : decode cL_law 925 = .ok (.iaload, 1) := by decide +kernel
theorem dL_law_926 : decode cL_law 926 = .ok (.invokevirtual 112, 3) := by decide +kernel
theorem dL_law_929 : decode cL_law 929 = .ok (.if_icmp .eq 632, 3) := by decide +kernel
theorem dL_law_932 : decode cL_law 932 = .ok (.iconst 0, 1) := by decide +kernel
theorem dL_law_933 : decode cL_law 933 = .ok (.ireturn, 1) := by decide +kernel
theorem dL_law_934 : decode cL_law 934 = .ok (.aload_n 1, 1) := by decide +kernel
theorem dL_law_935 : decode cL_law 935 = .ok (.aload_n 0, 1) := by decide +kernel
theorem dL_law_936 : decode cL_law 936 = .ok (.iload_n 3, 1) := by decide +kernel
theorem dL_law_937 : decode cL_law 937 = .ok (.iconst 1, 1) := by decide +kernel
theorem dL_law_938 : decode cL_law 938 = .ok (.iadd, 1) := by decide +kernel
theorem dL_law_939 : decode cL_law 939 = .ok (.iaload, 1) := by decide +kernel
theorem dL_law_940 : decode cL_law 940 = .ok (.invokevirtual 113, 3) := by decide +kernel
theorem dL_law_943 : decode cL_law 943 = .ok (.aload_n 2, 1) := by decide +kernel
theorem dL_law_944 : decode cL_law 944 = .ok (.aload_n 0, 1) := by decide +kernel
theorem dL_law_945 : decode cL_law 945 = .ok (.iload_n 3, 1) := by decide +kernel
theorem dL_law_946 : decode cL_law 946 = .ok (.iconst 1, 1) := by decide +kernel
theorem dL_law_947 : decode cL_law 947 = .ok (.iadd, 1) := by decide +kernel
theorem dL_law_948 : decode cL_law 948 = .ok (.iaload, 1) := by decide +kernel
theorem dL_law_949 : decode cL_law 949 = .ok (.invokevirtual 116, 3) := by decide +kernel
theorem dL_law_952 : decode cL_law 952 = .ok (.if_icmp .eq 609, 3) := by decide +kernel
theorem dL_law_955 : decode cL_law 955 = .ok (.iconst 0, 1) := by decide +kernel
theorem dL_law_956 : decode cL_law 956 = .ok (.ireturn, 1) := by decide +kernel
theorem dL_law_957 : decode cL_law 957 = .ok (.aload_n 1, 1) := by decide +kernel
theorem dL_law_958 : decode cL_law 958 = .ok (.aload_n 0, 1) := by decide +kernel
theorem dL_law_959 : decode cL_law 959 = .ok (.iload_n 3, 1) := by decide +kernel
theorem dL_law_960 : decode cL_law 960 = .ok (.iconst 1, 1) := by decide +kernel
theorem dL_law_961 : decode cL_law 961 = .ok (.iadd, 1) := by decide +kernel
theorem dL_law_962 : decode cL_law 962 = .ok (.iaload, 1) := by decide +kernel
theorem dL_law_963 : decode cL_law 963 = .ok (.aload_n 0, 1) := by decide +kernel
theorem dL_law_964 : decode cL_law 964 = .ok (.iload_n 3, 1) := by decide +kernel
theorem dL_law_965 : decode cL_law 965 = .ok (.iconst 2, 1) := by decide +kernel
theorem dL_law_966 : decode cL_law 966 = .ok (.iadd, 1) := by decide +kernel
theorem dL_law_967 : decode cL_law 967 = .ok (.iaload, 1) := by decide +kernel
theorem dL_law_968 : decode cL_law 968 = .ok (.aload_n 0, 1) := by decide +kernel
theorem dL_law_969 : decode cL_law 969 = .ok (.iload_n 3, 1) := by decide +kernel
theorem dL_law_970 : decode cL_law 970 = .ok (.iconst 3, 1) := by decide +kernel
theorem dL_law_971 : decode cL_law 971 = .ok (.iadd, 1) := by decide +kernel
theorem dL_law_972 : decode cL_law 972 = .ok (.iaload, 1) := by decide +kernel
theorem dL_law_973 : decode cL_law 973 = .ok (.invokevirtual 117, 3) := by decide +kernel
theorem dL_law_976 : decode cL_law 976 = .ok (.aload_n 2, 1) := by decide +kernel
theorem dL_law_977 : decode cL_law 977 = .ok (.aload_n 0, 1) := by decide +kernel
theorem dL_law_978 : decode cL_law 978 = .ok (.iload_n 3, 1) := by decide +kernel
theorem dL_law_979 : decode cL_law 979 = .ok (.iconst 1, 1) := by decide +kernel
theorem dL_law_980 : decode cL_law 980 = .ok (.iadd, 1) := by decide +kernel
theorem dL_law_981 : decode cL_law 981 = .ok (.iaload, 1) := by decide +kernel
theorem dL_law_982 : decode cL_law 982 = .ok (.aload_n 0, 1) := by decide +kernel
theorem dL_law_983 : decode cL_law 983 = .ok (.iload_n 3, 1) := by decide +kernel
theorem dL_law_984 : decode cL_law 984 = .ok (.iconst 2, 1) := by decide +kernel
theorem dL_law_985 : decode cL_law 985 = .ok (.iadd, 1) := by decide +kernel
theorem dL_law_986 : decode cL_law 986 = .ok (.iaload, 1) := by decide +kernel
theorem dL_law_987 : decode cL_law 987 = .ok (.aload_n 0, 1) := by decide +kernel
theorem dL_law_988 : decode cL_law 988 = .ok (.iload_n 3, 1) := by decide +kernel
theorem dL_law_989 : decode cL_law 989 = .ok (.iconst 3, 1) := by decide +kernel
theorem dL_law_990 : decode cL_law 990 = .ok (.iadd, 1) := by decide +kernel
theorem dL_law_991 : decode cL_law 991 = .ok (.iaload, 1) := by decide +kernel
theorem dL_law_992 : decode cL_law 992 = .ok (.invokevirtual 120, 3) := by decide +kernel
theorem dL_law_995 : decode cL_law 995 = .ok (.if_icmp .eq 566, 3) := by decide +kernel
theorem dL_law_998 : decode cL_law 998 = .ok (.iconst 0, 1) := by decide +kernel
theorem dL_law_999 : decode cL_law 999 = .ok (.ireturn, 1) := by decide +kernel
theorem dL_law_1000 : decode cL_law 1000 = .ok (.aload_n 1, 1) := by decide +kernel
theorem dL_law_1001 : decode cL_law 1001 = .ok (.aload_n 0, 1) := by decide +kernel
theorem dL_law_1002 : decode cL_law 1002 = .ok (.iload_n 3, 1) := by decide +kernel
theorem dL_law_1003 : decode cL_law 1003 = .ok (.iconst 1, 1) := by decide +kernel
theorem dL_law_1004 : decode cL_law 1004 = .ok (.iadd, 1) := by decide +kernel
theorem dL_law_1005 : decode cL_law 1005 = .ok (.iaload, 1) := by decide +kernel
theorem dL_law_1006 : decode cL_law 1006 = .ok (.aload_n 0, 1) := by decide +kernel
theorem dL_law_1007 : decode cL_law 1007 = .ok (.iload_n 3, 1) := by decide +kernel
theorem dL_law_1008 : decode cL_law 1008 = .ok (.iconst 2, 1) := by decide +kernel
theorem dL_law_1009 : decode cL_law 1009 = .ok (.iadd, 1) := by decide +kernel
theorem dL_law_1010 : decode cL_law 1010 = .ok (.iaload, 1) := by decide +kernel
theorem dL_law_1011 : decode cL_law 1011 = .ok (.aload_n 0, 1) := by decide +kernel
theorem dL_law_1012 : decode cL_law 1012 = .ok (.iload_n 3, 1) := by decide +kernel
theorem dL_law_1013 : decode cL_law 1013 = .ok (.iconst 3, 1) := by decide +kernel
theorem dL_law_1014 : decode cL_law 1014 = .ok (.iadd, 1) := by decide +kernel
theorem dL_law_1015 : decode cL_law 1015 = .ok (.iaload, 1) := by decide +kernel
theorem dL_law_1016 : decode cL_law 1016 = .ok (.invokevirtual 121, 3) := by decide +kernel
theorem dL_law_1019 : decode cL_law 1019 = .ok (.aload_n 2, 1) := by decide +kernel
theorem dL_law_1020 : decode cL_law 1020 = .ok (.aload_n 0, 1) := by decide +kernel
theorem dL_law_1021 : decode cL_law 1021 = .ok (.iload_n 3, 1) := by decide +kernel
theorem dL_law_1022 : decode cL_law 1022 = .ok (.iconst 1, 1) := by decide +kernel
theorem dL_law_1023 : decode cL_law 1023 = .ok (.iadd, 1) := by decide +kernel
theorem dL_law_1024 : decode cL_law 1024 = .ok (.iaload, 1) := by decide +kernel
theorem dL_law_1025 : decode cL_law 1025 = .ok (.aload_n 0, 1) := by decide +kernel
theorem dL_law_1026 : decode cL_law 1026 = .ok (.iload_n 3, 1) := by decide +kernel
theorem dL_law_1027 : decode cL_law 1027 = .ok (.iconst 2, 1) := by decide +kernel
theorem dL_law_1028 : decode cL_law 1028 = .ok (.iadd, 1) := by decide +kernel
theorem dL_law_1029 : decode cL_law 1029 = .ok (.iaload, 1) := by decide +kernel
theorem dL_law_1030 : decode cL_law 1030 = .ok (.aload_n 0, 1) := by decide +kernel
theorem dL_law_1031 : decode cL_law 1031 = .ok (.iload_n 3, 1) := by decide +kernel
theorem dL_law_1032 : decode cL_law 1032 = .ok (.iconst 3, 1) := by decide +kernel
theorem dL_law_1033 : decode cL_law 1033 = .ok (.iadd, 1) := by decide +kernel
theorem dL_law_1034 : decode cL_law 1034 = .ok (.iaload, 1) := by decide +kernel
theorem dL_law_1035 : decode cL_law 1035 = .ok (.invokevirtual 124, 3) := by decide +kernel
theorem dL_law_1038 : decode cL_law 1038 = .ok (.if_icmp .eq 523, 3) := by decide +kernel
theorem dL_law_1041 : decode cL_law 1041 = .ok (.iconst 0, 1) := by decide +kernel
theorem dL_law_1042 : decode cL_law 1042 = .ok (.ireturn, 1) := by decide +kernel
theorem dL_law_1043 : decode cL_law 1043 = .ok (.aload_n 1, 1) := by decide +kernel
theorem dL_law_1044 : decode cL_law 1044 = .ok (.aload_n 0, 1) := by decide +kernel
theorem dL_law_1045 : decode cL_law 1045 = .ok (.iload_n 3, 1) := by decide +kernel
theorem dL_law_1046 : decode cL_law 1046 = .ok (.iconst 1, 1) := by decide +kernel
theorem dL_law_1047 : decode cL_law 1047 = .ok (.iadd, 1) := by decide +kernel
theorem dL_law_1048 : decode cL_law 1048 = .ok (.iaload, 1) := by decide +kernel
theorem dL_law_1049 : decode cL_law 1049 = .ok (.aload_n 0, 1) := by decide +kernel
theorem dL_law_1050 : decode cL_law 1050 = .ok (.iload_n 3, 1) := by decide +kernel
theorem dL_law_1051 : decode cL_law 1051 = .ok (.iconst 2, 1) := by decide +kernel
theorem dL_law_1052 : decode cL_law 1052 = .ok (.iadd, 1) := by decide +kernel
theorem dL_law_1053 : decode cL_law 1053 = .ok (.iaload, 1) := by decide +kernel
theorem dL_law_1054 : decode cL_law 1054 = .ok (.invokevirtual 125, 3) := by decide +kernel
theorem dL_law_1057 : decode cL_law 1057 = .ok (.aload_n 2, 1) := by decide +kernel
theorem dL_law_1058 : decode cL_law 1058 = .ok (.aload_n 0, 1) := by decide +kernel
theorem dL_law_1059 : decode cL_law 1059 = .ok (.iload_n 3, 1) := by decide +kernel
theorem dL_law_1060 : decode cL_law 1060 = .ok (.iconst 1, 1) := by decide +kernel
theorem dL_law_1061 : decode cL_law 1061 = .ok (.iadd, 1) := by decide +kernel
theorem dL_law_1062 : decode cL_law 1062 = .ok (.iaload, 1) := by decide +kernel
theorem dL_law_1063 : decode cL_law 1063 = .ok (.aload_n 0, 1) := by decide +kernel
theorem dL_law_1064 : decode cL_law 1064 = .ok (.iload_n 3, 1) := by decide +kernel
theorem dL_law_1065 : decode cL_law 1065 = .ok (.iconst 2, 1) := by decide +kernel
theorem dL_law_1066 : decode cL_law 1066 = .ok (.iadd, 1) := by decide +kernel
theorem dL_law_1067 : decode cL_law 1067 = .ok (.iaload, 1) := by decide +kernel
theorem dL_law_1068 : decode cL_law 1068 = .ok (.invokevirtual 128, 3) := by decide +kernel
theorem dL_law_1071 : decode cL_law 1071 = .ok (.if_icmp .eq 490, 3) := by decide +kernel
theorem dL_law_1074 : decode cL_law 1074 = .ok (.iconst 0, 1) := by decide +kernel
theorem dL_law_1075 : decode cL_law 1075 = .ok (.ireturn, 1) := by decide +kernel
theorem dL_law_1076 : decode cL_law 1076 = .ok (.aload_n 1, 1) := by decide +kernel
theorem dL_law_1077 : decode cL_law 1077 = .ok (.aload_n 0, 1) := by decide +kernel
theorem dL_law_1078 : decode cL_law 1078 = .ok (.iload_n 3, 1) := by decide +kernel
theorem dL_law_1079 : decode cL_law 1079 = .ok (.iconst 1, 1) := by decide +kernel
theorem dL_law_1080 : decode cL_law 1080 = .ok (.iadd, 1) := by decide +kernel
theorem dL_law_1081 : decode cL_law 1081 = .ok (.iaload, 1) := by decide +kernel
theorem dL_law_1082 : decode cL_law 1082 = .ok (.invokevirtual 129, 3) := by decide +kernel
theorem dL_law_1085 : decode cL_law 1085 = .ok (.aload_n 2, 1) := by decide +kernel
theorem dL_law_1086 : decode cL_law 1086 = .ok (.aload_n 0, 1) := by decide +kernel
theorem dL_law_1087 : decode cL_law 1087 = .ok (.iload_n 3, 1) := by decide +kernel
theorem dL_law_1088 : decode cL_law 1088 = .ok (.iconst 1, 1) := by decide +kernel
theorem dL_law_1089 : decode cL_law 1089 = .ok (.iadd, 1) := by decide +kernel
theorem dL_law_1090 : decode cL_law 1090 = .ok (.iaload, 1) := by decide +kernel
theorem dL_law_1091 : decode cL_law 1091 = .ok (.invokevirtual 132, 3) := by decide +kernel
theorem dL_law_1094 : decode cL_law 1094 = .ok (.if_icmp .eq 467, 3) := by decide +kernel
theorem dL_law_1097 : decode cL_law 1097 = .ok (.iconst 0, 1) := by decide +kernel
theorem dL_law_1098 : decode cL_law 1098 = .ok (.ireturn, 1) := by decide +kernel
theorem dL_law_1099 : decode cL_law 1099 = .ok (.aload_n 1, 1) := by decide +kernel
theorem dL_law_1100 : decode cL_law 1100 = .ok (.aload_n 0, 1) := by decide +kernel
theorem dL_law_1101 : decode cL_law 1101 = .ok (.iload_n 3, 1) := by decide +kernel
theorem dL_law_1102 : decode cL_law 1102 = .ok (.iconst 1, 1) := by decide +kernel
theorem dL_law_1103 : decode cL_law 1103 = .ok (.iadd, 1) := by decide +kernel
theorem dL_law_1104 : decode cL_law 1104 = .ok (.iaload, 1) := by decide +kernel
theorem dL_law_1105 : decode cL_law 1105 = .ok (.aload_n 0, 1) := by decide +kernel
theorem dL_law_1106 : decode cL_law 1106 = .ok (.iload_n 3, 1) := by decide +kernel
theorem dL_law_1107 : decode cL_law 1107 = .ok (.iconst 2, 1) := by decide +kernel
theorem dL_law_1108 : decode cL_law 1108 = .ok (.iadd, 1) := by decide +kernel
theorem dL_law_1109 : decode cL_law 1109 = .ok (.iaload, 1) := by decide +kernel
theorem dL_law_1110 : decode cL_law 1110 = .ok (.invokevirtual 133, 3) := by decide +kernel
theorem dL_law_1113 : decode cL_law 1113 = .ok (.aload_n 2, 1) := by decide +kernel
theorem dL_law_1114 : decode cL_law 1114 = .ok (.aload_n 0, 1) := by decide +kernel
theorem dL_law_1115 : decode cL_law 1115 = .ok (.iload_n 3, 1) := by decide +kernel
theorem dL_law_1116 : decode cL_law 1116 = .ok (.iconst 1, 1) := by decide +kernel
theorem dL_law_1117 : decode cL_law 1117 = .ok (.iadd, 1) := by decide +kernel
theorem dL_law_1118 : decode cL_law 1118 = .ok (.iaload, 1) := by decide +kernel
theorem dL_law_1119 : decode cL_law 1119 = .ok (.aload_n 0, 1) := by decide +kernel
theorem dL_law_1120 : decode cL_law 1120 = .ok (.iload_n 3, 1) := by decide +kernel
theorem dL_law_1121 : decode cL_law 1121 = .ok (.iconst 2, 1) := by decide +kernel
theorem dL_law_1122 : decode cL_law 1122 = .ok (.iadd, 1) := by decide +kernel
theorem dL_law_1123 : decode cL_law 1123 = .ok (.iaload, 1) := by decide +kernel
theorem dL_law_1124 : decode cL_law 1124 = .ok (.invokevirtual 137, 3) := by decide +kernel
theorem dL_law_1127 : decode cL_law 1127 = .ok (.lcmp, 1) := by decide +kernel
theorem dL_law_1128 : decode cL_law 1128 = .ok (.ifCond .eq 433, 3) := by decide +kernel
theorem dL_law_1131 : decode cL_law 1131 = .ok (.iconst 0, 1) := by decide +kernel
theorem dL_law_1132 : decode cL_law 1132 = .ok (.ireturn, 1) := by decide +kernel
theorem dL_law_1133 : decode cL_law 1133 = .ok (.aload_n 1, 1) := by decide +kernel
theorem dL_law_1134 : decode cL_law 1134 = .ok (.aload_n 0, 1) := by decide +kernel
theorem dL_law_1135 : decode cL_law 1135 = .ok (.iload_n 3, 1) := by decide +kernel
theorem dL_law_1136 : decode cL_law 1136 = .ok (.iconst 1, 1) := by decide +kernel
theorem dL_law_1137 : decode cL_law 1137 = .ok (.iadd, 1) := by decide +kernel
theorem dL_law_1138 : decode cL_law 1138 = .ok (.iaload, 1) := by decide +kernel
theorem dL_law_1139 : decode cL_law 1139 = .ok (.invokevirtual 138, 3) := by decide +kernel
theorem dL_law_1142 : decode cL_law 1142 = .ok (.aload_n 2, 1) := by decide +kernel
theorem dL_law_1143 : decode cL_law 1143 = .ok (.aload_n 0, 1) := by decide +kernel
theorem dL_law_1144 : decode cL_law 1144 = .ok (.iload_n 3, 1) := by decide +kernel
theorem dL_law_1145 : decode cL_law 1145 = .ok (.iconst 1, 1) := by decide +kernel
theorem dL_law_1146 : decode cL_law 1146 = .ok (.iadd, 1) := by decide +kernel
theorem dL_law_1147 : decode cL_law 1147 = .ok (.iaload, 1) := by decide +kernel
theorem dL_law_1148 : decode cL_law 1148 = .ok (.invokevirtual 141, 3) := by decide +kernel
theorem dL_law_1151 : decode cL_law 1151 = .ok (.if_icmp .eq 410, 3) := by decide +kernel
theorem dL_law_1154 : decode cL_law 1154 = .ok (.iconst 0, 1) := by decide +kernel
theorem dL_law_1155 : decode cL_law 1155 = .ok (.ireturn, 1) := by decide +kernel
theorem dL_law_1156 : decode cL_law 1156 = .ok (.aload_n 1, 1) := by decide +kernel
theorem dL_law_1157 : decode cL_law 1157 = .ok (.aload_n 0, 1) := by decide +kernel
theorem dL_law_1158 : decode cL_law 1158 = .ok (.iload_n 3, 1) := by decide +kernel
theorem dL_law_1159 : decode cL_law 1159 = .ok (.iconst 1, 1) := by decide +kernel
theorem dL_law_1160 : decode cL_law 1160 = .ok (.iadd, 1) := by decide +kernel
theorem dL_law_1161 : decode cL_law 1161 = .ok (.iaload, 1) := by decide +kernel
theorem dL_law_1162 : decode cL_law 1162 = .ok (.aload_n 0, 1) := by decide +kernel
theorem dL_law_1163 : decode cL_law 1163 = .ok (.iload_n 3, 1) := by decide +kernel
theorem dL_law_1164 : decode cL_law 1164 = .ok (.iconst 2, 1) := by decide +kernel
theorem dL_law_1165 : decode cL_law 1165 = .ok (.iadd, 1) := by decide +kernel
theorem dL_law_1166 : decode cL_law 1166 = .ok (.iaload, 1) := by decide +kernel
theorem dL_law_1167 : decode cL_law 1167 = .ok (.invokevirtual 142, 3) := by decide +kernel
theorem dL_law_1170 : decode cL_law 1170 = .ok (.aload_n 2, 1) := by decide +kernel
theorem dL_law_1171 : decode cL_law 1171 = .ok (.aload_n 0, 1) := by decide +kernel
theorem dL_law_1172 : decode cL_law 1172 = .ok (.iload_n 3, 1) := by decide +kernel
theorem dL_law_1173 : decode cL_law 1173 = .ok (.iconst 1, 1) := by decide +kernel
theorem dL_law_1174 : decode cL_law 1174 = .ok (.iadd, 1) := by decide +kernel
theorem dL_law_1175 : decode cL_law 1175 = .ok (.iaload, 1) := by decide +kernel
theorem dL_law_1176 : decode cL_law 1176 = .ok (.aload_n 0, 1) := by decide +kernel
theorem dL_law_1177 : decode cL_law 1177 = .ok (.iload_n 3, 1) := by decide +kernel
theorem dL_law_1178 : decode cL_law 1178 = .ok (.iconst 2, 1) := by decide +kernel
theorem dL_law_1179 : decode cL_law 1179 = .ok (.iadd, 1) := by decide +kernel
theorem dL_law_1180 : decode cL_law 1180 = .ok (.iaload, 1) := by decide +kernel
theorem dL_law_1181 : decode cL_law 1181 = .ok (.invokevirtual 145, 3) := by decide +kernel
theorem dL_law_1184 : decode cL_law 1184 = .ok (.if_icmp .eq 377, 3) := by decide +kernel
theorem dL_law_1187 : decode cL_law 1187 = .ok (.iconst 0, 1) := by decide +kernel
theorem dL_law_1188 : decode cL_law 1188 = .ok (.ireturn, 1) := by decide +kernel
theorem dL_law_1189 : decode cL_law 1189 = .ok (.aload_n 1, 1) := by decide +kernel
theorem dL_law_1190 : decode cL_law 1190 = .ok (.invokevirtual 146, 3) := by decide +kernel
theorem dL_law_1193 : decode cL_law 1193 = .ok (.aload_n 2, 1) := by decide +kernel
theorem dL_law_1194 : decode cL_law 1194 = .ok (.invokevirtual 149, 3) := by decide +kernel
theorem dL_law_1197 : decode cL_law 1197 = .ok (.if_icmp .eq 364, 3) := by decide +kernel
theorem dL_law_1200 : decode cL_law 1200 = .ok (.iconst 0, 1) := by decide +kernel
theorem dL_law_1201 : decode cL_law 1201 = .ok (.ireturn, 1) := by decide +kernel
theorem dL_law_1202 : decode cL_law 1202 = .ok (.aload_n 1, 1) := by decide +kernel
theorem dL_law_1203 : decode cL_law 1203 = .ok (.invokevirtual 150, 3) := by decide +kernel
theorem dL_law_1206 : decode cL_law 1206 = .ok (.aload_n 2, 1) := by decide +kernel
theorem dL_law_1207 : decode cL_law 1207 = .ok (.invokevirtual 153, 3) := by decide +kernel
theorem dL_law_1210 : decode cL_law 1210 = .ok (.if_icmp .eq 351, 3) := by decide +kernel
theorem dL_law_1213 : decode cL_law 1213 = .ok (.iconst 0, 1) := by decide +kernel
theorem dL_law_1214 : decode cL_law 1214 = .ok (.ireturn, 1) := by decide +kernel
theorem dL_law_1215 : decode cL_law 1215 = .ok (.aload_n 1, 1) := by decide +kernel
theorem dL_law_1216 : decode cL_law 1216 = .ok (.aload_n 0, 1) := by decide +kernel
theorem dL_law_1217 : decode cL_law 1217 = .ok (.iload_n 3, 1) := by decide +kernel
theorem dL_law_1218 : decode cL_law 1218 = .ok (.iconst 1, 1) := by decide +kernel
theorem dL_law_1219 : decode cL_law 1219 = .ok (.iadd, 1) := by decide +kernel
theorem dL_law_1220 : decode cL_law 1220 = .ok (.iaload, 1) := by decide +kernel
theorem dL_law_1221 : decode cL_law 1221 = .ok (.aload_n 0, 1) := by decide +kernel
theorem dL_law_1222 : decode cL_law 1222 = .ok (.iload_n 3, 1) := by decide +kernel
theorem dL_law_1223 : decode cL_law 1223 = .ok (.iconst 2, 1) := by decide +kernel
theorem dL_law_1224 : decode cL_law 1224 = .ok (.iadd, 1) := by decide +kernel
theorem dL_law_1225 : decode cL_law 1225 = .ok (.iaload, 1) := by decide +kernel
theorem dL_law_1226 : decode cL_law 1226 = .ok (.invokevirtual 154, 3) := by decide +kernel
theorem dL_law_1229 : decode cL_law 1229 = .ok (.aload_n 2, 1) := by decide +kernel
theorem dL_law_1230 : decode cL_law 1230 = .ok (.aload_n 0, 1) := by decide +kernel
theorem dL_law_1231 : decode cL_law 1231 = .ok (.iload_n 3, 1) := by decide +kernel
theorem dL_law_1232 : decode cL_law 1232 = .ok (.iconst 1, 1) := by decide +kernel
theorem dL_law_1233 : decode cL_law 1233 = .ok (.iadd, 1) := by decide +kernel
theorem dL_law_1234 : decode cL_law 1234 = .ok (.iaload, 1) := by decide +kernel
theorem dL_law_1235 : decode cL_law 1235 = .ok (.aload_n 0, 1) := by decide +kernel
theorem dL_law_1236 : decode cL_law 1236 = .ok (.iload_n 3, 1) := by decide +kernel
theorem dL_law_1237 : decode cL_law 1237 = .ok (.iconst 2, 1) := by decide +kernel
theorem dL_law_1238 : decode cL_law 1238 = .ok (.iadd, 1) := by decide +kernel
theorem dL_law_1239 : decode cL_law 1239 = .ok (.iaload, 1) := by decide +kernel
theorem dL_law_1240 : decode cL_law 1240 = .ok (.invokevirtual 157, 3) := by decide +kernel
theorem dL_law_1243 : decode cL_law 1243 = .ok (.if_icmp .eq 318, 3) := by decide +kernel
theorem dL_law_1246 : decode cL_law 1246 = .ok (.iconst 0, 1) := by decide +kernel
theorem dL_law_1247 : decode cL_law 1247 = .ok (.ireturn, 1) := by decide +kernel
theorem dL_law_1248 : decode cL_law 1248 = .ok (.aload_n 1, 1) := by decide +kernel
theorem dL_law_1249 : decode cL_law 1249 = .ok (.aload_n 0, 1) := by decide +kernel
theorem dL_law_1250 : decode cL_law 1250 = .ok (.iload_n 3, 1) := by decide +kernel
theorem dL_law_1251 : decode cL_law 1251 = .ok (.iconst 1, 1) := by decide +kernel
theorem dL_law_1252 : decode cL_law 1252 = .ok (.iadd, 1) := by decide +kernel
theorem dL_law_1253 : decode cL_law 1253 = .ok (.iaload, 1) := by decide +kernel
theorem dL_law_1254 : decode cL_law 1254 = .ok (.aload_n 0, 1) := by decide +kernel
theorem dL_law_1255 : decode cL_law 1255 = .ok (.iload_n 3, 1) := by decide +kernel
theorem dL_law_1256 : decode cL_law 1256 = .ok (.iconst 2, 1) := by decide +kernel
theorem dL_law_1257 : decode cL_law 1257 = .ok (.iadd, 1) := by decide +kernel
theorem dL_law_1258 : decode cL_law 1258 = .ok (.iaload, 1) := by decide +kernel
theorem dL_law_1259 : decode cL_law 1259 = .ok (.invokevirtual 158, 3) := by decide +kernel
theorem dL_law_1262 : decode cL_law 1262 = .ok (.aload_n 2, 1) := by decide +kernel
theorem dL_law_1263 : decode cL_law 1263 = .ok (.aload_n 0, 1) := by decide +kernel
theorem dL_law_1264 : decode cL_law 1264 = .ok (.iload_n 3, 1) := by decide +kernel
theorem dL_law_1265 : decode cL_law 1265 = .ok (.iconst 1, 1) := by decide +kernel
theorem dL_law_1266 : decode cL_law 1266 = .ok (.iadd, 1) := by decide +kernel
theorem dL_law_1267 : decode cL_law 1267 = .ok (.iaload, 1) := by decide +kernel
theorem dL_law_1268 : decode cL_law 1268 = .ok (.aload_n 0, 1) := by decide +kernel
theorem dL_law_1269 : decode cL_law 1269 = .ok (.iload_n 3, 1) := by decide +kernel
theorem dL_law_1270 : decode cL_law 1270 = .ok (.iconst 2, 1) := by decide +kernel
theorem dL_law_1271 : decode cL_law 1271 = .ok (.iadd, 1) := by decide +kernel
theorem dL_law_1272 : decode cL_law 1272 = .ok (.iaload, 1) := by decide +kernel
theorem dL_law_1273 : decode cL_law 1273 = .ok (.invokevirtual 161, 3) := by decide +kernel
theorem dL_law_1276 : decode cL_law 1276 = .ok (.if_icmp .eq 285, 3) := by decide +kernel
theorem dL_law_1279 : decode cL_law 1279 = .ok (.iconst 0, 1) := by decide +kernel
theorem dL_law_1280 : decode cL_law 1280 = .ok (.ireturn, 1) := by decide +kernel
theorem dL_law_1281 : decode cL_law 1281 = .ok (.aload_n 1, 1) := by decide +kernel
theorem dL_law_1282 : decode cL_law 1282 = .ok (.aload_n 0, 1) := by decide +kernel
theorem dL_law_1283 : decode cL_law 1283 = .ok (.iload_n 3, 1) := by decide +kernel
theorem dL_law_1284 : decode cL_law 1284 = .ok (.iconst 1, 1) := by decide +kernel
theorem dL_law_1285 : decode cL_law 1285 = .ok (.iadd, 1) := by decide +kernel
theorem dL_law_1286 : decode cL_law 1286 = .ok (.iaload, 1) := by decide +kernel
theorem dL_law_1287 : decode cL_law 1287 = .ok (.aload_n 0, 1) := by decide +kernel
theorem dL_law_1288 : decode cL_law 1288 = .ok (.iload_n 3, 1) := by decide +kernel
theorem dL_law_1289 : decode cL_law 1289 = .ok (.iconst 2, 1) := by decide +kernel
theorem dL_law_1290 : decode cL_law 1290 = .ok (.iadd, 1) := by decide +kernel
theorem dL_law_1291 : decode cL_law 1291 = .ok (.iaload, 1) := by decide +kernel
theorem dL_law_1292 : decode cL_law 1292 = .ok (.aload_n 0, 1) := by decide +kernel
theorem dL_law_1293 : decode cL_law 1293 = .ok (.iload_n 3, 1) := by decide +kernel
theorem dL_law_1294 : decode cL_law 1294 = .ok (.iconst 3, 1) := by decide +kernel
theorem dL_law_1295 : decode cL_law 1295 = .ok (.iadd, 1) := by decide +kernel
theorem dL_law_1296 : decode cL_law 1296 = .ok (.iaload, 1) := by decide +kernel
theorem dL_law_1297 : decode cL_law 1297 = .ok (.invokevirtual 162, 3) := by decide +kernel
theorem dL_law_1300 : decode cL_law 1300 = .ok (.aload_n 2, 1) := by decide +kernel
theorem dL_law_1301 : decode cL_law 1301 = .ok (.aload_n 0, 1) := by decide +kernel
theorem dL_law_1302 : decode cL_law 1302 = .ok (.iload_n 3, 1) := by decide +kernel
theorem dL_law_1303 : decode cL_law 1303 = .ok (.iconst 1, 1) := by decide +kernel
theorem dL_law_1304 : decode cL_law 1304 = .ok (.iadd, 1) := by decide +kernel
theorem dL_law_1305 : decode cL_law 1305 = .ok (.iaload, 1) := by decide +kernel
theorem dL_law_1306 : decode cL_law 1306 = .ok (.aload_n 0, 1) := by decide +kernel
theorem dL_law_1307 : decode cL_law 1307 = .ok (.iload_n 3, 1) := by decide +kernel
theorem dL_law_1308 : decode cL_law 1308 = .ok (.iconst 2, 1) := by decide +kernel
theorem dL_law_1309 : decode cL_law 1309 = .ok (.iadd, 1) := by decide +kernel
theorem dL_law_1310 : decode cL_law 1310 = .ok (.iaload, 1) := by decide +kernel
theorem dL_law_1311 : decode cL_law 1311 = .ok (.aload_n 0, 1) := by decide +kernel
theorem dL_law_1312 : decode cL_law 1312 = .ok (.iload_n 3, 1) := by decide +kernel
theorem dL_law_1313 : decode cL_law 1313 = .ok (.iconst 3, 1) := by decide +kernel
theorem dL_law_1314 : decode cL_law 1314 = .ok (.iadd, 1) := by decide +kernel
theorem dL_law_1315 : decode cL_law 1315 = .ok (.iaload, 1) := by decide +kernel
theorem dL_law_1316 : decode cL_law 1316 = .ok (.invokevirtual 165, 3) := by decide +kernel
theorem dL_law_1319 : decode cL_law 1319 = .ok (.if_icmp .eq 242, 3) := by decide +kernel
theorem dL_law_1322 : decode cL_law 1322 = .ok (.iconst 0, 1) := by decide +kernel
theorem dL_law_1323 : decode cL_law 1323 = .ok (.ireturn, 1) := by decide +kernel
theorem dL_law_1324 : decode cL_law 1324 = .ok (.aload_n 1, 1) := by decide +kernel
theorem dL_law_1325 : decode cL_law 1325 = .ok (.aload_n 0, 1) := by decide +kernel
theorem dL_law_1326 : decode cL_law 1326 = .ok (.iload_n 3, 1) := by decide +kernel
theorem dL_law_1327 : decode cL_law 1327 = .ok (.iconst 1, 1) := by decide +kernel
theorem dL_law_1328 : decode cL_law 1328 = .ok (.iadd, 1) := by decide +kernel
theorem dL_law_1329 : decode cL_law 1329 = .ok (.iaload, 1) := by decide +kernel
theorem dL_law_1330 : decode cL_law 1330 = .ok (.aload_n 0, 1) := by decide +kernel
theorem dL_law_1331 : decode cL_law 1331 = .ok (.iload_n 3, 1) := by decide +kernel
theorem dL_law_1332 : decode cL_law 1332 = .ok (.iconst 2, 1) := by decide +kernel
theorem dL_law_1333 : decode cL_law 1333 = .ok (.iadd, 1) := by decide +kernel
theorem dL_law_1334 : decode cL_law 1334 = .ok (.iaload, 1) := by decide +kernel
theorem dL_law_1335 : decode cL_law 1335 = .ok (.aload_n 0, 1) := by decide +kernel
theorem dL_law_1336 : decode cL_law 1336 = .ok (.iload_n 3, 1) := by decide +kernel
theorem dL_law_1337 : decode cL_law 1337 = .ok (.iconst 3, 1) := by decide +kernel
theorem dL_law_1338 : decode cL_law 1338 = .ok (.iadd, 1) := by decide +kernel
theorem dL_law_1339 : decode cL_law 1339 = .ok (.iaload, 1) := by decide +kernel
theorem dL_law_1340 : decode cL_law 1340 = .ok (.invokevirtual 166, 3) := by decide +kernel
theorem dL_law_1343 : decode cL_law 1343 = .ok (.aload_n 2, 1) := by decide +kernel
theorem dL_law_1344 : decode cL_law 1344 = .ok (.aload_n 0, 1) := by decide +kernel
theorem dL_law_1345 : decode cL_law 1345 = .ok (.iload_n 3, 1) := by decide +kernel
theorem dL_law_1346 : decode cL_law 1346 = .ok (.iconst 1, 1) := by decide +kernel
theorem dL_law_1347 : decode cL_law 1347 = .ok (.iadd, 1) := by decide +kernel
theorem dL_law_1348 : decode cL_law 1348 = .ok (.iaload, 1) := by decide +kernel
theorem dL_law_1349 : decode cL_law 1349 = .ok (.aload_n 0, 1) := by decide +kernel
theorem dL_law_1350 : decode cL_law 1350 = .ok (.iload_n 3, 1) := by decide +kernel
theorem dL_law_1351 : decode cL_law 1351 = .ok (.iconst 2, 1) := by decide +kernel
theorem dL_law_1352 : decode cL_law 1352 = .ok (.iadd, 1) := by decide +kernel
theorem dL_law_1353 : decode cL_law 1353 = .ok (.iaload, 1) := by decide +kernel
theorem dL_law_1354 : decode cL_law 1354 = .ok (.aload_n 0, 1) := by decide +kernel
theorem dL_law_1355 : decode cL_law 1355 = .ok (.iload_n 3, 1) := by decide +kernel
theorem dL_law_1356 : decode cL_law 1356 = .ok (.iconst 3, 1) := by decide +kernel
theorem dL_law_1357 : decode cL_law 1357 = .ok (.iadd, 1) := by decide +kernel
theorem dL_law_1358 : decode cL_law 1358 = .ok (.iaload, 1) := by decide +kernel
theorem dL_law_1359 : decode cL_law 1359 = .ok (.invokevirtual 169, 3) := by decide +kernel
theorem dL_law_1362 : decode cL_law 1362 = .ok (.if_icmp .eq 199, 3) := by decide +kernel
theorem dL_law_1365 : decode cL_law 1365 = .ok (.iconst 0, 1) := by decide +kernel
theorem dL_law_1366 : decode cL_law 1366 = .ok (.ireturn, 1) := by decide +kernel
theorem dL_law_1367 : decode cL_law 1367 = .ok (.aload_n 1, 1) := by decide +kernel
theorem dL_law_1368 : decode cL_law 1368 = .ok (.aload_n 0, 1) := by decide +kernel
theorem dL_law_1369 : decode cL_law 1369 = .ok (.iload_n 3, 1) := by decide +kernel
theorem dL_law_1370 : decode cL_law 1370 = .ok (.iconst 1, 1) := by decide +kernel
theorem dL_law_1371 : decode cL_law 1371 = .ok (.iadd, 1) := by decide +kernel
theorem dL_law_1372 : decode cL_law 1372 = .ok (.iaload, 1) := by decide +kernel
theorem dL_law_1373 : decode cL_law 1373 = .ok (.aload_n 0, 1) := by decide +kernel
theorem dL_law_1374 : decode cL_law 1374 = .ok (.iload_n 3, 1) := by decide +kernel
theorem dL_law_1375 : decode cL_law 1375 = .ok (.iconst 2, 1) := by decide +kernel
theorem dL_law_1376 : decode cL_law 1376 = .ok (.iadd, 1) := by decide +kernel
theorem dL_law_1377 : decode cL_law 1377 = .ok (.iaload, 1) := by decide +kernel
theorem dL_law_1378 : decode cL_law 1378 = .ok (.aload_n 0, 1) := by decide +kernel
theorem dL_law_1379 : decode cL_law 1379 = .ok (.iload_n 3, 1) := by decide +kernel
theorem dL_law_1380 : decode cL_law 1380 = .ok (.iconst 3, 1) := by decide +kernel
theorem dL_law_1381 : decode cL_law 1381 = .ok (.iadd, 1) := by decide +kernel
theorem dL_law_1382 : decode cL_law 1382 = .ok (.iaload, 1) := by decide +kernel
theorem dL_law_1383 : decode cL_law 1383 = .ok (.aload_n 0, 1) := by decide +kernel
theorem dL_law_1384 : decode cL_law 1384 = .ok (.iload_n 3, 1) := by decide +kernel
theorem dL_law_1385 : decode cL_law 1385 = .ok (.iconst 4, 1) := by decide +kernel
theorem dL_law_1386 : decode cL_law 1386 = .ok (.iadd, 1) := by decide +kernel
theorem dL_law_1387 : decode cL_law 1387 = .ok (.iaload, 1) := by decide +kernel
theorem dL_law_1388 : decode cL_law 1388 = .ok (.aload_n 0, 1) := by decide +kernel
theorem dL_law_1389 : decode cL_law 1389 = .ok (.iload_n 3, 1) := by decide +kernel
theorem dL_law_1390 : decode cL_law 1390 = .ok (.iconst 5, 1) := by decide +kernel
theorem dL_law_1391 : decode cL_law 1391 = .ok (.iadd, 1) := by decide +kernel
theorem dL_law_1392 : decode cL_law 1392 = .ok (.iaload, 1) := by decide +kernel
theorem dL_law_1393 : decode cL_law 1393 = .ok (.invokevirtual 170, 3) := by decide +kernel
theorem dL_law_1396 : decode cL_law 1396 = .ok (.aload_n 2, 1) := by decide +kernel
theorem dL_law_1397 : decode cL_law 1397 = .ok (.aload_n 0, 1) := by decide +kernel
theorem dL_law_1398 : decode cL_law 1398 = .ok (.iload_n 3, 1) := by decide +kernel
theorem dL_law_1399 : decode cL_law 1399 = .ok (.iconst 1, 1) := by decide +kernel
theorem dL_law_1400 : decode cL_law 1400 = .ok (.iadd, 1) := by decide +kernel
theorem dL_law_1401 : decode cL_law 1401 = .ok (.iaload, 1) := by decide +kernel
theorem dL_law_1402 : decode cL_law 1402 = .ok (.aload_n 0, 1) := by decide +kernel
theorem dL_law_1403 : decode cL_law 1403 = .ok (.iload_n 3, 1) := by decide +kernel
theorem dL_law_1404 : decode cL_law 1404 = .ok (.iconst 2, 1) := by decide +kernel
theorem dL_law_1405 : decode cL_law 1405 = .ok (.iadd, 1) := by decide +kernel
theorem dL_law_1406 : decode cL_law 1406 = .ok (.iaload, 1) := by decide +kernel
theorem dL_law_1407 : decode cL_law 1407 = .ok (.aload_n 0, 1) := by decide +kernel
theorem dL_law_1408 : decode cL_law 1408 = .ok (.iload_n 3, 1) := by decide +kernel
theorem dL_law_1409 : decode cL_law 1409 = .ok (.iconst 3, 1) := by decide +kernel
theorem dL_law_1410 : decode cL_law 1410 = .ok (.iadd, 1) := by decide +kernel
theorem dL_law_1411 : decode cL_law 1411 = .ok (.iaload, 1) := by decide +kernel
theorem dL_law_1412 : decode cL_law 1412 = .ok (.aload_n 0, 1) := by decide +kernel
theorem dL_law_1413 : decode cL_law 1413 = .ok (.iload_n 3, 1) := by decide +kernel
theorem dL_law_1414 : decode cL_law 1414 = .ok (.iconst 4, 1) := by decide +kernel
theorem dL_law_1415 : decode cL_law 1415 = .ok (.iadd, 1) := by decide +kernel
theorem dL_law_1416 : decode cL_law 1416 = .ok (.iaload, 1) := by decide +kernel
theorem dL_law_1417 : decode cL_law 1417 = .ok (.aload_n 0, 1) := by decide +kernel
theorem dL_law_1418 : decode cL_law 1418 = .ok (.iload_n 3, 1) := by decide +kernel
theorem dL_law_1419 : decode cL_law 1419 = .ok (.iconst 5, 1) := by decide +kernel
theorem dL_law_1420 : decode cL_law 1420 = .ok (.iadd, 1) := by decide +kernel
theorem dL_law_1421 : decode cL_law 1421 = .ok (.iaload, 1) := by decide +kernel
theorem dL_law_1422 : decode cL_law 1422 = .ok (.invokevirtual 174, 3) := by decide +kernel
theorem dL_law_1425 : decode cL_law 1425 = .ok (.if_icmp .eq 136, 3) := by decide +kernel
theorem dL_law_1428 : decode cL_law 1428 = .ok (.iconst 0, 1) := by decide +kernel
theorem dL_law_1429 : decode cL_law 1429 = .ok (.ireturn, 1) := by decide +kernel
theorem dL_law_1430 : decode cL_law 1430 = .ok (.aload_n 1, 1) := by decide +kernel
theorem dL_law_1431 : decode cL_law 1431 = .ok (.aload_n 0, 1) := by decide +kernel
theorem dL_law_1432 : decode cL_law 1432 = .ok (.iload_n 3, 1) := by decide +kernel
theorem dL_law_1433 : decode cL_law 1433 = .ok (.iconst 1, 1) := by decide +kernel
theorem dL_law_1434 : decode cL_law 1434 = .ok (.iadd, 1) := by decide +kernel
theorem dL_law_1435 : decode cL_law 1435 = .ok (.iaload, 1) := by decide +kernel
theorem dL_law_1436 : decode cL_law 1436 = .ok (.invokevirtual 175, 3) := by decide +kernel
theorem dL_law_1439 : decode cL_law 1439 = .ok (.aload_n 2, 1) := by decide +kernel
theorem dL_law_1440 : decode cL_law 1440 = .ok (.aload_n 0, 1) := by decide +kernel
theorem dL_law_1441 : decode cL_law 1441 = .ok (.iload_n 3, 1) := by decide +kernel
theorem dL_law_1442 : decode cL_law 1442 = .ok (.iconst 1, 1) := by decide +kernel
theorem dL_law_1443 : decode cL_law 1443 = .ok (.iadd, 1) := by decide +kernel
theorem dL_law_1444 : decode cL_law 1444 = .ok (.iaload, 1) := by decide +kernel
theorem dL_law_1445 : decode cL_law 1445 = .ok (.invokevirtual 178, 3) := by decide +kernel
theorem dL_law_1448 : decode cL_law 1448 = .ok (.if_icmp .eq 113, 3) := by decide +kernel
theorem dL_law_1451 : decode cL_law 1451 = .ok (.iconst 0, 1) := by decide +kernel
theorem dL_law_1452 : decode cL_law 1452 = .ok (.ireturn, 1) := by decide +kernel
theorem dL_law_1453 : decode cL_law 1453 = .ok (.aload_n 1, 1) := by decide +kernel
theorem dL_law_1454 : decode cL_law 1454 = .ok (.aload_n 0, 1) := by decide +kernel
theorem dL_law_1455 : decode cL_law 1455 = .ok (.iload_n 3, 1) := by decide +kernel
theorem dL_law_1456 : decode cL_law 1456 = .ok (.iconst 1, 1) := by decide +kernel
theorem dL_law_1457 : decode cL_law 1457 = .ok (.iadd, 1) := by decide +kernel
theorem dL_law_1458 : decode cL_law 1458 = .ok (.iaload, 1) := by decide +kernel
theorem dL_law_1459 : decode cL_law 1459 = .ok (.invokevirtual 179, 3) := by decide +kernel
theorem dL_law_1462 : decode cL_law 1462 = .ok (.aload_n 2, 1) := by decide +kernel
theorem dL_law_1463 : decode cL_law 1463 = .ok (.aload_n 0, 1) := by decide +kernel
theorem dL_law_1464 : decode cL_law 1464 = .ok (.iload_n 3, 1) := by decide +kernel
theorem dL_law_1465 : decode cL_law 1465 = .ok (.iconst 1, 1) := by decide +kernel
theorem dL_law_1466 : decode cL_law 1466 = .ok (.iadd, 1) := by decide +kernel
theorem dL_law_1467 : decode cL_law 1467 = .ok (.iaload, 1) := by decide +kernel
theorem dL_law_1468 : decode cL_law 1468 = .ok (.invokevirtual 182, 3) := by decide +kernel
theorem dL_law_1471 : decode cL_law 1471 = .ok (.if_icmp .eq 90, 3) := by decide +kernel
theorem dL_law_1474 : decode cL_law 1474 = .ok (.iconst 0, 1) := by decide +kernel
theorem dL_law_1475 : decode cL_law 1475 = .ok (.ireturn, 1) := by decide +kernel
theorem dL_law_1476 : decode cL_law 1476 = .ok (.aload_n 1, 1) := by decide +kernel
theorem dL_law_1477 : decode cL_law 1477 = .ok (.invokevirtual 183, 3) := by decide +kernel
theorem dL_law_1480 : decode cL_law 1480 = .ok (.aload_n 2, 1) := by decide +kernel
theorem dL_law_1481 : decode cL_law 1481 = .ok (.invokevirtual 186, 3) := by decide +kernel
theorem dL_law_1484 : decode cL_law 1484 = .ok (.if_icmp .eq 77, 3) := by decide +kernel
theorem dL_law_1487 : decode cL_law 1487 = .ok (.iconst 0, 1) := by decide +kernel
theorem dL_law_1488 : decode cL_law 1488 = .ok (.ireturn, 1) := by decide +kernel
theorem dL_law_1489 : decode cL_law 1489 = .ok (.aload_n 1, 1) := by decide +kernel
theorem dL_law_1490 : decode cL_law 1490 = .ok (.invokevirtual 187, 3) := by decide +kernel
theorem dL_law_1493 : decode cL_law 1493 = .ok (.aload_n 2, 1) := by decide +kernel
theorem dL_law_1494 : decode cL_law 1494 = .ok (.invokevirtual 190, 3) := by decide +kernel
theorem dL_law_1497 : decode cL_law 1497 = .ok (.if_icmp .eq 64, 3) := by decide +kernel
theorem dL_law_1500 : decode cL_law 1500 = .ok (.iconst 0, 1) := by decide +kernel
theorem dL_law_1501 : decode cL_law 1501 = .ok (.ireturn, 1) := by decide +kernel
theorem dL_law_1502 : decode cL_law 1502 = .ok (.aload_n 1, 1) := by decide +kernel
theorem dL_law_1503 : decode cL_law 1503 = .ok (.invokevirtual 191, 3) := by decide +kernel
theorem dL_law_1506 : decode cL_law 1506 = .ok (.aload_n 2, 1) := by decide +kernel
theorem dL_law_1507 : decode cL_law 1507 = .ok (.invokevirtual 194, 3) := by decide +kernel
theorem dL_law_1510 : decode cL_law 1510 = .ok (.if_icmp .eq 51, 3) := by decide +kernel
theorem dL_law_1513 : decode cL_law 1513 = .ok (.iconst 0, 1) := by decide +kernel
theorem dL_law_1514 : decode cL_law 1514 = .ok (.ireturn, 1) := by decide +kernel
theorem dL_law_1515 : decode cL_law 1515 = .ok (.aload_n 1, 1) := by decide +kernel
theorem dL_law_1516 : decode cL_law 1516 = .ok (.aload_n 0, 1) := by decide +kernel
theorem dL_law_1517 : decode cL_law 1517 = .ok (.iload_n 3, 1) := by decide +kernel
theorem dL_law_1518 : decode cL_law 1518 = .ok (.iconst 1, 1) := by decide +kernel
theorem dL_law_1519 : decode cL_law 1519 = .ok (.iadd, 1) := by decide +kernel
theorem dL_law_1520 : decode cL_law 1520 = .ok (.iaload, 1) := by decide +kernel
theorem dL_law_1521 : decode cL_law 1521 = .ok (.invokevirtual 195, 3) := by decide +kernel
theorem dL_law_1524 : decode cL_law 1524 = .ok (.aload_n 2, 1) := by decide +kernel
theorem dL_law_1525 : decode cL_law 1525 = .ok (.aload_n 0, 1) := by decide +kernel
theorem dL_law_1526 : decode cL_law 1526 = .ok (.iload_n 3, 1) := by decide +kernel
theorem dL_law_1527 : decode cL_law 1527 = .ok (.iconst 1, 1) := by decide +kernel
theorem dL_law_1528 : decode cL_law 1528 = .ok (.iadd, 1) := by decide +kernel
theorem dL_law_1529 : decode cL_law 1529 = .ok (.iaload, 1) := by decide +kernel
theorem dL_law_1530 : decode cL_law 1530 = .ok (.invokevirtual 198, 3) := by decide +kernel
theorem dL_law_1533 : decode cL_law 1533 = .ok (.if_icmp .eq 28, 3) := by decide +kernel
theorem dL_law_1536 : decode cL_law 1536 = .ok (.iconst 0, 1) := by decide +kernel
theorem dL_law_1537 : decode cL_law 1537 = .ok (.ireturn, 1) := by decide +kernel
theorem dL_law_1538 : decode cL_law 1538 = .ok (.aload_n 1, 1) := by decide +kernel
theorem dL_law_1539 : decode cL_law 1539 = .ok (.aload_n 0, 1) := by decide +kernel
theorem dL_law_1540 : decode cL_law 1540 = .ok (.iload_n 3, 1) := by decide +kernel
theorem dL_law_1541 : decode cL_law 1541 = .ok (.iconst 1, 1) := by decide +kernel
theorem dL_law_1542 : decode cL_law 1542 = .ok (.iadd, 1) := by decide +kernel
theorem dL_law_1543 : decode cL_law 1543 = .ok (.iaload, 1) := by decide +kernel
theorem dL_law_1544 : decode cL_law 1544 = .ok (.invokevirtual 199, 3) := by decide +kernel
theorem dL_law_1547 : decode cL_law 1547 = .ok (.aload_n 2, 1) := by decide +kernel
theorem dL_law_1548 : decode cL_law 1548 = .ok (.aload_n 0, 1) := by decide +kernel
theorem dL_law_1549 : decode cL_law 1549 = .ok (.iload_n 3, 1) := by decide +kernel
theorem dL_law_1550 : decode cL_law 1550 = .ok (.iconst 1, 1) := by decide +kernel
theorem dL_law_1551 : decode cL_law 1551 = .ok (.iadd, 1) := by decide +kernel
theorem dL_law_1552 : decode cL_law 1552 = .ok (.iaload, 1) := by decide +kernel
theorem dL_law_1553 : decode cL_law 1553 = .ok (.invokevirtual 202, 3) := by decide +kernel
theorem dL_law_1556 : decode cL_law 1556 = .ok (.if_icmp .eq 5, 3) := by decide +kernel
theorem dL_law_1559 : decode cL_law 1559 = .ok (.iconst 0, 1) := by decide +kernel
theorem dL_law_1560 : decode cL_law 1560 = .ok (.ireturn, 1) := by decide +kernel
theorem dL_law_1561 : decode cL_law 1561 = .ok (.iinc 3 6, 3) := by decide +kernel
theorem dL_law_1564 : decode cL_law 1564 = .ok (.goto (-1546), 3) := by decide +kernel
theorem dL_law_1567 : decode cL_law 1567 = .ok (.iconst 1, 1) := by decide +kernel
theorem dL_law_1568 : decode cL_law 1568 = .ok (.ireturn, 1) := by decide +kernel
end
section
def TB : List Cond := lw_tbl.filter goodWord
theorem TB_of {w : Cond} (h : w ∈ lw_tbl) (g : goodWord w = true) : w ∈ TB := List.mem_filter.mpr ⟨h, g⟩
theorem TB_in {w : Cond} (h : w ∈ TB) : w ∈ lw_tbl := (List.mem_filter.mp h).1
theorem TB_good {w : Cond} (h : w ∈ TB) : goodWord w = true := (List.mem_filter.mp h).2
theorem TB_sel {w : Cond} (h : w ∈ k2_sels lw_privs) (g : goodWord w = true) : w ∈ TB := TB_of (List.mem_append_left _ h) g
theorem TT_1 {w : Cond} (h : w ∈ tables_1_1) : w ∈ lw_tbl := List.mem_append_right _ (List.mem_append_left _ h)
theorem TB_1 {w : Cond} (h : w ∈ tables_1_1) (g : goodWord w = true) : w ∈ TB := TB_of (List.mem_append_right _ (List.mem_append_left _ h)) g
theorem TT_2 {w : Cond} (h : w ∈ tables_1_2) : w ∈ lw_tbl := List.mem_append_right _ (List.mem_append_right _ (List.mem_append_left _ h))
theorem TB_2 {w : Cond} (h : w ∈ tables_1_2) (g : goodWord w = true) : w ∈ TB := TB_of (List.mem_append_right _ (List.mem_append_right _ (List.mem_append_left _ h))) g
theorem TT_3 {w : Cond} (h : w ∈ tables_1_3) : w ∈ lw_tbl := List.mem_append_right _ (List.mem_append_right _ (List.mem_append_right _ (List.mem_append_left _ h)))
theorem TB_3 {w : Cond} (h : w ∈ tables_1_3) (g : goodWord w = true) : w ∈ TB := TB_of (List.mem_append_right _ (List.mem_append_right _ (List.mem_append_right _ (List.mem_append_left _ h)))) g
theorem TT_4 {w : Cond} (h : w ∈ tables_1_4) : w ∈ lw_tbl := List.mem_append_right _ (List.mem_append_right _ (List.mem_append_right _ (List.mem_append_right _ (List.mem_append_left _ h))))
theorem TB_4 {w : Cond} (h : w ∈ tables_1_4) (g : goodWord w = true) : w ∈ TB := TB_of (List.mem_append_right _ (List.mem_append_right _ (List.mem_append_right _ (List.mem_append_right _ (List.mem_append_left _ h))))) g
theorem TT_5 {w : Cond} (h : w ∈ tables_1_5) : w ∈ lw_tbl := List.mem_append_right _ (List.mem_append_right _ (List.mem_append_right _ (List.mem_append_right _ (List.mem_append_right _ (List.mem_append_left _ h)))))
theorem TB_5 {w : Cond} (h : w ∈ tables_1_5) (g : goodWord w = true) : w ∈ TB := TB_of (List.mem_append_right _ (List.mem_append_right _ (List.mem_append_right _ (List.mem_append_right _ (List.mem_append_right _ (List.mem_append_left _ h)))))) g
theorem TT_6 {w : Cond} (h : w ∈ tables_1_6) : w ∈ lw_tbl := List.mem_append_right _ (List.mem_append_right _ (List.mem_append_right _ (List.mem_append_right _ (List.mem_append_right _ (List.mem_append_right _ (h))))))
theorem TB_6 {w : Cond} (h : w ∈ tables_1_6) (g : goodWord w = true) : w ∈ TB := TB_of (List.mem_append_right _ (List.mem_append_right _ (List.mem_append_right _ (List.mem_append_right _ (List.mem_append_right _ (List.mem_append_right _ (h))))))) g
theorem TB_GG : GoodIn TB TB := fun _ h => ⟨h, good_of_word (TB_good h)⟩
theorem win_L : Cond.initialized RL ∈ TB := TB_1 (List.mem_of_getElem? (i := 0) rfl) rfl
theorem win_X5 : Cond.initialized RX5 ∈ TB := TB_1 (List.mem_of_getElem? (i := 1) rfl) rfl
theorem win_X2 : Cond.initialized RX2 ∈ TB := TB_1 (List.mem_of_getElem? (i := 2) rfl) rfl
theorem win_X4 : Cond.initialized RX4 ∈ TB := TB_1 (List.mem_of_getElem? (i := 3) rfl) rfl
theorem win_X3 : Cond.initialized RX3 ∈ TB := TB_1 (List.mem_of_getElem? (i := 4) rfl) rfl
theorem win_X1 : Cond.initialized RX1 ∈ TB := TB_1 (List.mem_of_getElem? (i := 5) rfl) rfl
theorem win_X0 : Cond.initialized RX0 ∈ TB := TB_1 (List.mem_of_getElem? (i := 6) rfl) rfl
theorem win_X6 : Cond.initialized RX6 ∈ TB := TB_1 (List.mem_of_getElem? (i := 7) rfl) rfl
theorem win_J10 : Cond.initialized RJ10 ∈ TB := TB_1 (List.mem_of_getElem? (i := 8) rfl) rfl
theorem win_J9 : Cond.initialized RJ9 ∈ TB := TB_1 (List.mem_of_getElem? (i := 9) rfl) rfl
theorem win_J6 : Cond.initialized RJ6 ∈ TB := TB_1 (List.mem_of_getElem? (i := 10) rfl) rfl
theorem win_J0 : Cond.initialized RJ0 ∈ TB := TB_1 (List.mem_of_getElem? (i := 11) rfl) rfl
theorem win_J1 : Cond.initialized RJ1 ∈ TB := TB_1 (List.mem_of_getElem? (i := 12) rfl) rfl
theorem win_J3 : Cond.initialized RJ3 ∈ TB := TB_1 (List.mem_of_getElem? (i := 13) rfl) rfl
theorem win_J2 : Cond.initialized RJ2 ∈ TB := TB_1 (List.mem_of_getElem? (i := 14) rfl) rfl
theorem wcl_L_7 : Cond.classLink RL 7 RX5 ∈ TB := TB_1 (List.mem_of_getElem? (i := 15) rfl) rfl
theorem wn_X5 : Cond.instantiable RX5 9 ∈ TB := TB_1 (List.mem_of_getElem? (i := 16) rfl) rfl
theorem wm_L_9 : Cond.methodLink RL 9 yX5_init ∈ TB := TB_1 (List.mem_of_getElem? (i := 17) rfl) rfl
theorem wi_X5_init : Cond.instanceMethod yX5_init ∈ TB := TB_1 (List.mem_of_getElem? (i := 18) rfl) rfl
theorem wc_X5_init : Cond.code yX5_init cX5_init 1 none ∈ TB := TB_1 (List.mem_of_getElem? (i := 19) rfl) rfl
theorem wm_X5_3 : Cond.methodLink RX5 3 objectInit ∈ TB := TB_1 (List.mem_of_getElem? (i := 20) rfl) rfl
theorem wi_objectInit : Cond.instanceMethod objectInit ∈ TB := TB_1 (List.mem_of_getElem? (i := 21) rfl) rfl
theorem wc_objectInit : Cond.code objectInit ⟨#[0xb1]⟩ 1 none ∈ TB := TB_1 (List.mem_of_getElem? (i := 22) rfl) rfl
theorem wcl_X5_9 : Cond.classLink RX5 9 RX2 ∈ TB := TB_1 (List.mem_of_getElem? (i := 23) rfl) rfl
theorem wn_X2 : Cond.instantiable RX2 5 ∈ TB := TB_1 (List.mem_of_getElem? (i := 24) rfl) rfl
theorem wm_X5_11 : Cond.methodLink RX5 11 yX2_init ∈ TB := TB_1 (List.mem_of_getElem? (i := 25) rfl) rfl
theorem wi_X2_init : Cond.instanceMethod yX2_init ∈ TB := TB_1 (List.mem_of_getElem? (i := 26) rfl) rfl
theorem wc_X2_init : Cond.code yX2_init cX2_init 2 none ∈ TB := TB_1 (List.mem_of_getElem? (i := 27) rfl) rfl
theorem wm_X2_3 : Cond.methodLink RX2 3 objectInit ∈ TB := TB_1 (List.mem_of_getElem? (i := 28) rfl) rfl
theorem wcl_X2_9 : Cond.classLink RX2 9 RX4 ∈ TB := TB_1 (List.mem_of_getElem? (i := 29) rfl) rfl
theorem wn_X4 : Cond.instantiable RX4 5 ∈ TB := TB_1 (List.mem_of_getElem? (i := 30) rfl) rfl
theorem wm_X2_11 : Cond.methodLink RX2 11 yX4_init ∈ TB := TB_1 (List.mem_of_getElem? (i := 31) rfl) rfl
theorem wi_X4_init : Cond.instanceMethod yX4_init ∈ TB := TB_1 (List.mem_of_getElem? (i := 32) rfl) rfl
theorem wc_X4_init : Cond.code yX4_init cX4_init 2 none ∈ TB := TB_1 (List.mem_of_getElem? (i := 33) rfl) rfl
theorem wm_X4_3 : Cond.methodLink RX4 3 objectInit ∈ TB := TB_1 (List.mem_of_getElem? (i := 34) rfl) rfl
theorem wf_X4_9 : Cond.fieldLink RX4 9 "ValveRiver$Water" "levels" "[I" ∈ TB := TB_1 (List.mem_of_getElem? (i := 35) rfl) rfl
theorem wf_X5_63 : Cond.fieldLink RX5 63 "ValveRiver$Water" "levels" "[I" ∈ TB := TB_1 (List.mem_of_getElem? (i := 36) rfl) rfl
theorem wf_X0_65 : Cond.fieldLink RX0 65 "ValveRiver$Water" "levels" "[I" ∈ TB := TB_1 (List.mem_of_getElem? (i := 37) rfl) rfl
theorem wf_X2_69 : Cond.fieldLink RX2 69 "ValveRiver$Water" "levels" "[I" ∈ TB := TB_1 (List.mem_of_getElem? (i := 38) rfl) rfl
theorem wf_X4_15 : Cond.fieldLink RX4 15 "ValveRiver$Water" "before" "[I" ∈ TB := TB_1 (List.mem_of_getElem? (i := 39) rfl) rfl
theorem wf_X2_63 : Cond.fieldLink RX2 63 "ValveRiver$Water" "before" "[I" ∈ TB := TB_1 (List.mem_of_getElem? (i := 40) rfl) rfl
theorem wf_X5_297 : Cond.fieldLink RX5 297 "ValveRiver$Water" "before" "[I" ∈ TB := TB_1 (List.mem_of_getElem? (i := 41) rfl) rfl
theorem wf_X4_18 : Cond.fieldLink RX4 18 "ValveRiver$Water" "openings" "[I" ∈ TB := TB_1 (List.mem_of_getElem? (i := 42) rfl) rfl
theorem wf_X5_68 : Cond.fieldLink RX5 68 "ValveRiver$Water" "openings" "[I" ∈ TB := TB_1 (List.mem_of_getElem? (i := 43) rfl) rfl
theorem wf_X0_76 : Cond.fieldLink RX0 76 "ValveRiver$Water" "openings" "[I" ∈ TB := TB_1 (List.mem_of_getElem? (i := 44) rfl) rfl
theorem wf_X4_21 : Cond.fieldLink RX4 21 "ValveRiver$Water" "sea" "I" ∈ TB := TB_1 (List.mem_of_getElem? (i := 45) rfl) rfl
theorem wf_X5_143 : Cond.fieldLink RX5 143 "ValveRiver$Water" "sea" "I" ∈ TB := TB_1 (List.mem_of_getElem? (i := 46) rfl) rfl
theorem wf_X4_25 : Cond.fieldLink RX4 25 "ValveRiver$Water" "hour" "I" ∈ TB := TB_1 (List.mem_of_getElem? (i := 47) rfl) rfl
theorem wf_X5_129 : Cond.fieldLink RX5 129 "ValveRiver$Water" "hour" "I" ∈ TB := TB_1 (List.mem_of_getElem? (i := 48) rfl) rfl
theorem wl_X4_levels : Cond.laysFinal RX4 "ValveRiver$Water" "levels" "[I" ∈ TB := TB_1 (List.mem_of_getElem? (i := 49) rfl) rfl
theorem wl_X4_before : Cond.laysFinal RX4 "ValveRiver$Water" "before" "[I" ∈ TB := TB_1 (List.mem_of_getElem? (i := 51) rfl) rfl
theorem wl_X4_openings : Cond.laysFinal RX4 "ValveRiver$Water" "openings" "[I" ∈ TB := TB_1 (List.mem_of_getElem? (i := 53) rfl) rfl
theorem wl_X4_sea : Cond.lays RX4 "ValveRiver$Water" "sea" "I" ∈ TB := TB_1 (List.mem_of_getElem? (i := 55) rfl) rfl
theorem wl_X4_hour : Cond.lays RX4 "ValveRiver$Water" "hour" "I" ∈ TB := TB_1 (List.mem_of_getElem? (i := 57) rfl) rfl
theorem wa_arrayClass_int : Cond.arrayClass .int ∈ TB := TB_1 (List.mem_of_getElem? (i := 60) rfl) rfl
theorem wcl_X2_18 : Cond.classLink RX2 18 RX3 ∈ TB := TB_1 (List.mem_of_getElem? (i := 61) rfl) rfl
theorem wa_arrayOver_objectValveRiverWatcher : Cond.arrayOver (.object "ValveRiver$Watcher") ∈ lw_tbl := TT_1 (List.mem_of_getElem? (i := 62) rfl)
theorem wn_X3 : Cond.instantiable RX3 5 ∈ TB := TB_1 (List.mem_of_getElem? (i := 63) rfl) rfl
theorem wmn_X2_35 : Cond.methodLinkNest RX2 35 yX3_init "ValveRiver" ∈ lw_tbl := TT_1 (List.mem_of_getElem? (i := 64) rfl)
theorem wi_X3_init : Cond.instanceMethod yX3_init ∈ TB := TB_1 (List.mem_of_getElem? (i := 65) rfl) rfl
theorem wc_X3_init : Cond.code yX3_init cX3_init 1 none ∈ TB := TB_1 (List.mem_of_getElem? (i := 66) rfl) rfl
theorem wm_X3_5 : Cond.methodLink RX3 5 objectInit ∈ TB := TB_1 (List.mem_of_getElem? (i := 67) rfl) rfl
theorem wf_X3_11 : Cond.fieldLink RX3 11 "ValveRiver$Watcher" "kind" "I" ∈ TB := TB_1 (List.mem_of_getElem? (i := 68) rfl) rfl
theorem wf_X5_96 : Cond.fieldLink RX5 96 "ValveRiver$Watcher" "kind" "I" ∈ TB := TB_1 (List.mem_of_getElem? (i := 69) rfl) rfl
theorem wf_X3_15 : Cond.fieldLink RX3 15 "ValveRiver$Watcher" "cell" "I" ∈ TB := TB_1 (List.mem_of_getElem? (i := 70) rfl) rfl
theorem wf_X0_102 : Cond.fieldLink RX0 102 "ValveRiver$Watcher" "cell" "I" ∈ TB := TB_1 (List.mem_of_getElem? (i := 71) rfl) rfl
theorem wf_X2_66 : Cond.fieldLink RX2 66 "ValveRiver$Watcher" "cell" "I" ∈ TB := TB_1 (List.mem_of_getElem? (i := 72) rfl) rfl
theorem wf_X5_102 : Cond.fieldLink RX5 102 "ValveRiver$Watcher" "cell" "I" ∈ TB := TB_1 (List.mem_of_getElem? (i := 73) rfl) rfl
theorem wf_X3_18 : Cond.fieldLink RX3 18 "ValveRiver$Watcher" "want" "I" ∈ TB := TB_1 (List.mem_of_getElem? (i := 74) rfl) rfl
theorem wf_X0_109 : Cond.fieldLink RX0 109 "ValveRiver$Watcher" "want" "I" ∈ TB := TB_1 (List.mem_of_getElem? (i := 75) rfl) rfl
theorem wf_X5_105 : Cond.fieldLink RX5 105 "ValveRiver$Watcher" "want" "I" ∈ TB := TB_1 (List.mem_of_getElem? (i := 76) rfl) rfl
theorem wf_X3_21 : Cond.fieldLink RX3 21 "ValveRiver$Watcher" "belief" "I" ∈ TB := TB_1 (List.mem_of_getElem? (i := 77) rfl) rfl
theorem wf_X0_114 : Cond.fieldLink RX0 114 "ValveRiver$Watcher" "belief" "I" ∈ TB := TB_1 (List.mem_of_getElem? (i := 78) rfl) rfl
theorem wf_X5_108 : Cond.fieldLink RX5 108 "ValveRiver$Watcher" "belief" "I" ∈ TB := TB_1 (List.mem_of_getElem? (i := 79) rfl) rfl
theorem wf_X2_90 : Cond.fieldLink RX2 90 "ValveRiver$Watcher" "belief" "I" ∈ TB := TB_1 (List.mem_of_getElem? (i := 80) rfl) rfl
theorem wf_X3_24 : Cond.fieldLink RX3 24 "ValveRiver$Watcher" "thirst" "I" ∈ TB := TB_1 (List.mem_of_getElem? (i := 81) rfl) rfl
theorem wf_X5_111 : Cond.fieldLink RX5 111 "ValveRiver$Watcher" "thirst" "I" ∈ TB := TB_1 (List.mem_of_getElem? (i := 82) rfl) rfl
theorem wl_X3_kind : Cond.lays RX3 "ValveRiver$Watcher" "kind" "I" ∈ TB := TB_1 (List.mem_of_getElem? (i := 83) rfl) rfl
theorem wl_X3_cell : Cond.lays RX3 "ValveRiver$Watcher" "cell" "I" ∈ TB := TB_1 (List.mem_of_getElem? (i := 85) rfl) rfl
theorem wl_X3_want : Cond.lays RX3 "ValveRiver$Watcher" "want" "I" ∈ TB := TB_1 (List.mem_of_getElem? (i := 87) rfl) rfl
theorem wl_X3_belief : Cond.lays RX3 "ValveRiver$Watcher" "belief" "I" ∈ TB := TB_1 (List.mem_of_getElem? (i := 89) rfl) rfl
theorem wl_X3_thirst : Cond.lays RX3 "ValveRiver$Watcher" "thirst" "I" ∈ TB := TB_1 (List.mem_of_getElem? (i := 91) rfl) rfl
theorem wf_X2_12 : Cond.fieldLink RX2 12 "ValveRiver$Valley" "water" "LValveRiver$Water;" ∈ TB := TB_1 (List.mem_of_getElem? (i := 94) rfl) rfl
theorem wf_X5_59 : Cond.fieldLink RX5 59 "ValveRiver$Valley" "water" "LValveRiver$Water;" ∈ TB := TB_1 (List.mem_of_getElem? (i := 95) rfl) rfl
theorem wf_X0_59 : Cond.fieldLink RX0 59 "ValveRiver$Valley" "water" "LValveRiver$Water;" ∈ TB := TB_1 (List.mem_of_getElem? (i := 96) rfl) rfl
theorem wf_X2_20 : Cond.fieldLink RX2 20 "ValveRiver$Valley" "watchers" "[LValveRiver$Watcher;" ∈ TB := TB_1 (List.mem_of_getElem? (i := 97) rfl) rfl
theorem wf_X0_88 : Cond.fieldLink RX0 88 "ValveRiver$Valley" "watchers" "[LValveRiver$Watcher;" ∈ TB := TB_1 (List.mem_of_getElem? (i := 98) rfl) rfl
theorem wf_X5_92 : Cond.fieldLink RX5 92 "ValveRiver$Valley" "watchers" "[LValveRiver$Watcher;" ∈ TB := TB_1 (List.mem_of_getElem? (i := 99) rfl) rfl
theorem wf_X2_24 : Cond.fieldLink RX2 24 "ValveRiver$Valley" "spots" "[I" ∈ TB := TB_1 (List.mem_of_getElem? (i := 100) rfl) rfl
theorem wf_X5_248 : Cond.fieldLink RX5 248 "ValveRiver$Valley" "spots" "[I" ∈ TB := TB_1 (List.mem_of_getElem? (i := 101) rfl) rfl
theorem wf_X2_28 : Cond.fieldLink RX2 28 "ValveRiver$Valley" "settled" "I" ∈ TB := TB_1 (List.mem_of_getElem? (i := 102) rfl) rfl
theorem wf_X5_284 : Cond.fieldLink RX5 284 "ValveRiver$Valley" "settled" "I" ∈ TB := TB_1 (List.mem_of_getElem? (i := 103) rfl) rfl
theorem wf_X2_32 : Cond.fieldLink RX2 32 "ValveRiver$Valley" "z" "I" ∈ TB := TB_1 (List.mem_of_getElem? (i := 104) rfl) rfl
theorem wf_X5_229 : Cond.fieldLink RX5 229 "ValveRiver$Valley" "z" "I" ∈ TB := TB_1 (List.mem_of_getElem? (i := 105) rfl) rfl
theorem wl_X2_water : Cond.laysFinal RX2 "ValveRiver$Valley" "water" "LValveRiver$Water;" ∈ TB := TB_1 (List.mem_of_getElem? (i := 106) rfl) rfl
theorem wl_X2_watchers : Cond.laysFinal RX2 "ValveRiver$Valley" "watchers" "[LValveRiver$Watcher;" ∈ TB := TB_1 (List.mem_of_getElem? (i := 108) rfl) rfl
theorem wl_X2_spots : Cond.laysFinal RX2 "ValveRiver$Valley" "spots" "[I" ∈ TB := TB_1 (List.mem_of_getElem? (i := 110) rfl) rfl
theorem wl_X2_settled : Cond.lays RX2 "ValveRiver$Valley" "settled" "I" ∈ TB := TB_1 (List.mem_of_getElem? (i := 112) rfl) rfl
theorem wl_X2_z : Cond.lays RX2 "ValveRiver$Valley" "z" "I" ∈ TB := TB_1 (List.mem_of_getElem? (i := 114) rfl) rfl
theorem wcl_X5_29 : Cond.classLink RX5 29 RX1 ∈ TB := TB_1 (List.mem_of_getElem? (i := 117) rfl) rfl
theorem wa_arrayOver_objectValveRiverSheet : Cond.arrayOver (.object "ValveRiver$Sheet") ∈ lw_tbl := TT_1 (List.mem_of_getElem? (i := 118) rfl)
theorem wn_X1 : Cond.instantiable RX1 3 ∈ TB := TB_1 (List.mem_of_getElem? (i := 119) rfl) rfl
theorem wmn_X5_31 : Cond.methodLinkNest RX5 31 yX1_init "ValveRiver" ∈ lw_tbl := TT_1 (List.mem_of_getElem? (i := 120) rfl)
theorem wi_X1_init : Cond.instanceMethod yX1_init ∈ TB := TB_1 (List.mem_of_getElem? (i := 121) rfl) rfl
theorem wc_X1_init : Cond.code yX1_init cX1_init 1 none ∈ TB := TB_1 (List.mem_of_getElem? (i := 122) rfl) rfl
theorem wm_X1_3 : Cond.methodLink RX1 3 objectInit ∈ TB := TB_1 (List.mem_of_getElem? (i := 123) rfl) rfl
theorem wf_X1_9 : Cond.fieldLink RX1 9 "ValveRiver$Sheet" "numbers" "[I" ∈ TB := TB_1 (List.mem_of_getElem? (i := 124) rfl) rfl
theorem wf_X5_275 : Cond.fieldLink RX5 275 "ValveRiver$Sheet" "numbers" "[I" ∈ TB := TB_1 (List.mem_of_getElem? (i := 125) rfl) rfl
theorem wf_X1_15 : Cond.fieldLink RX1 15 "ValveRiver$Sheet" "bits" "I" ∈ TB := TB_1 (List.mem_of_getElem? (i := 126) rfl) rfl
theorem wf_X5_269 : Cond.fieldLink RX5 269 "ValveRiver$Sheet" "bits" "I" ∈ TB := TB_1 (List.mem_of_getElem? (i := 127) rfl) rfl
theorem wf_X1_19 : Cond.fieldLink RX1 19 "ValveRiver$Sheet" "size" "I" ∈ TB := TB_1 (List.mem_of_getElem? (i := 128) rfl) rfl
theorem wf_X5_261 : Cond.fieldLink RX5 261 "ValveRiver$Sheet" "size" "I" ∈ TB := TB_1 (List.mem_of_getElem? (i := 129) rfl) rfl
theorem wl_X1_numbers : Cond.laysFinal RX1 "ValveRiver$Sheet" "numbers" "[I" ∈ TB := TB_1 (List.mem_of_getElem? (i := 130) rfl) rfl
theorem wl_X1_bits : Cond.lays RX1 "ValveRiver$Sheet" "bits" "I" ∈ TB := TB_1 (List.mem_of_getElem? (i := 132) rfl) rfl
theorem wl_X1_size : Cond.lays RX1 "ValveRiver$Sheet" "size" "I" ∈ TB := TB_1 (List.mem_of_getElem? (i := 134) rfl) rfl
theorem wcl_X5_36 : Cond.classLink RX5 36 RX0 ∈ TB := TB_1 (List.mem_of_getElem? (i := 137) rfl) rfl
theorem wn_X0 : Cond.instantiable RX0 6 ∈ TB := TB_1 (List.mem_of_getElem? (i := 138) rfl) rfl
theorem wmn_X5_38 : Cond.methodLinkNest RX5 38 yX0_init "ValveRiver" ∈ lw_tbl := TT_1 (List.mem_of_getElem? (i := 139) rfl)
theorem wi_X0_init : Cond.instanceMethod yX0_init ∈ TB := TB_1 (List.mem_of_getElem? (i := 140) rfl) rfl
theorem wc_X0_init : Cond.code yX0_init cX0_init 1 none ∈ TB := TB_1 (List.mem_of_getElem? (i := 141) rfl) rfl
theorem wm_X0_3 : Cond.methodLink RX0 3 objectInit ∈ TB := TB_1 (List.mem_of_getElem? (i := 142) rfl) rfl
theorem wf_X0_9 : Cond.fieldLink RX0 9 "ValveRiver$Reader" "tape" "[I" ∈ TB := TB_1 (List.mem_of_getElem? (i := 143) rfl) rfl
theorem wf_X0_15 : Cond.fieldLink RX0 15 "ValveRiver$Reader" "length" "I" ∈ TB := TB_1 (List.mem_of_getElem? (i := 144) rfl) rfl
theorem wf_X5_232 : Cond.fieldLink RX5 232 "ValveRiver$Reader" "length" "I" ∈ TB := TB_1 (List.mem_of_getElem? (i := 145) rfl) rfl
theorem wf_X0_19 : Cond.fieldLink RX0 19 "ValveRiver$Reader" "fault" "I" ∈ TB := TB_1 (List.mem_of_getElem? (i := 146) rfl) rfl
theorem wf_X5_245 : Cond.fieldLink RX5 245 "ValveRiver$Reader" "fault" "I" ∈ TB := TB_1 (List.mem_of_getElem? (i := 147) rfl) rfl
theorem wf_X0_22 : Cond.fieldLink RX0 22 "ValveRiver$Reader" "token" "I" ∈ TB := TB_1 (List.mem_of_getElem? (i := 148) rfl) rfl
theorem wf_X0_25 : Cond.fieldLink RX0 25 "ValveRiver$Reader" "start" "I" ∈ TB := TB_1 (List.mem_of_getElem? (i := 149) rfl) rfl
theorem wf_X0_28 : Cond.fieldLink RX0 28 "ValveRiver$Reader" "end" "I" ∈ TB := TB_1 (List.mem_of_getElem? (i := 150) rfl) rfl
theorem wl_X0_tape : Cond.laysFinal RX0 "ValveRiver$Reader" "tape" "[I" ∈ TB := TB_1 (List.mem_of_getElem? (i := 151) rfl) rfl
theorem wl_X0_length : Cond.lays RX0 "ValveRiver$Reader" "length" "I" ∈ TB := TB_1 (List.mem_of_getElem? (i := 153) rfl) rfl
theorem wl_X0_fault : Cond.lays RX0 "ValveRiver$Reader" "fault" "I" ∈ TB := TB_1 (List.mem_of_getElem? (i := 155) rfl) rfl
theorem wl_X0_token : Cond.lays RX0 "ValveRiver$Reader" "token" "I" ∈ TB := TB_1 (List.mem_of_getElem? (i := 157) rfl) rfl
theorem wl_X0_start : Cond.lays RX0 "ValveRiver$Reader" "start" "I" ∈ TB := TB_1 (List.mem_of_getElem? (i := 159) rfl) rfl
theorem wl_X0_end : Cond.lays RX0 "ValveRiver$Reader" "end" "I" ∈ TB := TB_1 (List.mem_of_getElem? (i := 161) rfl) rfl
theorem wf_X5_12 : Cond.fieldLink RX5 12 "ValveRiver" "valley" "LValveRiver$Valley;" ∈ TB := TB_1 (List.mem_of_getElem? (i := 164) rfl) rfl
theorem wf_X5_16 : Cond.fieldLink RX5 16 "ValveRiver" "kept" "LValveRiver$Valley;" ∈ TB := TB_1 (List.mem_of_getElem? (i := 165) rfl) rfl
theorem wf_X5_19 : Cond.fieldLink RX5 19 "ValveRiver" "trial" "LValveRiver$Valley;" ∈ TB := TB_1 (List.mem_of_getElem? (i := 166) rfl) rfl
theorem wf_X5_22 : Cond.fieldLink RX5 22 "ValveRiver" "asleep" "LValveRiver$Valley;" ∈ TB := TB_1 (List.mem_of_getElem? (i := 167) rfl) rfl
theorem wf_X5_25 : Cond.fieldLink RX5 25 "ValveRiver" "stirred" "[I" ∈ TB := TB_1 (List.mem_of_getElem? (i := 168) rfl) rfl
theorem wf_X5_32 : Cond.fieldLink RX5 32 "ValveRiver" "sheets" "[LValveRiver$Sheet;" ∈ TB := TB_1 (List.mem_of_getElem? (i := 169) rfl) rfl
theorem wf_X5_39 : Cond.fieldLink RX5 39 "ValveRiver" "reader" "LValveRiver$Reader;" ∈ TB := TB_1 (List.mem_of_getElem? (i := 170) rfl) rfl
theorem wf_X5_43 : Cond.fieldLink RX5 43 "ValveRiver" "findings" "[I" ∈ TB := TB_1 (List.mem_of_getElem? (i := 171) rfl) rfl
theorem wf_X5_46 : Cond.fieldLink RX5 46 "ValveRiver" "isKept" "Z" ∈ TB := TB_1 (List.mem_of_getElem? (i := 172) rfl) rfl
theorem wl_X5_valley : Cond.laysFinal RX5 "ValveRiver" "valley" "LValveRiver$Valley;" ∈ TB := TB_1 (List.mem_of_getElem? (i := 173) rfl) rfl
theorem wl_X5_kept : Cond.laysFinal RX5 "ValveRiver" "kept" "LValveRiver$Valley;" ∈ TB := TB_1 (List.mem_of_getElem? (i := 175) rfl) rfl
theorem wl_X5_trial : Cond.laysFinal RX5 "ValveRiver" "trial" "LValveRiver$Valley;" ∈ TB := TB_1 (List.mem_of_getElem? (i := 177) rfl) rfl
theorem wl_X5_asleep : Cond.laysFinal RX5 "ValveRiver" "asleep" "LValveRiver$Valley;" ∈ TB := TB_1 (List.mem_of_getElem? (i := 179) rfl) rfl
theorem wl_X5_stirred : Cond.laysFinal RX5 "ValveRiver" "stirred" "[I" ∈ TB := TB_1 (List.mem_of_getElem? (i := 181) rfl) rfl
theorem wl_X5_sheets : Cond.laysFinal RX5 "ValveRiver" "sheets" "[LValveRiver$Sheet;" ∈ TB := TB_1 (List.mem_of_getElem? (i := 183) rfl) rfl
theorem wl_X5_reader : Cond.laysFinal RX5 "ValveRiver" "reader" "LValveRiver$Reader;" ∈ TB := TB_1 (List.mem_of_getElem? (i := 185) rfl) rfl
theorem wl_X5_findings : Cond.laysFinal RX5 "ValveRiver" "findings" "[I" ∈ TB := TB_1 (List.mem_of_getElem? (i := 187) rfl) rfl
theorem wl_X5_isKept : Cond.lays RX5 "ValveRiver" "isKept" "Z" ∈ TB := TB_1 (List.mem_of_getElem? (i := 189) rfl) rfl
theorem wm_L_13 : Cond.methodLink RL 13 yX5_level ∈ TB := TB_1 (List.mem_of_getElem? (i := 192) rfl) rfl
theorem wi_X5_level : Cond.instanceMethod yX5_level ∈ TB := TB_1 (List.mem_of_getElem? (i := 193) rfl) rfl
theorem wsel_X5_level : Cond.selects RX5 yX5_level yX5_level ∈ TB := TB_1 (List.mem_of_getElem? (i := 194) rfl) rfl
theorem wc_X5_level : Cond.code yX5_level cX5_level 4 (some .int) ∈ TB := TB_1 (List.mem_of_getElem? (i := 195) rfl) rfl
theorem wm_X5_50 : Cond.methodLink RX5 50 yX5_outside ∈ TB := TB_1 (List.mem_of_getElem? (i := 196) rfl) rfl
theorem wst_X5_outside : Cond.static yX5_outside ∈ TB := TB_1 (List.mem_of_getElem? (i := 197) rfl) rfl
theorem wc_X5_outside : Cond.code yX5_outside cX5_outside 2 (some .boolean) ∈ TB := TB_1 (List.mem_of_getElem? (i := 198) rfl) rfl
theorem wk_X5_54 : Cond.constant RX5 54 (-1000001) ∈ TB := TB_1 (List.mem_of_getElem? (i := 199) rfl) rfl
theorem wm_X5_55 : Cond.methodLink RX5 55 yX5_finding ∈ TB := TB_1 (List.mem_of_getElem? (i := 200) rfl) rfl
theorem wp_X5_finding : Cond.privateMethod yX5_finding ∈ lw_tbl := TT_1 (List.mem_of_getElem? (i := 201) rfl)
theorem wi_X5_finding : Cond.instanceMethod yX5_finding ∈ TB := TB_1 (List.mem_of_getElem? (i := 202) rfl) rfl
theorem wc_X5_finding : Cond.code yX5_finding cX5_finding 3 (some .int) ∈ TB := TB_1 (List.mem_of_getElem? (i := 203) rfl) rfl
theorem wm_L_18 : Cond.methodLink RL 18 yX5_stands ∈ TB := TB_1 (List.mem_of_getElem? (i := 204) rfl) rfl
theorem wi_X5_stands : Cond.instanceMethod yX5_stands ∈ TB := TB_1 (List.mem_of_getElem? (i := 205) rfl) rfl
theorem wsel_X5_stands : Cond.selects RX5 yX5_stands yX5_stands ∈ TB := TB_1 (List.mem_of_getElem? (i := 206) rfl) rfl
theorem wc_X5_stands : Cond.code yX5_stands cX5_stands 2 (some .int) ∈ TB := TB_1 (List.mem_of_getElem? (i := 207) rfl) rfl
theorem wm_L_23 : Cond.methodLink RL 23 yX5_plan ∈ TB := TB_1 (List.mem_of_getElem? (i := 208) rfl) rfl
theorem wi_X5_plan : Cond.instanceMethod yX5_plan ∈ TB := TB_1 (List.mem_of_getElem? (i := 209) rfl) rfl
theorem wsel_X5_plan : Cond.selects RX5 yX5_plan yX5_plan ∈ TB := TB_1 (List.mem_of_getElem? (i := 210) rfl) rfl
theorem wc_X5_plan : Cond.code yX5_plan cX5_plan 4 (some .int) ∈ TB := TB_1 (List.mem_of_getElem? (i := 211) rfl) rfl
theorem wm_L_27 : Cond.methodLink RL 27 yX5_opening ∈ TB := TB_1 (List.mem_of_getElem? (i := 212) rfl) rfl
theorem wi_X5_opening : Cond.instanceMethod yX5_opening ∈ TB := TB_1 (List.mem_of_getElem? (i := 213) rfl) rfl
theorem wsel_X5_opening : Cond.selects RX5 yX5_opening yX5_opening ∈ TB := TB_1 (List.mem_of_getElem? (i := 214) rfl) rfl
theorem wc_X5_opening : Cond.code yX5_opening cX5_opening 2 (some .int) ∈ TB := TB_1 (List.mem_of_getElem? (i := 215) rfl) rfl
theorem wm_L_31 : Cond.methodLink RL 31 yX5_steady ∈ TB := TB_1 (List.mem_of_getElem? (i := 216) rfl) rfl
theorem wi_X5_steady : Cond.instanceMethod yX5_steady ∈ TB := TB_1 (List.mem_of_getElem? (i := 217) rfl) rfl
theorem wsel_X5_steady : Cond.selects RX5 yX5_steady yX5_steady ∈ TB := TB_1 (List.mem_of_getElem? (i := 218) rfl) rfl
theorem wc_X5_steady : Cond.code yX5_steady cX5_steady 3 (some .int) ∈ TB := TB_1 (List.mem_of_getElem? (i := 219) rfl) rfl
theorem wm_X5_71 : Cond.methodLink RX5 71 yX4_openingsTogether ∈ TB := TB_1 (List.mem_of_getElem? (i := 220) rfl) rfl
theorem wi_X4_openingsTogether : Cond.instanceMethod yX4_openingsTogether ∈ TB := TB_1 (List.mem_of_getElem? (i := 221) rfl) rfl
theorem wsel_X4_openingsTogether : Cond.selects RX4 yX4_openingsTogether yX4_openingsTogether ∈ TB := TB_1 (List.mem_of_getElem? (i := 222) rfl) rfl
theorem wc_X4_openingsTogether : Cond.code yX4_openingsTogether cX4_openingsTogether 1 (some .int) ∈ TB := TB_1 (List.mem_of_getElem? (i := 223) rfl) rfl
theorem wmn_X4_46 : Cond.methodLinkNest RX4 46 yX5_together "ValveRiver" ∈ lw_tbl := TT_1 (List.mem_of_getElem? (i := 224) rfl)
theorem wst_X5_together : Cond.static yX5_together ∈ TB := TB_1 (List.mem_of_getElem? (i := 225) rfl) rfl
theorem wc_X5_together : Cond.code yX5_together cX5_together 3 (some .int) ∈ TB := TB_1 (List.mem_of_getElem? (i := 226) rfl) rfl
theorem wm_X5_75 : Cond.methodLink RX5 75 yX4_openAll ∈ TB := TB_1 (List.mem_of_getElem? (i := 227) rfl) rfl
theorem wi_X4_openAll : Cond.instanceMethod yX4_openAll ∈ TB := TB_1 (List.mem_of_getElem? (i := 228) rfl) rfl
theorem wsel_X4_openAll : Cond.selects RX4 yX4_openAll yX4_openAll ∈ TB := TB_1 (List.mem_of_getElem? (i := 229) rfl) rfl
theorem wc_X4_openAll : Cond.code yX4_openAll cX4_openAll 3 none ∈ TB := TB_1 (List.mem_of_getElem? (i := 230) rfl) rfl
theorem wm_L_35 : Cond.methodLink RL 35 yX5_watcher ∈ TB := TB_1 (List.mem_of_getElem? (i := 231) rfl) rfl
theorem wi_X5_watcher : Cond.instanceMethod yX5_watcher ∈ TB := TB_1 (List.mem_of_getElem? (i := 232) rfl) rfl
theorem wsel_X5_watcher : Cond.selects RX5 yX5_watcher yX5_watcher ∈ TB := TB_1 (List.mem_of_getElem? (i := 233) rfl) rfl
theorem wc_X5_watcher : Cond.code yX5_watcher cX5_watcher 3 (some .int) ∈ TB := TB_1 (List.mem_of_getElem? (i := 234) rfl) rfl
theorem wm_X5_79 : Cond.methodLink RX5 79 yX2_isFull ∈ TB := TB_1 (List.mem_of_getElem? (i := 235) rfl) rfl
theorem wi_X2_isFull : Cond.instanceMethod yX2_isFull ∈ TB := TB_1 (List.mem_of_getElem? (i := 236) rfl) rfl
theorem wsel_X2_isFull : Cond.selects RX2 yX2_isFull yX2_isFull ∈ TB := TB_1 (List.mem_of_getElem? (i := 237) rfl) rfl
theorem wc_X2_isFull : Cond.code yX2_isFull cX2_isFull 1 (some .boolean) ∈ TB := TB_1 (List.mem_of_getElem? (i := 238) rfl) rfl
theorem wk_X5_83 : Cond.constant RX5 83 (-1000002) ∈ TB := TB_1 (List.mem_of_getElem? (i := 239) rfl) rfl
theorem wm_X5_84 : Cond.methodLink RX5 84 yX2_settle ∈ TB := TB_2 (List.mem_of_getElem? (i := 0) rfl) rfl
theorem wi_X2_settle : Cond.instanceMethod yX2_settle ∈ TB := TB_2 (List.mem_of_getElem? (i := 1) rfl) rfl
theorem wsel_X2_settle : Cond.selects RX2 yX2_settle yX2_settle ∈ TB := TB_2 (List.mem_of_getElem? (i := 2) rfl) rfl
theorem wc_X2_settle : Cond.code yX2_settle cX2_settle 4 (some .int) ∈ TB := TB_2 (List.mem_of_getElem? (i := 3) rfl) rfl
theorem wm_X2_49 : Cond.methodLink RX2 49 yX3_begin ∈ TB := TB_2 (List.mem_of_getElem? (i := 4) rfl) rfl
theorem wi_X3_begin : Cond.instanceMethod yX3_begin ∈ TB := TB_2 (List.mem_of_getElem? (i := 5) rfl) rfl
theorem wsel_X3_begin : Cond.selects RX3 yX3_begin yX3_begin ∈ TB := TB_2 (List.mem_of_getElem? (i := 6) rfl) rfl
theorem wc_X3_begin : Cond.code yX3_begin cX3_begin 3 none ∈ TB := TB_2 (List.mem_of_getElem? (i := 7) rfl) rfl
theorem wm_L_39 : Cond.methodLink RL 39 yX5_of ∈ TB := TB_2 (List.mem_of_getElem? (i := 8) rfl) rfl
theorem wi_X5_of : Cond.instanceMethod yX5_of ∈ TB := TB_2 (List.mem_of_getElem? (i := 9) rfl) rfl
theorem wsel_X5_of : Cond.selects RX5 yX5_of yX5_of ∈ TB := TB_2 (List.mem_of_getElem? (i := 10) rfl) rfl
theorem wc_X5_of : Cond.code yX5_of cX5_of 4 (some .int) ∈ TB := TB_2 (List.mem_of_getElem? (i := 11) rfl) rfl
theorem wm_X5_88 : Cond.methodLink RX5 88 yX5_noWatcher ∈ TB := TB_2 (List.mem_of_getElem? (i := 12) rfl) rfl
theorem wp_X5_noWatcher : Cond.privateMethod yX5_noWatcher ∈ lw_tbl := TT_2 (List.mem_of_getElem? (i := 13) rfl)
theorem wi_X5_noWatcher : Cond.instanceMethod yX5_noWatcher ∈ TB := TB_2 (List.mem_of_getElem? (i := 14) rfl) rfl
theorem wc_X5_noWatcher : Cond.code yX5_noWatcher cX5_noWatcher 2 (some .boolean) ∈ TB := TB_2 (List.mem_of_getElem? (i := 15) rfl) rfl
theorem wm_X5_114 : Cond.methodLink RX5 114 yX3_bears ∈ TB := TB_2 (List.mem_of_getElem? (i := 16) rfl) rfl
theorem wi_X3_bears : Cond.instanceMethod yX3_bears ∈ TB := TB_2 (List.mem_of_getElem? (i := 17) rfl) rfl
theorem wsel_X3_bears : Cond.selects RX3 yX3_bears yX3_bears ∈ TB := TB_2 (List.mem_of_getElem? (i := 18) rfl) rfl
theorem wc_X3_bears : Cond.code yX3_bears cX3_bears 1 (some .int) ∈ TB := TB_2 (List.mem_of_getElem? (i := 19) rfl) rfl
theorem wm_X3_58 : Cond.methodLink RX3 58 yX3_millBears ∈ TB := TB_2 (List.mem_of_getElem? (i := 20) rfl) rfl
theorem wp_X3_millBears : Cond.privateMethod yX3_millBears ∈ lw_tbl := TT_2 (List.mem_of_getElem? (i := 21) rfl)
theorem wi_X3_millBears : Cond.instanceMethod yX3_millBears ∈ TB := TB_2 (List.mem_of_getElem? (i := 22) rfl) rfl
theorem wc_X3_millBears : Cond.code yX3_millBears cX3_millBears 1 (some .int) ∈ TB := TB_2 (List.mem_of_getElem? (i := 23) rfl) rfl
theorem wm_X5_117 : Cond.methodLink RX5 117 yX3_doubts ∈ TB := TB_2 (List.mem_of_getElem? (i := 24) rfl) rfl
theorem wi_X3_doubts : Cond.instanceMethod yX3_doubts ∈ TB := TB_2 (List.mem_of_getElem? (i := 25) rfl) rfl
theorem wsel_X3_doubts : Cond.selects RX3 yX3_doubts yX3_doubts ∈ TB := TB_2 (List.mem_of_getElem? (i := 26) rfl) rfl
theorem wc_X3_doubts : Cond.code yX3_doubts cX3_doubts 1 (some .int) ∈ TB := TB_2 (List.mem_of_getElem? (i := 27) rfl) rfl
theorem wm_X5_120 : Cond.methodLink RX5 120 yX3_trusts ∈ TB := TB_2 (List.mem_of_getElem? (i := 28) rfl) rfl
theorem wi_X3_trusts : Cond.instanceMethod yX3_trusts ∈ TB := TB_2 (List.mem_of_getElem? (i := 29) rfl) rfl
theorem wsel_X3_trusts : Cond.selects RX3 yX3_trusts yX3_trusts ∈ TB := TB_2 (List.mem_of_getElem? (i := 30) rfl) rfl
theorem wc_X3_trusts : Cond.code yX3_trusts cX3_trusts 1 (some .int) ∈ TB := TB_2 (List.mem_of_getElem? (i := 31) rfl) rfl
theorem wm_L_43 : Cond.methodLink RL 43 yX5_change ∈ TB := TB_2 (List.mem_of_getElem? (i := 32) rfl) rfl
theorem wi_X5_change : Cond.instanceMethod yX5_change ∈ TB := TB_2 (List.mem_of_getElem? (i := 33) rfl) rfl
theorem wsel_X5_change : Cond.selects RX5 yX5_change yX5_change ∈ TB := TB_2 (List.mem_of_getElem? (i := 34) rfl) rfl
theorem wc_X5_change : Cond.code yX5_change cX5_change 4 (some .int) ∈ TB := TB_2 (List.mem_of_getElem? (i := 35) rfl) rfl
theorem wm_X5_123 : Cond.methodLink RX5 123 yX5_mostOf ∈ TB := TB_2 (List.mem_of_getElem? (i := 36) rfl) rfl
theorem wst_X5_mostOf : Cond.static yX5_mostOf ∈ TB := TB_2 (List.mem_of_getElem? (i := 37) rfl) rfl
theorem wc_X5_mostOf : Cond.code yX5_mostOf cX5_mostOf 1 (some .int) ∈ TB := TB_2 (List.mem_of_getElem? (i := 38) rfl) rfl
theorem wm_X5_126 : Cond.methodLink RX5 126 yX3_set ∈ TB := TB_2 (List.mem_of_getElem? (i := 39) rfl) rfl
theorem wi_X3_set : Cond.instanceMethod yX3_set ∈ TB := TB_2 (List.mem_of_getElem? (i := 40) rfl) rfl
theorem wsel_X3_set : Cond.selects RX3 yX3_set yX3_set ∈ TB := TB_2 (List.mem_of_getElem? (i := 41) rfl) rfl
theorem wc_X3_set : Cond.code yX3_set cX3_set 4 (some .int) ∈ TB := TB_2 (List.mem_of_getElem? (i := 42) rfl) rfl
theorem wm_L_48 : Cond.methodLink RL 48 yX5_go ∈ TB := TB_2 (List.mem_of_getElem? (i := 43) rfl) rfl
theorem wi_X5_go : Cond.instanceMethod yX5_go ∈ TB := TB_2 (List.mem_of_getElem? (i := 44) rfl) rfl
theorem wsel_X5_go : Cond.selects RX5 yX5_go yX5_go ∈ TB := TB_2 (List.mem_of_getElem? (i := 45) rfl) rfl
theorem wc_X5_go : Cond.code yX5_go cX5_go 2 (some .int) ∈ TB := TB_2 (List.mem_of_getElem? (i := 46) rfl) rfl
theorem wk_X5_132 : Cond.constant RX5 132 (99999) ∈ TB := TB_2 (List.mem_of_getElem? (i := 47) rfl) rfl
theorem wk_X5_133 : Cond.constant RX5 133 (-1000005) ∈ TB := TB_2 (List.mem_of_getElem? (i := 48) rfl) rfl
theorem wm_X5_134 : Cond.methodLink RX5 134 yX2_pass ∈ TB := TB_2 (List.mem_of_getElem? (i := 49) rfl) rfl
theorem wi_X2_pass : Cond.instanceMethod yX2_pass ∈ TB := TB_2 (List.mem_of_getElem? (i := 50) rfl) rfl
theorem wsel_X2_pass : Cond.selects RX2 yX2_pass yX2_pass ∈ TB := TB_2 (List.mem_of_getElem? (i := 51) rfl) rfl
theorem wc_X2_pass : Cond.code yX2_pass cX2_pass 3 none ∈ TB := TB_2 (List.mem_of_getElem? (i := 52) rfl) rfl
theorem wm_X2_53 : Cond.methodLink RX2 53 yX4_run ∈ TB := TB_2 (List.mem_of_getElem? (i := 53) rfl) rfl
theorem wi_X4_run : Cond.instanceMethod yX4_run ∈ TB := TB_2 (List.mem_of_getElem? (i := 54) rfl) rfl
theorem wsel_X4_run : Cond.selects RX4 yX4_run yX4_run ∈ TB := TB_2 (List.mem_of_getElem? (i := 55) rfl) rfl
theorem wc_X4_run : Cond.code yX4_run cX4_run 3 none ∈ TB := TB_2 (List.mem_of_getElem? (i := 56) rfl) rfl
theorem wm_X4_34 : Cond.methodLink RX4 34 yX4_flow ∈ TB := TB_2 (List.mem_of_getElem? (i := 57) rfl) rfl
theorem wi_X4_flow : Cond.instanceMethod yX4_flow ∈ TB := TB_2 (List.mem_of_getElem? (i := 58) rfl) rfl
theorem wsel_X4_flow : Cond.selects RX4 yX4_flow yX4_flow ∈ TB := TB_2 (List.mem_of_getElem? (i := 59) rfl) rfl
theorem wc_X4_flow : Cond.code yX4_flow cX4_flow 4 none ∈ TB := TB_2 (List.mem_of_getElem? (i := 60) rfl) rfl
theorem wm_X4_28 : Cond.methodLink RX4 28 arraycopyName ∈ TB := TB_2 (List.mem_of_getElem? (i := 61) rfl) rfl
theorem wst_arraycopy : Cond.static arraycopyName ∈ TB := TB_2 (List.mem_of_getElem? (i := 62) rfl) rfl
theorem wnat_arraycopy : Cond.native arraycopyName ∈ TB := TB_2 (List.mem_of_getElem? (i := 63) rfl) rfl
theorem wk_X4_38 : Cond.constant RX4 38 (999999) ∈ TB := TB_2 (List.mem_of_getElem? (i := 64) rfl) rfl
theorem wm_X4_39 : Cond.methodLink RX4 39 Lib.Math.min.name ∈ TB := TB_2 (List.mem_of_getElem? (i := 65) rfl) rfl
theorem wst_min : Cond.static Lib.Math.min.name ∈ TB := TB_2 (List.mem_of_getElem? (i := 66) rfl) rfl
theorem wc_min : Cond.code Lib.Math.min.name Lib.Math.min.code 2 (some .int) ∈ TB := TB_2 (List.mem_of_getElem? (i := 67) rfl) rfl
theorem wk_X4_45 : Cond.constant RX4 45 (99999) ∈ TB := TB_2 (List.mem_of_getElem? (i := 68) rfl) rfl
theorem wm_X2_57 : Cond.methodLink RX2 57 yX2_liveAll ∈ TB := TB_2 (List.mem_of_getElem? (i := 69) rfl) rfl
theorem wp_X2_liveAll : Cond.privateMethod yX2_liveAll ∈ lw_tbl := TT_2 (List.mem_of_getElem? (i := 70) rfl)
theorem wi_X2_liveAll : Cond.instanceMethod yX2_liveAll ∈ TB := TB_2 (List.mem_of_getElem? (i := 71) rfl) rfl
theorem wc_X2_liveAll : Cond.code yX2_liveAll cX2_liveAll 3 none ∈ TB := TB_2 (List.mem_of_getElem? (i := 72) rfl) rfl
theorem wm_X2_72 : Cond.methodLink RX2 72 yX3_live ∈ TB := TB_2 (List.mem_of_getElem? (i := 73) rfl) rfl
theorem wi_X3_live : Cond.instanceMethod yX3_live ∈ TB := TB_2 (List.mem_of_getElem? (i := 74) rfl) rfl
theorem wsel_X3_live : Cond.selects RX3 yX3_live yX3_live ∈ TB := TB_2 (List.mem_of_getElem? (i := 75) rfl) rfl
theorem wc_X3_live : Cond.code yX3_live cX3_live 3 none ∈ TB := TB_2 (List.mem_of_getElem? (i := 76) rfl) rfl
theorem wm_X3_27 : Cond.methodLink RX3 27 yX3_knows ∈ TB := TB_2 (List.mem_of_getElem? (i := 77) rfl) rfl
theorem wi_X3_knows : Cond.instanceMethod yX3_knows ∈ TB := TB_2 (List.mem_of_getElem? (i := 78) rfl) rfl
theorem wsel_X3_knows : Cond.selects RX3 yX3_knows yX3_knows ∈ TB := TB_2 (List.mem_of_getElem? (i := 79) rfl) rfl
theorem wc_X3_knows : Cond.code yX3_knows cX3_knows 1 (some .boolean) ∈ TB := TB_2 (List.mem_of_getElem? (i := 80) rfl) rfl
theorem wm_X3_31 : Cond.methodLink RX3 31 Lib.Math.abs.name ∈ TB := TB_2 (List.mem_of_getElem? (i := 81) rfl) rfl
theorem wst_abs : Cond.static Lib.Math.abs.name ∈ TB := TB_2 (List.mem_of_getElem? (i := 82) rfl) rfl
theorem wc_abs : Cond.code Lib.Math.abs.name Lib.Math.abs.code 1 (some .int) ∈ TB := TB_2 (List.mem_of_getElem? (i := 83) rfl) rfl
theorem wm_X3_37 : Cond.methodLink RX3 37 yX3_bears ∈ TB := TB_2 (List.mem_of_getElem? (i := 84) rfl) rfl
theorem wm_X3_41 : Cond.methodLink RX3 41 yX3_doubts ∈ TB := TB_2 (List.mem_of_getElem? (i := 85) rfl) rfl
theorem wm_X3_44 : Cond.methodLink RX3 44 Lib.Math.max.name ∈ TB := TB_2 (List.mem_of_getElem? (i := 86) rfl) rfl
theorem wst_max : Cond.static Lib.Math.max.name ∈ TB := TB_2 (List.mem_of_getElem? (i := 87) rfl) rfl
theorem wc_max : Cond.code Lib.Math.max.name Lib.Math.max.code 2 (some .int) ∈ TB := TB_2 (List.mem_of_getElem? (i := 88) rfl) rfl
theorem wm_X3_48 : Cond.methodLink RX3 48 yX3_lacks ∈ TB := TB_2 (List.mem_of_getElem? (i := 89) rfl) rfl
theorem wi_X3_lacks : Cond.instanceMethod yX3_lacks ∈ TB := TB_2 (List.mem_of_getElem? (i := 90) rfl) rfl
theorem wsel_X3_lacks : Cond.selects RX3 yX3_lacks yX3_lacks ∈ TB := TB_2 (List.mem_of_getElem? (i := 91) rfl) rfl
theorem wc_X3_lacks : Cond.code yX3_lacks cX3_lacks 2 (some .boolean) ∈ TB := TB_2 (List.mem_of_getElem? (i := 92) rfl) rfl
theorem wm_X3_52 : Cond.methodLink RX3 52 yX3_trusts ∈ TB := TB_2 (List.mem_of_getElem? (i := 93) rfl) rfl
theorem wm_X3_55 : Cond.methodLink RX3 55 Lib.Math.min.name ∈ TB := TB_2 (List.mem_of_getElem? (i := 94) rfl) rfl
theorem wm_X5_137 : Cond.methodLink RX5 137 yX2_knowing ∈ TB := TB_2 (List.mem_of_getElem? (i := 95) rfl) rfl
theorem wi_X2_knowing : Cond.instanceMethod yX2_knowing ∈ TB := TB_2 (List.mem_of_getElem? (i := 96) rfl) rfl
theorem wsel_X2_knowing : Cond.selects RX2 yX2_knowing yX2_knowing ∈ TB := TB_2 (List.mem_of_getElem? (i := 97) rfl) rfl
theorem wc_X2_knowing : Cond.code yX2_knowing cX2_knowing 3 (some .int) ∈ TB := TB_2 (List.mem_of_getElem? (i := 98) rfl) rfl
theorem wm_X2_82 : Cond.methodLink RX2 82 yX3_knows ∈ TB := TB_2 (List.mem_of_getElem? (i := 99) rfl) rfl
theorem wm_L_52 : Cond.methodLink RL 52 yX5_now ∈ TB := TB_2 (List.mem_of_getElem? (i := 100) rfl) rfl
theorem wi_X5_now : Cond.instanceMethod yX5_now ∈ TB := TB_2 (List.mem_of_getElem? (i := 101) rfl) rfl
theorem wsel_X5_now : Cond.selects RX5 yX5_now yX5_now ∈ TB := TB_2 (List.mem_of_getElem? (i := 102) rfl) rfl
theorem wc_X5_now : Cond.code yX5_now cX5_now 2 (some .int) ∈ TB := TB_2 (List.mem_of_getElem? (i := 103) rfl) rfl
theorem wm_X5_140 : Cond.methodLink RX5 140 yX4_levelsTogether ∈ TB := TB_2 (List.mem_of_getElem? (i := 104) rfl) rfl
theorem wi_X4_levelsTogether : Cond.instanceMethod yX4_levelsTogether ∈ TB := TB_2 (List.mem_of_getElem? (i := 105) rfl) rfl
theorem wsel_X4_levelsTogether : Cond.selects RX4 yX4_levelsTogether yX4_levelsTogether ∈ TB := TB_2 (List.mem_of_getElem? (i := 106) rfl) rfl
theorem wc_X4_levelsTogether : Cond.code yX4_levelsTogether cX4_levelsTogether 1 (some .int) ∈ TB := TB_2 (List.mem_of_getElem? (i := 107) rfl) rfl
theorem wm_X5_146 : Cond.methodLink RX5 146 yX2_lacking ∈ TB := TB_2 (List.mem_of_getElem? (i := 108) rfl) rfl
theorem wi_X2_lacking : Cond.instanceMethod yX2_lacking ∈ TB := TB_2 (List.mem_of_getElem? (i := 109) rfl) rfl
theorem wsel_X2_lacking : Cond.selects RX2 yX2_lacking yX2_lacking ∈ TB := TB_2 (List.mem_of_getElem? (i := 110) rfl) rfl
theorem wc_X2_lacking : Cond.code yX2_lacking cX2_lacking 3 (some .int) ∈ TB := TB_2 (List.mem_of_getElem? (i := 111) rfl) rfl
theorem wm_X2_86 : Cond.methodLink RX2 86 yX3_lacks ∈ TB := TB_2 (List.mem_of_getElem? (i := 112) rfl) rfl
theorem wm_X5_149 : Cond.methodLink RX5 149 yX2_beliefsTogether ∈ TB := TB_2 (List.mem_of_getElem? (i := 113) rfl) rfl
theorem wi_X2_beliefsTogether : Cond.instanceMethod yX2_beliefsTogether ∈ TB := TB_2 (List.mem_of_getElem? (i := 114) rfl) rfl
theorem wsel_X2_beliefsTogether : Cond.selects RX2 yX2_beliefsTogether yX2_beliefsTogether ∈ TB := TB_2 (List.mem_of_getElem? (i := 115) rfl) rfl
theorem wc_X2_beliefsTogether : Cond.code yX2_beliefsTogether cX2_beliefsTogether 3 (some .int) ∈ TB := TB_2 (List.mem_of_getElem? (i := 116) rfl) rfl
theorem wm_L_56 : Cond.methodLink RL 56 yX5_ahead ∈ TB := TB_2 (List.mem_of_getElem? (i := 117) rfl) rfl
theorem wi_X5_ahead : Cond.instanceMethod yX5_ahead ∈ TB := TB_2 (List.mem_of_getElem? (i := 118) rfl) rfl
theorem wsel_X5_ahead : Cond.selects RX5 yX5_ahead yX5_ahead ∈ TB := TB_2 (List.mem_of_getElem? (i := 119) rfl) rfl
theorem wc_X5_ahead : Cond.code yX5_ahead cX5_ahead 4 (some .int) ∈ TB := TB_2 (List.mem_of_getElem? (i := 120) rfl) rfl
theorem wm_X5_152 : Cond.methodLink RX5 152 yX5_waterTried ∈ TB := TB_2 (List.mem_of_getElem? (i := 121) rfl) rfl
theorem wp_X5_waterTried : Cond.privateMethod yX5_waterTried ∈ lw_tbl := TT_2 (List.mem_of_getElem? (i := 122) rfl)
theorem wi_X5_waterTried : Cond.instanceMethod yX5_waterTried ∈ TB := TB_2 (List.mem_of_getElem? (i := 123) rfl) rfl
theorem wc_X5_waterTried : Cond.code yX5_waterTried cX5_waterTried 1 (some (.object "ValveRiver$Water")) ∈ TB := TB_2 (List.mem_of_getElem? (i := 124) rfl) rfl
theorem wm_X5_294 : Cond.methodLink RX5 294 yX4_become ∈ TB := TB_2 (List.mem_of_getElem? (i := 125) rfl) rfl
theorem wi_X4_become : Cond.instanceMethod yX4_become ∈ TB := TB_2 (List.mem_of_getElem? (i := 126) rfl) rfl
theorem wsel_X4_become : Cond.selects RX4 yX4_become yX4_become ∈ TB := TB_2 (List.mem_of_getElem? (i := 127) rfl) rfl
theorem wc_X4_become : Cond.code yX4_become cX4_become 2 none ∈ TB := TB_2 (List.mem_of_getElem? (i := 128) rfl) rfl
theorem wm_X5_156 : Cond.methodLink RX5 156 yX4_run ∈ TB := TB_2 (List.mem_of_getElem? (i := 129) rfl) rfl
theorem wm_L_60 : Cond.methodLink RL 60 yX5_belief ∈ TB := TB_2 (List.mem_of_getElem? (i := 130) rfl) rfl
theorem wi_X5_belief : Cond.instanceMethod yX5_belief ∈ TB := TB_2 (List.mem_of_getElem? (i := 131) rfl) rfl
theorem wsel_X5_belief : Cond.selects RX5 yX5_belief yX5_belief ∈ TB := TB_2 (List.mem_of_getElem? (i := 132) rfl) rfl
theorem wc_X5_belief : Cond.code yX5_belief cX5_belief 5 (some .int) ∈ TB := TB_2 (List.mem_of_getElem? (i := 133) rfl) rfl
theorem wm_X5_159 : Cond.methodLink RX5 159 yX2_become ∈ TB := TB_2 (List.mem_of_getElem? (i := 134) rfl) rfl
theorem wi_X2_become : Cond.instanceMethod yX2_become ∈ TB := TB_2 (List.mem_of_getElem? (i := 135) rfl) rfl
theorem wsel_X2_become : Cond.selects RX2 yX2_become yX2_become ∈ TB := TB_2 (List.mem_of_getElem? (i := 136) rfl) rfl
theorem wc_X2_become : Cond.code yX2_become cX2_become 3 none ∈ TB := TB_2 (List.mem_of_getElem? (i := 137) rfl) rfl
theorem wm_X2_36 : Cond.methodLink RX2 36 yX4_become ∈ TB := TB_2 (List.mem_of_getElem? (i := 138) rfl) rfl
theorem wm_X2_40 : Cond.methodLink RX2 40 yX3_become ∈ TB := TB_2 (List.mem_of_getElem? (i := 139) rfl) rfl
theorem wi_X3_become : Cond.instanceMethod yX3_become ∈ TB := TB_2 (List.mem_of_getElem? (i := 140) rfl) rfl
theorem wsel_X3_become : Cond.selects RX3 yX3_become yX3_become ∈ TB := TB_2 (List.mem_of_getElem? (i := 141) rfl) rfl
theorem wc_X3_become : Cond.code yX3_become cX3_become 2 none ∈ TB := TB_2 (List.mem_of_getElem? (i := 142) rfl) rfl
theorem wm_X2_43 : Cond.methodLink RX2 43 arraycopyName ∈ TB := TB_2 (List.mem_of_getElem? (i := 143) rfl) rfl
theorem wm_L_64 : Cond.methodLink RL 64 yX5_when ∈ TB := TB_2 (List.mem_of_getElem? (i := 144) rfl) rfl
theorem wi_X5_when : Cond.instanceMethod yX5_when ∈ TB := TB_2 (List.mem_of_getElem? (i := 145) rfl) rfl
theorem wsel_X5_when : Cond.selects RX5 yX5_when yX5_when ∈ TB := TB_2 (List.mem_of_getElem? (i := 146) rfl) rfl
theorem wc_X5_when : Cond.code yX5_when cX5_when 3 (some .int) ∈ TB := TB_2 (List.mem_of_getElem? (i := 147) rfl) rfl
theorem wm_X5_163 : Cond.methodLink RX5 163 yX3_knows ∈ TB := TB_2 (List.mem_of_getElem? (i := 148) rfl) rfl
theorem wk_X5_166 : Cond.constant RX5 166 (-1000004) ∈ TB := TB_2 (List.mem_of_getElem? (i := 149) rfl) rfl
theorem wm_L_68 : Cond.methodLink RL 68 yX5_first ∈ TB := TB_2 (List.mem_of_getElem? (i := 150) rfl) rfl
theorem wi_X5_first : Cond.instanceMethod yX5_first ∈ TB := TB_2 (List.mem_of_getElem? (i := 151) rfl) rfl
theorem wsel_X5_first : Cond.selects RX5 yX5_first yX5_first ∈ TB := TB_2 (List.mem_of_getElem? (i := 152) rfl) rfl
theorem wc_X5_first : Cond.code yX5_first cX5_first 3 (some .int) ∈ TB := TB_2 (List.mem_of_getElem? (i := 153) rfl) rfl
theorem wm_X5_167 : Cond.methodLink RX5 167 yJ6_numberOfTrailingZeros_0f7a4 ∈ TB := TB_2 (List.mem_of_getElem? (i := 154) rfl) rfl
theorem wst_J6_numberOfTrailingZeros_0f7a4 : Cond.static yJ6_numberOfTrailingZeros_0f7a4 ∈ TB := TB_2 (List.mem_of_getElem? (i := 155) rfl) rfl
theorem wc_J6_numberOfTrailingZeros_0f7a4 : Cond.code yJ6_numberOfTrailingZeros_0f7a4 cJ6_numberOfTrailingZeros_0f7a4 2 (some .int) ∈ TB := TB_2 (List.mem_of_getElem? (i := 156) rfl) rfl
theorem wk_J6_264 : Cond.constant RJ6 264 (65536) ∈ TB := TB_2 (List.mem_of_getElem? (i := 157) rfl) rfl
theorem wm_L_73 : Cond.methodLink RL 73 yX5_reaches ∈ TB := TB_2 (List.mem_of_getElem? (i := 158) rfl) rfl
theorem wi_X5_reaches : Cond.instanceMethod yX5_reaches ∈ TB := TB_2 (List.mem_of_getElem? (i := 159) rfl) rfl
theorem wsel_X5_reaches : Cond.selects RX5 yX5_reaches yX5_reaches ∈ TB := TB_2 (List.mem_of_getElem? (i := 160) rfl) rfl
theorem wc_X5_reaches : Cond.code yX5_reaches cX5_reaches 5 (some .int) ∈ TB := TB_2 (List.mem_of_getElem? (i := 161) rfl) rfl
theorem wm_L_77 : Cond.methodLink RL 77 yX5_range ∈ TB := TB_2 (List.mem_of_getElem? (i := 162) rfl) rfl
theorem wi_X5_range : Cond.instanceMethod yX5_range ∈ TB := TB_2 (List.mem_of_getElem? (i := 163) rfl) rfl
theorem wsel_X5_range : Cond.selects RX5 yX5_range yX5_range ∈ TB := TB_2 (List.mem_of_getElem? (i := 164) rfl) rfl
theorem wc_X5_range : Cond.code yX5_range cX5_range 8 (some .int) ∈ TB := TB_2 (List.mem_of_getElem? (i := 165) rfl) rfl
theorem wm_X5_172 : Cond.methodLink RX5 172 Lib.Math.min.name ∈ TB := TB_2 (List.mem_of_getElem? (i := 166) rfl) rfl
theorem wm_X5_177 : Cond.methodLink RX5 177 Lib.Math.max.name ∈ TB := TB_2 (List.mem_of_getElem? (i := 167) rfl) rfl
theorem wm_L_81 : Cond.methodLink RL 81 yX5_enough ∈ TB := TB_2 (List.mem_of_getElem? (i := 168) rfl) rfl
theorem wi_X5_enough : Cond.instanceMethod yX5_enough ∈ TB := TB_2 (List.mem_of_getElem? (i := 169) rfl) rfl
theorem wsel_X5_enough : Cond.selects RX5 yX5_enough yX5_enough ∈ TB := TB_2 (List.mem_of_getElem? (i := 170) rfl) rfl
theorem wc_X5_enough : Cond.code yX5_enough cX5_enough 5 (some .int) ∈ TB := TB_2 (List.mem_of_getElem? (i := 171) rfl) rfl
theorem wm_X5_180 : Cond.methodLink RX5 180 yX5_isEnough ∈ TB := TB_2 (List.mem_of_getElem? (i := 172) rfl) rfl
theorem wp_X5_isEnough : Cond.privateMethod yX5_isEnough ∈ lw_tbl := TT_2 (List.mem_of_getElem? (i := 173) rfl)
theorem wi_X5_isEnough : Cond.instanceMethod yX5_isEnough ∈ TB := TB_2 (List.mem_of_getElem? (i := 174) rfl) rfl
theorem wc_X5_isEnough : Cond.code yX5_isEnough cX5_isEnough 3 (some .boolean) ∈ TB := TB_2 (List.mem_of_getElem? (i := 175) rfl) rfl
theorem wm_L_85 : Cond.methodLink RL 85 yX5_hide ∈ TB := TB_2 (List.mem_of_getElem? (i := 176) rfl) rfl
theorem wi_X5_hide : Cond.instanceMethod yX5_hide ∈ TB := TB_2 (List.mem_of_getElem? (i := 177) rfl) rfl
theorem wsel_X5_hide : Cond.selects RX5 yX5_hide yX5_hide ∈ TB := TB_2 (List.mem_of_getElem? (i := 178) rfl) rfl
theorem wc_X5_hide : Cond.code yX5_hide cX5_hide 7 (some .int) ∈ TB := TB_2 (List.mem_of_getElem? (i := 179) rfl) rfl
theorem wm_X5_183 : Cond.methodLink RX5 183 yJ6_bitCount_0f7a4 ∈ TB := TB_2 (List.mem_of_getElem? (i := 180) rfl) rfl
theorem wst_J6_bitCount_0f7a4 : Cond.static yJ6_bitCount_0f7a4 ∈ TB := TB_2 (List.mem_of_getElem? (i := 181) rfl) rfl
theorem wc_J6_bitCount_0f7a4 : Cond.code yJ6_bitCount_0f7a4 cJ6_bitCount_0f7a4 1 (some .int) ∈ TB := TB_2 (List.mem_of_getElem? (i := 182) rfl) rfl
theorem wk_J6_265 : Cond.constant RJ6 265 (1431655765) ∈ TB := TB_2 (List.mem_of_getElem? (i := 183) rfl) rfl
theorem wk_J6_266 : Cond.constant RJ6 266 (858993459) ∈ TB := TB_2 (List.mem_of_getElem? (i := 184) rfl) rfl
theorem wk_J6_267 : Cond.constant RJ6 267 (252645135) ∈ TB := TB_2 (List.mem_of_getElem? (i := 185) rfl) rfl
theorem wm_L_89 : Cond.methodLink RL 89 yX5_safe ∈ TB := TB_2 (List.mem_of_getElem? (i := 186) rfl) rfl
theorem wi_X5_safe : Cond.instanceMethod yX5_safe ∈ TB := TB_2 (List.mem_of_getElem? (i := 187) rfl) rfl
theorem wsel_X5_safe : Cond.selects RX5 yX5_safe yX5_safe ∈ TB := TB_2 (List.mem_of_getElem? (i := 188) rfl) rfl
theorem wc_X5_safe : Cond.code yX5_safe cX5_safe 5 (some .int) ∈ TB := TB_2 (List.mem_of_getElem? (i := 189) rfl) rfl
theorem wm_X5_186 : Cond.methodLink RX5 186 yX2_staysHidden ∈ TB := TB_2 (List.mem_of_getElem? (i := 190) rfl) rfl
theorem wi_X2_staysHidden : Cond.instanceMethod yX2_staysHidden ∈ TB := TB_2 (List.mem_of_getElem? (i := 191) rfl) rfl
theorem wsel_X2_staysHidden : Cond.selects RX2 yX2_staysHidden yX2_staysHidden ∈ TB := TB_2 (List.mem_of_getElem? (i := 192) rfl) rfl
theorem wc_X2_staysHidden : Cond.code yX2_staysHidden cX2_staysHidden 4 (some .boolean) ∈ TB := TB_2 (List.mem_of_getElem? (i := 193) rfl) rfl
theorem wm_X2_75 : Cond.methodLink RX2 75 yX2_pass ∈ TB := TB_2 (List.mem_of_getElem? (i := 194) rfl) rfl
theorem wm_X2_78 : Cond.methodLink RX2 78 yX2_knowing ∈ TB := TB_2 (List.mem_of_getElem? (i := 195) rfl) rfl
theorem wm_L_93 : Cond.methodLink RL 93 yX5_sleep ∈ TB := TB_2 (List.mem_of_getElem? (i := 196) rfl) rfl
theorem wi_X5_sleep : Cond.instanceMethod yX5_sleep ∈ TB := TB_2 (List.mem_of_getElem? (i := 197) rfl) rfl
theorem wsel_X5_sleep : Cond.selects RX5 yX5_sleep yX5_sleep ∈ TB := TB_2 (List.mem_of_getElem? (i := 198) rfl) rfl
theorem wc_X5_sleep : Cond.code yX5_sleep cX5_sleep 5 (some .int) ∈ TB := TB_2 (List.mem_of_getElem? (i := 199) rfl) rfl
theorem wm_X5_189 : Cond.methodLink RX5 189 yX2_passShut ∈ TB := TB_2 (List.mem_of_getElem? (i := 200) rfl) rfl
theorem wi_X2_passShut : Cond.instanceMethod yX2_passShut ∈ TB := TB_2 (List.mem_of_getElem? (i := 201) rfl) rfl
theorem wsel_X2_passShut : Cond.selects RX2 yX2_passShut yX2_passShut ∈ TB := TB_2 (List.mem_of_getElem? (i := 202) rfl) rfl
theorem wc_X2_passShut : Cond.code yX2_passShut cX2_passShut 1 none ∈ TB := TB_2 (List.mem_of_getElem? (i := 203) rfl) rfl
theorem wm_X2_60 : Cond.methodLink RX2 60 yX4_flow ∈ TB := TB_2 (List.mem_of_getElem? (i := 204) rfl) rfl
theorem wm_L_97 : Cond.methodLink RL 97 yX5_turns ∈ TB := TB_2 (List.mem_of_getElem? (i := 205) rfl) rfl
theorem wi_X5_turns : Cond.instanceMethod yX5_turns ∈ TB := TB_2 (List.mem_of_getElem? (i := 206) rfl) rfl
theorem wsel_X5_turns : Cond.selects RX5 yX5_turns yX5_turns ∈ TB := TB_2 (List.mem_of_getElem? (i := 207) rfl) rfl
theorem wc_X5_turns : Cond.code yX5_turns cX5_turns 4 (some .int) ∈ TB := TB_2 (List.mem_of_getElem? (i := 208) rfl) rfl
theorem wm_L_101 : Cond.methodLink RL 101 yX5_seat ∈ TB := TB_2 (List.mem_of_getElem? (i := 209) rfl) rfl
theorem wi_X5_seat : Cond.instanceMethod yX5_seat ∈ TB := TB_2 (List.mem_of_getElem? (i := 210) rfl) rfl
theorem wsel_X5_seat : Cond.selects RX5 yX5_seat yX5_seat ∈ TB := TB_2 (List.mem_of_getElem? (i := 211) rfl) rfl
theorem wc_X5_seat : Cond.code yX5_seat cX5_seat 3 (some .int) ∈ TB := TB_2 (List.mem_of_getElem? (i := 212) rfl) rfl
theorem wm_X5_192 : Cond.methodLink RX5 192 yX5_noTrial ∈ TB := TB_2 (List.mem_of_getElem? (i := 213) rfl) rfl
theorem wp_X5_noTrial : Cond.privateMethod yX5_noTrial ∈ lw_tbl := TT_2 (List.mem_of_getElem? (i := 214) rfl)
theorem wi_X5_noTrial : Cond.instanceMethod yX5_noTrial ∈ TB := TB_2 (List.mem_of_getElem? (i := 215) rfl) rfl
theorem wc_X5_noTrial : Cond.code yX5_noTrial cX5_noTrial 3 (some .boolean) ∈ TB := TB_2 (List.mem_of_getElem? (i := 216) rfl) rfl
theorem wm_X5_195 : Cond.methodLink RX5 195 yX5_mostBelieving ∈ TB := TB_2 (List.mem_of_getElem? (i := 217) rfl) rfl
theorem wp_X5_mostBelieving : Cond.privateMethod yX5_mostBelieving ∈ lw_tbl := TT_2 (List.mem_of_getElem? (i := 218) rfl)
theorem wi_X5_mostBelieving : Cond.instanceMethod yX5_mostBelieving ∈ TB := TB_2 (List.mem_of_getElem? (i := 219) rfl) rfl
theorem wc_X5_mostBelieving : Cond.code yX5_mostBelieving cX5_mostBelieving 8 (some .int) ∈ TB := TB_2 (List.mem_of_getElem? (i := 220) rfl) rfl
theorem wm_L_105 : Cond.methodLink RL 105 yX5_kindFor ∈ TB := TB_2 (List.mem_of_getElem? (i := 221) rfl) rfl
theorem wi_X5_kindFor : Cond.instanceMethod yX5_kindFor ∈ TB := TB_2 (List.mem_of_getElem? (i := 222) rfl) rfl
theorem wsel_X5_kindFor : Cond.selects RX5 yX5_kindFor yX5_kindFor ∈ TB := TB_2 (List.mem_of_getElem? (i := 223) rfl) rfl
theorem wc_X5_kindFor : Cond.code yX5_kindFor cX5_kindFor 3 (some .int) ∈ TB := TB_2 (List.mem_of_getElem? (i := 224) rfl) rfl
theorem wm_L_109 : Cond.methodLink RL 109 yX5_wantFor ∈ TB := TB_2 (List.mem_of_getElem? (i := 225) rfl) rfl
theorem wi_X5_wantFor : Cond.instanceMethod yX5_wantFor ∈ TB := TB_2 (List.mem_of_getElem? (i := 226) rfl) rfl
theorem wsel_X5_wantFor : Cond.selects RX5 yX5_wantFor yX5_wantFor ∈ TB := TB_2 (List.mem_of_getElem? (i := 227) rfl) rfl
theorem wc_X5_wantFor : Cond.code yX5_wantFor cX5_wantFor 7 (some .int) ∈ TB := TB_2 (List.mem_of_getElem? (i := 228) rfl) rfl
theorem wm_L_113 : Cond.methodLink RL 113 yX5_watch ∈ TB := TB_2 (List.mem_of_getElem? (i := 229) rfl) rfl
theorem wi_X5_watch : Cond.instanceMethod yX5_watch ∈ TB := TB_2 (List.mem_of_getElem? (i := 230) rfl) rfl
theorem wsel_X5_watch : Cond.selects RX5 yX5_watch yX5_watch ∈ TB := TB_2 (List.mem_of_getElem? (i := 231) rfl) rfl
theorem wc_X5_watch : Cond.code yX5_watch cX5_watch 4 (some .int) ∈ TB := TB_2 (List.mem_of_getElem? (i := 232) rfl) rfl
theorem wm_X5_199 : Cond.methodLink RX5 199 yX5_stir ∈ TB := TB_2 (List.mem_of_getElem? (i := 233) rfl) rfl
theorem wp_X5_stir : Cond.privateMethod yX5_stir ∈ lw_tbl := TT_2 (List.mem_of_getElem? (i := 234) rfl)
theorem wi_X5_stir : Cond.instanceMethod yX5_stir ∈ TB := TB_2 (List.mem_of_getElem? (i := 235) rfl) rfl
theorem wc_X5_stir : Cond.code yX5_stir cX5_stir 5 none ∈ TB := TB_2 (List.mem_of_getElem? (i := 236) rfl) rfl
theorem wm_X5_300 : Cond.methodLink RX5 300 Lib.Math.abs.name ∈ TB := TB_2 (List.mem_of_getElem? (i := 237) rfl) rfl
theorem wm_L_117 : Cond.methodLink RL 117 yX5_fits ∈ TB := TB_2 (List.mem_of_getElem? (i := 238) rfl) rfl
theorem wi_X5_fits : Cond.instanceMethod yX5_fits ∈ TB := TB_2 (List.mem_of_getElem? (i := 239) rfl) rfl
theorem wsel_X5_fits : Cond.selects RX5 yX5_fits yX5_fits ∈ TB := TB_3 (List.mem_of_getElem? (i := 0) rfl) rfl
theorem wc_X5_fits : Cond.code yX5_fits cX5_fits 7 (some .int) ∈ TB := TB_3 (List.mem_of_getElem? (i := 1) rfl) rfl
theorem wm_X5_202 : Cond.methodLink RX5 202 yX5_fittingTrouble ∈ TB := TB_3 (List.mem_of_getElem? (i := 2) rfl) rfl
theorem wp_X5_fittingTrouble : Cond.privateMethod yX5_fittingTrouble ∈ lw_tbl := TT_3 (List.mem_of_getElem? (i := 3) rfl)
theorem wi_X5_fittingTrouble : Cond.instanceMethod yX5_fittingTrouble ∈ TB := TB_3 (List.mem_of_getElem? (i := 4) rfl) rfl
theorem wc_X5_fittingTrouble : Cond.code yX5_fittingTrouble cX5_fittingTrouble 5 (some .int) ∈ TB := TB_3 (List.mem_of_getElem? (i := 5) rfl) rfl
theorem wm_X5_209 : Cond.methodLink RX5 209 yX5_sheetTrouble ∈ TB := TB_3 (List.mem_of_getElem? (i := 6) rfl) rfl
theorem wp_X5_sheetTrouble : Cond.privateMethod yX5_sheetTrouble ∈ lw_tbl := TT_3 (List.mem_of_getElem? (i := 7) rfl)
theorem wi_X5_sheetTrouble : Cond.instanceMethod yX5_sheetTrouble ∈ TB := TB_3 (List.mem_of_getElem? (i := 8) rfl) rfl
theorem wc_X5_sheetTrouble : Cond.code yX5_sheetTrouble cX5_sheetTrouble 2 (some .int) ∈ TB := TB_3 (List.mem_of_getElem? (i := 9) rfl) rfl
theorem wm_X5_266 : Cond.methodLink RX5 266 yX1_isMissing ∈ TB := TB_3 (List.mem_of_getElem? (i := 10) rfl) rfl
theorem wi_X1_isMissing : Cond.instanceMethod yX1_isMissing ∈ TB := TB_3 (List.mem_of_getElem? (i := 11) rfl) rfl
theorem wsel_X1_isMissing : Cond.selects RX1 yX1_isMissing yX1_isMissing ∈ TB := TB_3 (List.mem_of_getElem? (i := 12) rfl) rfl
theorem wc_X1_isMissing : Cond.code yX1_isMissing cX1_isMissing 1 (some .boolean) ∈ TB := TB_3 (List.mem_of_getElem? (i := 13) rfl) rfl
theorem wk_X5_251 : Cond.constant RX5 251 (-1000006) ∈ TB := TB_3 (List.mem_of_getElem? (i := 14) rfl) rfl
theorem wm_X5_205 : Cond.methodLink RX5 205 yX5_couldBeOpened ∈ TB := TB_3 (List.mem_of_getElem? (i := 15) rfl) rfl
theorem wp_X5_couldBeOpened : Cond.privateMethod yX5_couldBeOpened ∈ lw_tbl := TT_3 (List.mem_of_getElem? (i := 16) rfl)
theorem wi_X5_couldBeOpened : Cond.instanceMethod yX5_couldBeOpened ∈ TB := TB_3 (List.mem_of_getElem? (i := 17) rfl) rfl
theorem wc_X5_couldBeOpened : Cond.code yX5_couldBeOpened cX5_couldBeOpened 7 (some .boolean) ∈ TB := TB_3 (List.mem_of_getElem? (i := 18) rfl) rfl
theorem wm_X5_303 : Cond.methodLink RX5 303 yX1_allows ∈ TB := TB_3 (List.mem_of_getElem? (i := 19) rfl) rfl
theorem wi_X1_allows : Cond.instanceMethod yX1_allows ∈ TB := TB_3 (List.mem_of_getElem? (i := 20) rfl) rfl
theorem wsel_X1_allows : Cond.selects RX1 yX1_allows yX1_allows ∈ TB := TB_3 (List.mem_of_getElem? (i := 21) rfl) rfl
theorem wc_X1_allows : Cond.code yX1_allows cX1_allows 3 (some .boolean) ∈ TB := TB_3 (List.mem_of_getElem? (i := 22) rfl) rfl
theorem wm_L_121 : Cond.methodLink RL 121 yX5_opened ∈ TB := TB_3 (List.mem_of_getElem? (i := 23) rfl) rfl
theorem wi_X5_opened : Cond.instanceMethod yX5_opened ∈ TB := TB_3 (List.mem_of_getElem? (i := 24) rfl) rfl
theorem wsel_X5_opened : Cond.selects RX5 yX5_opened yX5_opened ∈ TB := TB_3 (List.mem_of_getElem? (i := 25) rfl) rfl
theorem wc_X5_opened : Cond.code yX5_opened cX5_opened 6 (some .int) ∈ TB := TB_3 (List.mem_of_getElem? (i := 26) rfl) rfl
theorem wm_L_125 : Cond.methodLink RL 125 yX5_kinds ∈ TB := TB_3 (List.mem_of_getElem? (i := 27) rfl) rfl
theorem wi_X5_kinds : Cond.instanceMethod yX5_kinds ∈ TB := TB_3 (List.mem_of_getElem? (i := 28) rfl) rfl
theorem wsel_X5_kinds : Cond.selects RX5 yX5_kinds yX5_kinds ∈ TB := TB_3 (List.mem_of_getElem? (i := 29) rfl) rfl
theorem wc_X5_kinds : Cond.code yX5_kinds cX5_kinds 6 (some .int) ∈ TB := TB_3 (List.mem_of_getElem? (i := 30) rfl) rfl
theorem wm_X5_212 : Cond.methodLink RX5 212 yX5_couldBeOfKind ∈ TB := TB_3 (List.mem_of_getElem? (i := 31) rfl) rfl
theorem wp_X5_couldBeOfKind : Cond.privateMethod yX5_couldBeOfKind ∈ lw_tbl := TT_3 (List.mem_of_getElem? (i := 32) rfl)
theorem wi_X5_couldBeOfKind : Cond.instanceMethod yX5_couldBeOfKind ∈ TB := TB_3 (List.mem_of_getElem? (i := 33) rfl) rfl
theorem wc_X5_couldBeOfKind : Cond.code yX5_couldBeOfKind cX5_couldBeOfKind 5 (some .boolean) ∈ TB := TB_3 (List.mem_of_getElem? (i := 34) rfl) rfl
theorem wm_L_129 : Cond.methodLink RL 129 yX5_nights ∈ TB := TB_3 (List.mem_of_getElem? (i := 35) rfl) rfl
theorem wi_X5_nights : Cond.instanceMethod yX5_nights ∈ TB := TB_3 (List.mem_of_getElem? (i := 36) rfl) rfl
theorem wsel_X5_nights : Cond.selects RX5 yX5_nights yX5_nights ∈ TB := TB_3 (List.mem_of_getElem? (i := 37) rfl) rfl
theorem wc_X5_nights : Cond.code yX5_nights cX5_nights 4 (some .int) ∈ TB := TB_3 (List.mem_of_getElem? (i := 38) rfl) rfl
theorem wm_X5_216 : Cond.methodLink RX5 216 yX2_draw ∈ TB := TB_3 (List.mem_of_getElem? (i := 39) rfl) rfl
theorem wi_X2_draw : Cond.instanceMethod yX2_draw ∈ TB := TB_3 (List.mem_of_getElem? (i := 40) rfl) rfl
theorem wsel_X2_draw : Cond.selects RX2 yX2_draw yX2_draw ∈ TB := TB_3 (List.mem_of_getElem? (i := 41) rfl) rfl
theorem wc_X2_draw : Cond.code yX2_draw cX2_draw 1 (some .int) ∈ TB := TB_3 (List.mem_of_getElem? (i := 42) rfl) rfl
theorem wk_X2_93 : Cond.constant RX2 93 (1103515245) ∈ TB := TB_3 (List.mem_of_getElem? (i := 43) rfl) rfl
theorem wm_L_133 : Cond.methodLink RL 133 yX5_odds ∈ TB := TB_3 (List.mem_of_getElem? (i := 44) rfl) rfl
theorem wi_X5_odds : Cond.instanceMethod yX5_odds ∈ TB := TB_3 (List.mem_of_getElem? (i := 45) rfl) rfl
theorem wsel_X5_odds : Cond.selects RX5 yX5_odds yX5_odds ∈ TB := TB_3 (List.mem_of_getElem? (i := 46) rfl) rfl
theorem wc_X5_odds : Cond.code yX5_odds cX5_odds 5 (some .long) ∈ TB := TB_3 (List.mem_of_getElem? (i := 47) rfl) rfl
theorem wm_X5_219 : Cond.methodLink RX5 219 yX4_hoursOpen ∈ TB := TB_3 (List.mem_of_getElem? (i := 48) rfl) rfl
theorem wi_X4_hoursOpen : Cond.instanceMethod yX4_hoursOpen ∈ TB := TB_3 (List.mem_of_getElem? (i := 49) rfl) rfl
theorem wsel_X4_hoursOpen : Cond.selects RX4 yX4_hoursOpen yX4_hoursOpen ∈ TB := TB_3 (List.mem_of_getElem? (i := 50) rfl) rfl
theorem wc_X4_hoursOpen : Cond.code yX4_hoursOpen cX4_hoursOpen 3 (some .int) ∈ TB := TB_3 (List.mem_of_getElem? (i := 51) rfl) rfl
theorem wm_X5_222 : Cond.methodLink RX5 222 yX5_commonDivisor ∈ TB := TB_3 (List.mem_of_getElem? (i := 52) rfl) rfl
theorem wst_X5_commonDivisor : Cond.static yX5_commonDivisor ∈ TB := TB_3 (List.mem_of_getElem? (i := 53) rfl) rfl
theorem wc_X5_commonDivisor : Cond.code yX5_commonDivisor cX5_commonDivisor 3 (some .int) ∈ TB := TB_3 (List.mem_of_getElem? (i := 54) rfl) rfl
theorem wm_X5_225 : Cond.methodLink RX5 225 yX5_power ∈ TB := TB_3 (List.mem_of_getElem? (i := 55) rfl) rfl
theorem wst_X5_power : Cond.static yX5_power ∈ TB := TB_3 (List.mem_of_getElem? (i := 56) rfl) rfl
theorem wc_X5_power : Cond.code yX5_power cX5_power 5 (some .long) ∈ TB := TB_3 (List.mem_of_getElem? (i := 57) rfl) rfl
theorem wm_L_138 : Cond.methodLink RL 138 yX5_seed ∈ TB := TB_3 (List.mem_of_getElem? (i := 58) rfl) rfl
theorem wi_X5_seed : Cond.instanceMethod yX5_seed ∈ TB := TB_3 (List.mem_of_getElem? (i := 59) rfl) rfl
theorem wsel_X5_seed : Cond.selects RX5 yX5_seed yX5_seed ∈ TB := TB_3 (List.mem_of_getElem? (i := 60) rfl) rfl
theorem wc_X5_seed : Cond.code yX5_seed cX5_seed 3 (some .int) ∈ TB := TB_3 (List.mem_of_getElem? (i := 61) rfl) rfl
theorem wm_L_142 : Cond.methodLink RL 142 yX5_feed ∈ TB := TB_3 (List.mem_of_getElem? (i := 62) rfl) rfl
theorem wi_X5_feed : Cond.instanceMethod yX5_feed ∈ TB := TB_3 (List.mem_of_getElem? (i := 63) rfl) rfl
theorem wsel_X5_feed : Cond.selects RX5 yX5_feed yX5_feed ∈ TB := TB_3 (List.mem_of_getElem? (i := 64) rfl) rfl
theorem wc_X5_feed : Cond.code yX5_feed cX5_feed 4 (some .int) ∈ TB := TB_3 (List.mem_of_getElem? (i := 65) rfl) rfl
theorem wm_X5_235 : Cond.methodLink RX5 235 yX0_put ∈ TB := TB_3 (List.mem_of_getElem? (i := 66) rfl) rfl
theorem wi_X0_put : Cond.instanceMethod yX0_put ∈ TB := TB_3 (List.mem_of_getElem? (i := 67) rfl) rfl
theorem wsel_X0_put : Cond.selects RX0 yX0_put yX0_put ∈ TB := TB_3 (List.mem_of_getElem? (i := 68) rfl) rfl
theorem wc_X0_put : Cond.code yX0_put cX0_put 2 none ∈ TB := TB_3 (List.mem_of_getElem? (i := 69) rfl) rfl
theorem wm_L_146 : Cond.methodLink RL 146 yX5_wipe ∈ TB := TB_3 (List.mem_of_getElem? (i := 70) rfl) rfl
theorem wi_X5_wipe : Cond.instanceMethod yX5_wipe ∈ TB := TB_3 (List.mem_of_getElem? (i := 71) rfl) rfl
theorem wsel_X5_wipe : Cond.selects RX5 yX5_wipe yX5_wipe ∈ TB := TB_3 (List.mem_of_getElem? (i := 72) rfl) rfl
theorem wc_X5_wipe : Cond.code yX5_wipe cX5_wipe 2 (some .int) ∈ TB := TB_3 (List.mem_of_getElem? (i := 73) rfl) rfl
theorem wm_L_150 : Cond.methodLink RL 150 yX5_text ∈ TB := TB_3 (List.mem_of_getElem? (i := 74) rfl) rfl
theorem wi_X5_text : Cond.instanceMethod yX5_text ∈ TB := TB_3 (List.mem_of_getElem? (i := 75) rfl) rfl
theorem wsel_X5_text : Cond.selects RX5 yX5_text yX5_text ∈ TB := TB_3 (List.mem_of_getElem? (i := 76) rfl) rfl
theorem wc_X5_text : Cond.code yX5_text cX5_text 2 (some .int) ∈ TB := TB_3 (List.mem_of_getElem? (i := 77) rfl) rfl
theorem wm_X5_238 : Cond.methodLink RX5 238 yX0_read ∈ TB := TB_3 (List.mem_of_getElem? (i := 78) rfl) rfl
theorem wi_X0_read : Cond.instanceMethod yX0_read ∈ TB := TB_3 (List.mem_of_getElem? (i := 79) rfl) rfl
theorem wsel_X0_read : Cond.selects RX0 yX0_read yX0_read ∈ TB := TB_3 (List.mem_of_getElem? (i := 80) rfl) rfl
theorem wc_X0_read : Cond.code yX0_read cX0_read 3 (some .int) ∈ TB := TB_3 (List.mem_of_getElem? (i := 81) rfl) rfl
theorem wm_X0_31 : Cond.methodLink RX0 31 yX0_advance ∈ TB := TB_3 (List.mem_of_getElem? (i := 82) rfl) rfl
theorem wp_X0_advance : Cond.privateMethod yX0_advance ∈ lw_tbl := TT_3 (List.mem_of_getElem? (i := 83) rfl)
theorem wi_X0_advance : Cond.instanceMethod yX0_advance ∈ TB := TB_3 (List.mem_of_getElem? (i := 84) rfl) rfl
theorem wc_X0_advance : Cond.code yX0_advance cX0_advance 1 none ∈ TB := TB_3 (List.mem_of_getElem? (i := 85) rfl) rfl
theorem wm_X0_158 : Cond.methodLink RX0 158 yX0_tokenOf ∈ TB := TB_3 (List.mem_of_getElem? (i := 86) rfl) rfl
theorem wst_X0_tokenOf : Cond.static yX0_tokenOf ∈ TB := TB_3 (List.mem_of_getElem? (i := 87) rfl) rfl
theorem wc_X0_tokenOf : Cond.code yX0_tokenOf cX0_tokenOf 1 (some .int) ∈ TB := TB_3 (List.mem_of_getElem? (i := 88) rfl) rfl
theorem wm_X0_34 : Cond.methodLink RX0 34 yX0_readItem ∈ TB := TB_3 (List.mem_of_getElem? (i := 89) rfl) rfl
theorem wp_X0_readItem : Cond.privateMethod yX0_readItem ∈ lw_tbl := TT_3 (List.mem_of_getElem? (i := 90) rfl)
theorem wi_X0_readItem : Cond.instanceMethod yX0_readItem ∈ TB := TB_3 (List.mem_of_getElem? (i := 91) rfl) rfl
theorem wc_X0_readItem : Cond.code yX0_readItem cX0_readItem 3 none ∈ TB := TB_3 (List.mem_of_getElem? (i := 92) rfl) rfl
theorem wm_X0_45 : Cond.methodLink RX0 45 yX0_kindNamed ∈ TB := TB_3 (List.mem_of_getElem? (i := 93) rfl) rfl
theorem wp_X0_kindNamed : Cond.privateMethod yX0_kindNamed ∈ lw_tbl := TT_3 (List.mem_of_getElem? (i := 94) rfl)
theorem wi_X0_kindNamed : Cond.instanceMethod yX0_kindNamed ∈ TB := TB_3 (List.mem_of_getElem? (i := 95) rfl) rfl
theorem wc_X0_kindNamed : Cond.code yX0_kindNamed cX0_kindNamed 2 (some .int) ∈ TB := TB_3 (List.mem_of_getElem? (i := 96) rfl) rfl
theorem wm_X0_121 : Cond.methodLink RX0 121 yX0_nameOf ∈ TB := TB_3 (List.mem_of_getElem? (i := 97) rfl) rfl
theorem wst_X0_nameOf : Cond.static yX0_nameOf ∈ TB := TB_3 (List.mem_of_getElem? (i := 98) rfl) rfl
theorem wc_X0_nameOf : Cond.code yX0_nameOf cX0_nameOf 1 (some (.object "java/lang/String")) ∈ TB := TB_3 (List.mem_of_getElem? (i := 99) rfl) rfl
theorem wstr_X0_128 : Cond.stringRef RX0 128 "mill" ∈ lw_tbl := TT_3 (List.mem_of_getElem? (i := 100) rfl)
theorem wstr_X0_130 : Cond.stringRef RX0 130 "poet" ∈ lw_tbl := TT_3 (List.mem_of_getElem? (i := 101) rfl)
theorem wstr_X0_132 : Cond.stringRef RX0 132 "professor" ∈ lw_tbl := TT_3 (List.mem_of_getElem? (i := 102) rfl)
theorem wstr_X0_134 : Cond.stringRef RX0 134 "doubter" ∈ lw_tbl := TT_3 (List.mem_of_getElem? (i := 103) rfl)
theorem wstr_X0_136 : Cond.stringRef RX0 136 "fish" ∈ lw_tbl := TT_3 (List.mem_of_getElem? (i := 104) rfl)
theorem wstr_X0_138 : Cond.stringRef RX0 138 "bridge" ∈ lw_tbl := TT_3 (List.mem_of_getElem? (i := 105) rfl)
theorem wstr_X0_140 : Cond.stringRef RX0 140 "watcher" ∈ lw_tbl := TT_3 (List.mem_of_getElem? (i := 106) rfl)
theorem wm_X0_125 : Cond.methodLink RX0 125 yX0_isWord ∈ TB := TB_3 (List.mem_of_getElem? (i := 107) rfl) rfl
theorem wp_X0_isWord : Cond.privateMethod yX0_isWord ∈ lw_tbl := TT_3 (List.mem_of_getElem? (i := 108) rfl)
theorem wi_X0_isWord : Cond.instanceMethod yX0_isWord ∈ TB := TB_3 (List.mem_of_getElem? (i := 109) rfl) rfl
theorem wc_X0_isWord : Cond.code yX0_isWord cX0_isWord 3 (some .boolean) ∈ TB := TB_3 (List.mem_of_getElem? (i := 110) rfl) rfl
theorem wm_X0_142 : Cond.methodLink RX0 142 yJ0_length_8abf5 ∈ TB := TB_3 (List.mem_of_getElem? (i := 111) rfl) rfl
theorem wi_J0_length_8abf5 : Cond.instanceMethod yJ0_length_8abf5 ∈ TB := TB_3 (List.mem_of_getElem? (i := 112) rfl) rfl
theorem wsel_J0_length_8abf5 : Cond.selects RJ0 yJ0_length_8abf5 yJ0_length_8abf5 ∈ TB := TB_3 (List.mem_of_getElem? (i := 113) rfl) rfl
theorem wc_J0_length_8abf5 : Cond.code yJ0_length_8abf5 cJ0_length_8abf5 1 (some .int) ∈ TB := TB_3 (List.mem_of_getElem? (i := 114) rfl) rfl
theorem wm_J0_335 : Cond.methodLink RJ0 335 yJ0_coder_7d493 ∈ TB := TB_3 (List.mem_of_getElem? (i := 115) rfl) rfl
theorem wi_J0_coder_7d493 : Cond.instanceMethod yJ0_coder_7d493 ∈ TB := TB_3 (List.mem_of_getElem? (i := 116) rfl) rfl
theorem wsel_J0_coder_7d493 : Cond.selects RJ0 yJ0_coder_7d493 yJ0_coder_7d493 ∈ TB := TB_3 (List.mem_of_getElem? (i := 117) rfl) rfl
theorem wc_J0_coder_7d493 : Cond.code yJ0_coder_7d493 cJ0_coder_7d493 1 (some .byte) ∈ TB := TB_3 (List.mem_of_getElem? (i := 118) rfl) rfl
theorem wf_J0_38 : Cond.fieldLink RJ0 38 "java/lang/String" "COMPACT_STRINGS" "Z" ∈ TB := TB_3 (List.mem_of_getElem? (i := 119) rfl) rfl
theorem wm_X0_146 : Cond.methodLink RX0 146 yJ0_charAt_5068e ∈ TB := TB_3 (List.mem_of_getElem? (i := 121) rfl) rfl
theorem wi_J0_charAt_5068e : Cond.instanceMethod yJ0_charAt_5068e ∈ TB := TB_3 (List.mem_of_getElem? (i := 122) rfl) rfl
theorem wsel_J0_charAt_5068e : Cond.selects RJ0 yJ0_charAt_5068e yJ0_charAt_5068e ∈ TB := TB_3 (List.mem_of_getElem? (i := 123) rfl) rfl
theorem wc_J0_charAt_5068e : Cond.code yJ0_charAt_5068e cJ0_charAt_5068e 2 (some .char) ∈ TB := TB_3 (List.mem_of_getElem? (i := 124) rfl) rfl
theorem wm_J0_492 : Cond.methodLink RJ0 492 yJ0_isLatin1_aae02 ∈ TB := TB_3 (List.mem_of_getElem? (i := 125) rfl) rfl
theorem wi_J0_isLatin1_aae02 : Cond.instanceMethod yJ0_isLatin1_aae02 ∈ TB := TB_3 (List.mem_of_getElem? (i := 126) rfl) rfl
theorem wsel_J0_isLatin1_aae02 : Cond.selects RJ0 yJ0_isLatin1_aae02 yJ0_isLatin1_aae02 ∈ TB := TB_3 (List.mem_of_getElem? (i := 127) rfl) rfl
theorem wc_J0_isLatin1_aae02 : Cond.code yJ0_isLatin1_aae02 cJ0_isLatin1_aae02 1 (some .boolean) ∈ TB := TB_3 (List.mem_of_getElem? (i := 128) rfl) rfl
theorem wm_J0_495 : Cond.methodLink RJ0 495 yJ1_charAt_3b067 ∈ TB := TB_3 (List.mem_of_getElem? (i := 129) rfl) rfl
theorem wst_J1_charAt_3b067 : Cond.static yJ1_charAt_3b067 ∈ TB := TB_3 (List.mem_of_getElem? (i := 130) rfl) rfl
theorem wc_J1_charAt_3b067 : Cond.code yJ1_charAt_3b067 cJ1_charAt_3b067 2 (some .char) ∈ TB := TB_3 (List.mem_of_getElem? (i := 131) rfl) rfl
theorem wm_J1_9 : Cond.methodLink RJ1 9 yJ0_checkIndex_df160 ∈ TB := TB_3 (List.mem_of_getElem? (i := 132) rfl) rfl
theorem wst_J0_checkIndex_df160 : Cond.static yJ0_checkIndex_df160 ∈ TB := TB_3 (List.mem_of_getElem? (i := 133) rfl) rfl
theorem wc_J0_checkIndex_df160 : Cond.code yJ0_checkIndex_df160 cJ0_checkIndex_df160 2 none ∈ TB := TB_3 (List.mem_of_getElem? (i := 134) rfl) rfl
theorem wf_J0_1053 : Cond.fieldLink RJ0 1053 "jdk/internal/util/Preconditions" "SIOOBE_FORMATTER" "Ljava/util/function/BiFunction;" ∈ TB := TB_3 (List.mem_of_getElem? (i := 135) rfl) rfl
theorem wm_J0_1059 : Cond.methodLink RJ0 1059 yJ3_checkIndex_8e157 ∈ TB := TB_3 (List.mem_of_getElem? (i := 137) rfl) rfl
theorem wst_J3_checkIndex_8e157 : Cond.static yJ3_checkIndex_8e157 ∈ TB := TB_3 (List.mem_of_getElem? (i := 138) rfl) rfl
theorem wc_J3_checkIndex_8e157 : Cond.code yJ3_checkIndex_8e157 cJ3_checkIndex_8e157 3 (some .int) ∈ TB := TB_3 (List.mem_of_getElem? (i := 139) rfl) rfl
theorem wm_J0_498 : Cond.methodLink RJ0 498 yJ2_charAt_3b067 ∈ TB := TB_3 (List.mem_of_getElem? (i := 140) rfl) rfl
theorem wst_J2_charAt_3b067 : Cond.static yJ2_charAt_3b067 ∈ TB := TB_3 (List.mem_of_getElem? (i := 141) rfl) rfl
theorem wc_J2_charAt_3b067 : Cond.code yJ2_charAt_3b067 cJ2_charAt_3b067 2 (some .char) ∈ TB := TB_3 (List.mem_of_getElem? (i := 142) rfl) rfl
theorem wm_J2_67 : Cond.methodLink RJ2 67 yJ2_checkIndex_2214a ∈ TB := TB_3 (List.mem_of_getElem? (i := 143) rfl) rfl
theorem wst_J2_checkIndex_2214a : Cond.static yJ2_checkIndex_2214a ∈ TB := TB_3 (List.mem_of_getElem? (i := 144) rfl) rfl
theorem wc_J2_checkIndex_2214a : Cond.code yJ2_checkIndex_2214a cJ2_checkIndex_2214a 2 none ∈ TB := TB_3 (List.mem_of_getElem? (i := 145) rfl) rfl
theorem wm_J2_48 : Cond.methodLink RJ2 48 yJ2_length_9d52b ∈ TB := TB_3 (List.mem_of_getElem? (i := 146) rfl) rfl
theorem wst_J2_length_9d52b : Cond.static yJ2_length_9d52b ∈ TB := TB_3 (List.mem_of_getElem? (i := 147) rfl) rfl
theorem wc_J2_length_9d52b : Cond.code yJ2_length_9d52b cJ2_length_9d52b 1 (some .int) ∈ TB := TB_3 (List.mem_of_getElem? (i := 148) rfl) rfl
theorem wm_J2_414 : Cond.methodLink RJ2 414 yJ0_checkIndex_df160 ∈ TB := TB_3 (List.mem_of_getElem? (i := 149) rfl) rfl
theorem wm_J2_71 : Cond.methodLink RJ2 71 yJ2_getChar_3b067 ∈ TB := TB_3 (List.mem_of_getElem? (i := 150) rfl) rfl
theorem wst_J2_getChar_3b067 : Cond.static yJ2_getChar_3b067 ∈ TB := TB_3 (List.mem_of_getElem? (i := 151) rfl) rfl
theorem wc_J2_getChar_3b067 : Cond.code yJ2_getChar_3b067 cJ2_getChar_3b067 2 (some .char) ∈ TB := TB_3 (List.mem_of_getElem? (i := 152) rfl) rfl
theorem wf_J2_44 : Cond.fieldLink RJ2 44 "java/lang/StringUTF16" "$assertionsDisabled" "Z" ∈ TB := TB_3 (List.mem_of_getElem? (i := 153) rfl) rfl
theorem wf_J2_59 : Cond.fieldLink RJ2 59 "java/lang/StringUTF16" "HI_BYTE_SHIFT" "I" ∈ TB := TB_3 (List.mem_of_getElem? (i := 155) rfl) rfl
theorem wf_J2_63 : Cond.fieldLink RJ2 63 "java/lang/StringUTF16" "LO_BYTE_SHIFT" "I" ∈ TB := TB_3 (List.mem_of_getElem? (i := 157) rfl) rfl
theorem wm_X0_49 : Cond.methodLink RX0 49 yX0_readWatcher ∈ TB := TB_3 (List.mem_of_getElem? (i := 159) rfl) rfl
theorem wp_X0_readWatcher : Cond.privateMethod yX0_readWatcher ∈ lw_tbl := TT_3 (List.mem_of_getElem? (i := 160) rfl)
theorem wi_X0_readWatcher : Cond.instanceMethod yX0_readWatcher ∈ TB := TB_3 (List.mem_of_getElem? (i := 161) rfl) rfl
theorem wc_X0_readWatcher : Cond.code yX0_readWatcher cX0_readWatcher 4 none ∈ TB := TB_3 (List.mem_of_getElem? (i := 162) rfl) rfl
theorem wm_X0_85 : Cond.methodLink RX0 85 yX2_isFull ∈ TB := TB_3 (List.mem_of_getElem? (i := 163) rfl) rfl
theorem wm_X0_42 : Cond.methodLink RX0 42 yX0_faultHere ∈ TB := TB_3 (List.mem_of_getElem? (i := 164) rfl) rfl
theorem wp_X0_faultHere : Cond.privateMethod yX0_faultHere ∈ lw_tbl := TT_3 (List.mem_of_getElem? (i := 165) rfl)
theorem wi_X0_faultHere : Cond.instanceMethod yX0_faultHere ∈ TB := TB_3 (List.mem_of_getElem? (i := 166) rfl) rfl
theorem wc_X0_faultHere : Cond.code yX0_faultHere cX0_faultHere 1 none ∈ TB := TB_3 (List.mem_of_getElem? (i := 167) rfl) rfl
theorem wm_X0_92 : Cond.methodLink RX0 92 yX2_settle ∈ TB := TB_3 (List.mem_of_getElem? (i := 168) rfl) rfl
theorem wstr_X0_96 : Cond.stringRef RX0 96 "at" ∈ lw_tbl := TT_3 (List.mem_of_getElem? (i := 169) rfl)
theorem wm_X0_55 : Cond.methodLink RX0 55 yX0_takes ∈ TB := TB_3 (List.mem_of_getElem? (i := 170) rfl) rfl
theorem wp_X0_takes : Cond.privateMethod yX0_takes ∈ lw_tbl := TT_3 (List.mem_of_getElem? (i := 171) rfl)
theorem wi_X0_takes : Cond.instanceMethod yX0_takes ∈ TB := TB_3 (List.mem_of_getElem? (i := 172) rfl) rfl
theorem wc_X0_takes : Cond.code yX0_takes cX0_takes 3 (some .boolean) ∈ TB := TB_3 (List.mem_of_getElem? (i := 173) rfl) rfl
theorem wm_X0_98 : Cond.methodLink RX0 98 yX0_takeNumber ∈ TB := TB_3 (List.mem_of_getElem? (i := 174) rfl) rfl
theorem wp_X0_takeNumber : Cond.privateMethod yX0_takeNumber ∈ lw_tbl := TT_3 (List.mem_of_getElem? (i := 175) rfl)
theorem wi_X0_takeNumber : Cond.instanceMethod yX0_takeNumber ∈ TB := TB_3 (List.mem_of_getElem? (i := 176) rfl) rfl
theorem wc_X0_takeNumber : Cond.code yX0_takeNumber cX0_takeNumber 3 (some .int) ∈ TB := TB_3 (List.mem_of_getElem? (i := 177) rfl) rfl
theorem wm_X0_150 : Cond.methodLink RX0 150 yX0_numberHere ∈ TB := TB_3 (List.mem_of_getElem? (i := 178) rfl) rfl
theorem wp_X0_numberHere : Cond.privateMethod yX0_numberHere ∈ lw_tbl := TT_3 (List.mem_of_getElem? (i := 179) rfl)
theorem wi_X0_numberHere : Cond.instanceMethod yX0_numberHere ∈ TB := TB_3 (List.mem_of_getElem? (i := 180) rfl) rfl
theorem wc_X0_numberHere : Cond.code yX0_numberHere cX0_numberHere 3 (some .int) ∈ TB := TB_3 (List.mem_of_getElem? (i := 181) rfl) rfl
theorem wm_X0_153 : Cond.methodLink RX0 153 Lib.Math.min.name ∈ TB := TB_3 (List.mem_of_getElem? (i := 182) rfl) rfl
theorem wm_X0_38 : Cond.methodLink RX0 38 yX0_hasFault ∈ TB := TB_3 (List.mem_of_getElem? (i := 183) rfl) rfl
theorem wi_X0_hasFault : Cond.instanceMethod yX0_hasFault ∈ TB := TB_3 (List.mem_of_getElem? (i := 184) rfl) rfl
theorem wsel_X0_hasFault : Cond.selects RX0 yX0_hasFault yX0_hasFault ∈ TB := TB_3 (List.mem_of_getElem? (i := 185) rfl) rfl
theorem wc_X0_hasFault : Cond.code yX0_hasFault cX0_hasFault 1 (some .boolean) ∈ TB := TB_3 (List.mem_of_getElem? (i := 186) rfl) rfl
theorem wstr_X0_107 : Cond.stringRef RX0 107 "wants" ∈ lw_tbl := TT_3 (List.mem_of_getElem? (i := 187) rfl)
theorem wstr_X0_112 : Cond.stringRef RX0 112 "believes" ∈ lw_tbl := TT_3 (List.mem_of_getElem? (i := 188) rfl)
theorem wstr_X0_53 : Cond.stringRef RX0 53 "level" ∈ lw_tbl := TT_3 (List.mem_of_getElem? (i := 189) rfl)
theorem wm_X0_70 : Cond.methodLink RX0 70 yX0_readInto ∈ TB := TB_3 (List.mem_of_getElem? (i := 190) rfl) rfl
theorem wp_X0_readInto : Cond.privateMethod yX0_readInto ∈ lw_tbl := TT_3 (List.mem_of_getElem? (i := 191) rfl)
theorem wi_X0_readInto : Cond.instanceMethod yX0_readInto ∈ TB := TB_3 (List.mem_of_getElem? (i := 192) rfl) rfl
theorem wc_X0_readInto : Cond.code yX0_readInto cX0_readInto 5 none ∈ TB := TB_3 (List.mem_of_getElem? (i := 193) rfl) rfl
theorem wstr_X0_74 : Cond.stringRef RX0 74 "plan" ∈ lw_tbl := TT_3 (List.mem_of_getElem? (i := 194) rfl)
theorem wstr_X0_79 : Cond.stringRef RX0 79 "steady" ∈ lw_tbl := TT_3 (List.mem_of_getElem? (i := 195) rfl)
theorem wm_X0_81 : Cond.methodLink RX0 81 yX0_readSteady ∈ TB := TB_3 (List.mem_of_getElem? (i := 196) rfl) rfl
theorem wp_X0_readSteady : Cond.privateMethod yX0_readSteady ∈ lw_tbl := TT_3 (List.mem_of_getElem? (i := 197) rfl)
theorem wi_X0_readSteady : Cond.instanceMethod yX0_readSteady ∈ TB := TB_3 (List.mem_of_getElem? (i := 198) rfl) rfl
theorem wc_X0_readSteady : Cond.code yX0_readSteady cX0_readSteady 3 none ∈ TB := TB_3 (List.mem_of_getElem? (i := 199) rfl) rfl
theorem wm_X0_117 : Cond.methodLink RX0 117 yX4_openAll ∈ TB := TB_3 (List.mem_of_getElem? (i := 200) rfl) rfl
theorem wm_X5_242 : Cond.methodLink RX5 242 yX0_hasFault ∈ TB := TB_3 (List.mem_of_getElem? (i := 201) rfl) rfl
theorem wa_arrayClass_byte : Cond.arrayClass .byte ∈ TB := TB_3 (List.mem_of_getElem? (i := 202) rfl) rfl
theorem wm_L_154 : Cond.methodLink RL 154 yX5_hold ∈ TB := TB_3 (List.mem_of_getElem? (i := 203) rfl) rfl
theorem wi_X5_hold : Cond.instanceMethod yX5_hold ∈ TB := TB_3 (List.mem_of_getElem? (i := 204) rfl) rfl
theorem wsel_X5_hold : Cond.selects RX5 yX5_hold yX5_hold ∈ TB := TB_3 (List.mem_of_getElem? (i := 205) rfl) rfl
theorem wc_X5_hold : Cond.code yX5_hold cX5_hold 3 (some .int) ∈ TB := TB_3 (List.mem_of_getElem? (i := 206) rfl) rfl
theorem wm_L_158 : Cond.methodLink RL 158 yX5_as ∈ TB := TB_3 (List.mem_of_getElem? (i := 207) rfl) rfl
theorem wi_X5_as : Cond.instanceMethod yX5_as ∈ TB := TB_3 (List.mem_of_getElem? (i := 208) rfl) rfl
theorem wsel_X5_as : Cond.selects RX5 yX5_as yX5_as ∈ TB := TB_3 (List.mem_of_getElem? (i := 209) rfl) rfl
theorem wc_X5_as : Cond.code yX5_as cX5_as 4 (some .int) ∈ TB := TB_3 (List.mem_of_getElem? (i := 210) rfl) rfl
theorem wm_X5_252 : Cond.methodLink RX5 252 yX3_isUnder ∈ TB := TB_3 (List.mem_of_getElem? (i := 211) rfl) rfl
theorem wi_X3_isUnder : Cond.instanceMethod yX3_isUnder ∈ TB := TB_3 (List.mem_of_getElem? (i := 212) rfl) rfl
theorem wsel_X3_isUnder : Cond.selects RX3 yX3_isUnder yX3_isUnder ∈ TB := TB_3 (List.mem_of_getElem? (i := 213) rfl) rfl
theorem wc_X3_isUnder : Cond.code yX3_isUnder cX3_isUnder 4 (some .boolean) ∈ TB := TB_3 (List.mem_of_getElem? (i := 214) rfl) rfl
theorem wm_X3_61 : Cond.methodLink RX3 61 yX3_kindAbove ∈ TB := TB_3 (List.mem_of_getElem? (i := 215) rfl) rfl
theorem wst_X3_kindAbove : Cond.static yX3_kindAbove ∈ TB := TB_3 (List.mem_of_getElem? (i := 216) rfl) rfl
theorem wc_X3_kindAbove : Cond.code yX3_kindAbove cX3_kindAbove 1 (some .int) ∈ TB := TB_3 (List.mem_of_getElem? (i := 217) rfl) rfl
theorem wk_X5_255 : Cond.constant RX5 255 (-1000003) ∈ TB := TB_3 (List.mem_of_getElem? (i := 218) rfl) rfl
theorem wm_L_162 : Cond.methodLink RL 162 yX5_sheet ∈ TB := TB_3 (List.mem_of_getElem? (i := 219) rfl) rfl
theorem wi_X5_sheet : Cond.instanceMethod yX5_sheet ∈ TB := TB_3 (List.mem_of_getElem? (i := 220) rfl) rfl
theorem wsel_X5_sheet : Cond.selects RX5 yX5_sheet yX5_sheet ∈ TB := TB_3 (List.mem_of_getElem? (i := 221) rfl) rfl
theorem wc_X5_sheet : Cond.code yX5_sheet cX5_sheet 4 (some .int) ∈ TB := TB_3 (List.mem_of_getElem? (i := 222) rfl) rfl
theorem wk_X5_256 : Cond.constant RX5 256 (-1000007) ∈ TB := TB_3 (List.mem_of_getElem? (i := 223) rfl) rfl
theorem wm_X5_257 : Cond.methodLink RX5 257 yX1_lay ∈ TB := TB_3 (List.mem_of_getElem? (i := 224) rfl) rfl
theorem wi_X1_lay : Cond.instanceMethod yX1_lay ∈ TB := TB_3 (List.mem_of_getElem? (i := 225) rfl) rfl
theorem wsel_X1_lay : Cond.selects RX1 yX1_lay yX1_lay ∈ TB := TB_3 (List.mem_of_getElem? (i := 226) rfl) rfl
theorem wc_X1_lay : Cond.code yX1_lay cX1_lay 4 none ∈ TB := TB_3 (List.mem_of_getElem? (i := 227) rfl) rfl
theorem wm_L_166 : Cond.methodLink RL 166 yX5_write ∈ TB := TB_3 (List.mem_of_getElem? (i := 228) rfl) rfl
theorem wi_X5_write : Cond.instanceMethod yX5_write ∈ TB := TB_3 (List.mem_of_getElem? (i := 229) rfl) rfl
theorem wsel_X5_write : Cond.selects RX5 yX5_write yX5_write ∈ TB := TB_3 (List.mem_of_getElem? (i := 230) rfl) rfl
theorem wc_X5_write : Cond.code yX5_write cX5_write 5 (some .int) ∈ TB := TB_3 (List.mem_of_getElem? (i := 231) rfl) rfl
theorem wm_X5_264 : Cond.methodLink RX5 264 yX1_put ∈ TB := TB_3 (List.mem_of_getElem? (i := 232) rfl) rfl
theorem wi_X1_put : Cond.instanceMethod yX1_put ∈ TB := TB_3 (List.mem_of_getElem? (i := 233) rfl) rfl
theorem wsel_X1_put : Cond.selects RX1 yX1_put yX1_put ∈ TB := TB_3 (List.mem_of_getElem? (i := 234) rfl) rfl
theorem wc_X1_put : Cond.code yX1_put cX1_put 3 none ∈ TB := TB_3 (List.mem_of_getElem? (i := 235) rfl) rfl
theorem wm_L_170 : Cond.methodLink RL 170 yX5_copy ∈ TB := TB_3 (List.mem_of_getElem? (i := 236) rfl) rfl
theorem wi_X5_copy : Cond.instanceMethod yX5_copy ∈ TB := TB_3 (List.mem_of_getElem? (i := 237) rfl) rfl
theorem wsel_X5_copy : Cond.selects RX5 yX5_copy yX5_copy ∈ TB := TB_3 (List.mem_of_getElem? (i := 238) rfl) rfl
theorem wc_X5_copy : Cond.code yX5_copy cX5_copy 8 (some .int) ∈ TB := TB_3 (List.mem_of_getElem? (i := 239) rfl) rfl
theorem wm_X5_272 : Cond.methodLink RX5 272 yX1_has ∈ TB := TB_4 (List.mem_of_getElem? (i := 0) rfl) rfl
theorem wi_X1_has : Cond.instanceMethod yX1_has ∈ TB := TB_4 (List.mem_of_getElem? (i := 1) rfl) rfl
theorem wsel_X1_has : Cond.selects RX1 yX1_has yX1_has ∈ TB := TB_4 (List.mem_of_getElem? (i := 2) rfl) rfl
theorem wc_X1_has : Cond.code yX1_has cX1_has 3 (some .boolean) ∈ TB := TB_4 (List.mem_of_getElem? (i := 3) rfl) rfl
theorem wm_X5_278 : Cond.methodLink RX5 278 arraycopyName ∈ TB := TB_4 (List.mem_of_getElem? (i := 4) rfl) rfl
theorem wm_L_175 : Cond.methodLink RL 175 yX5_load ∈ TB := TB_4 (List.mem_of_getElem? (i := 5) rfl) rfl
theorem wi_X5_load : Cond.instanceMethod yX5_load ∈ TB := TB_4 (List.mem_of_getElem? (i := 6) rfl) rfl
theorem wsel_X5_load : Cond.selects RX5 yX5_load yX5_load ∈ TB := TB_4 (List.mem_of_getElem? (i := 7) rfl) rfl
theorem wc_X5_load : Cond.code yX5_load cX5_load 5 (some .int) ∈ TB := TB_4 (List.mem_of_getElem? (i := 8) rfl) rfl
theorem wm_L_179 : Cond.methodLink RL 179 yX5_judge ∈ TB := TB_4 (List.mem_of_getElem? (i := 9) rfl) rfl
theorem wi_X5_judge : Cond.instanceMethod yX5_judge ∈ TB := TB_4 (List.mem_of_getElem? (i := 10) rfl) rfl
theorem wsel_X5_judge : Cond.selects RX5 yX5_judge yX5_judge ∈ TB := TB_4 (List.mem_of_getElem? (i := 11) rfl) rfl
theorem wc_X5_judge : Cond.code yX5_judge cX5_judge 5 (some .int) ∈ TB := TB_4 (List.mem_of_getElem? (i := 12) rfl) rfl
theorem wm_L_183 : Cond.methodLink RL 183 yX5_image ∈ TB := TB_4 (List.mem_of_getElem? (i := 13) rfl) rfl
theorem wi_X5_image : Cond.instanceMethod yX5_image ∈ TB := TB_4 (List.mem_of_getElem? (i := 14) rfl) rfl
theorem wsel_X5_image : Cond.selects RX5 yX5_image yX5_image ∈ TB := TB_4 (List.mem_of_getElem? (i := 15) rfl) rfl
theorem wc_X5_image : Cond.code yX5_image cX5_image 1 (some .int) ∈ TB := TB_4 (List.mem_of_getElem? (i := 16) rfl) rfl
theorem wm_L_187 : Cond.methodLink RL 187 yX5_undo ∈ TB := TB_4 (List.mem_of_getElem? (i := 17) rfl) rfl
theorem wi_X5_undo : Cond.instanceMethod yX5_undo ∈ TB := TB_4 (List.mem_of_getElem? (i := 18) rfl) rfl
theorem wsel_X5_undo : Cond.selects RX5 yX5_undo yX5_undo ∈ TB := TB_4 (List.mem_of_getElem? (i := 19) rfl) rfl
theorem wc_X5_undo : Cond.code yX5_undo cX5_undo 1 (some .int) ∈ TB := TB_4 (List.mem_of_getElem? (i := 20) rfl) rfl
theorem wm_L_191 : Cond.methodLink RL 191 yX5_tear ∈ TB := TB_4 (List.mem_of_getElem? (i := 21) rfl) rfl
theorem wi_X5_tear : Cond.instanceMethod yX5_tear ∈ TB := TB_4 (List.mem_of_getElem? (i := 22) rfl) rfl
theorem wsel_X5_tear : Cond.selects RX5 yX5_tear yX5_tear ∈ TB := TB_4 (List.mem_of_getElem? (i := 23) rfl) rfl
theorem wc_X5_tear : Cond.code yX5_tear cX5_tear 2 (some .int) ∈ TB := TB_4 (List.mem_of_getElem? (i := 24) rfl) rfl
theorem wm_L_195 : Cond.methodLink RL 195 yX5_count ∈ TB := TB_4 (List.mem_of_getElem? (i := 25) rfl) rfl
theorem wi_X5_count : Cond.instanceMethod yX5_count ∈ TB := TB_4 (List.mem_of_getElem? (i := 26) rfl) rfl
theorem wsel_X5_count : Cond.selects RX5 yX5_count yX5_count ∈ TB := TB_4 (List.mem_of_getElem? (i := 27) rfl) rfl
theorem wc_X5_count : Cond.code yX5_count cX5_count 2 (some .int) ∈ TB := TB_4 (List.mem_of_getElem? (i := 28) rfl) rfl
theorem wm_X5_287 : Cond.methodLink RX5 287 yX2_spotsHolding ∈ TB := TB_4 (List.mem_of_getElem? (i := 29) rfl) rfl
theorem wi_X2_spotsHolding : Cond.instanceMethod yX2_spotsHolding ∈ TB := TB_4 (List.mem_of_getElem? (i := 30) rfl) rfl
theorem wsel_X2_spotsHolding : Cond.selects RX2 yX2_spotsHolding yX2_spotsHolding ∈ TB := TB_4 (List.mem_of_getElem? (i := 31) rfl) rfl
theorem wc_X2_spotsHolding : Cond.code yX2_spotsHolding cX2_spotsHolding 3 (some .int) ∈ TB := TB_4 (List.mem_of_getElem? (i := 32) rfl) rfl
theorem wm_L_199 : Cond.methodLink RL 199 yX5_status ∈ TB := TB_4 (List.mem_of_getElem? (i := 33) rfl) rfl
theorem wi_X5_status : Cond.instanceMethod yX5_status ∈ TB := TB_4 (List.mem_of_getElem? (i := 34) rfl) rfl
theorem wsel_X5_status : Cond.selects RX5 yX5_status yX5_status ∈ TB := TB_4 (List.mem_of_getElem? (i := 35) rfl) rfl
theorem wc_X5_status : Cond.code yX5_status cX5_status 2 (some .int) ∈ TB := TB_4 (List.mem_of_getElem? (i := 36) rfl) rfl
theorem wm_X5_290 : Cond.methodLink RX5 290 yX5_together ∈ TB := TB_4 (List.mem_of_getElem? (i := 37) rfl) rfl
theorem wcl_L_10 : Cond.classLink RL 10 RX6 ∈ TB := TB_4 (List.mem_of_getElem? (i := 38) rfl) rfl
theorem wn_X6 : Cond.instantiable RX6 22 ∈ TB := TB_4 (List.mem_of_getElem? (i := 39) rfl) rfl
theorem wm_L_12 : Cond.methodLink RL 12 yX6_init ∈ TB := TB_4 (List.mem_of_getElem? (i := 40) rfl) rfl
theorem wi_X6_init : Cond.instanceMethod yX6_init ∈ TB := TB_4 (List.mem_of_getElem? (i := 41) rfl) rfl
theorem wc_X6_init : Cond.code yX6_init cX6_init 2 none ∈ TB := TB_4 (List.mem_of_getElem? (i := 42) rfl) rfl
theorem wm_X6_1 : Cond.methodLink RX6 1 objectInit ∈ TB := TB_4 (List.mem_of_getElem? (i := 43) rfl) rfl
theorem wf_X6_7 : Cond.fieldLink RX6 7 "ValveRiverModel" "s" "[I" ∈ TB := TB_4 (List.mem_of_getElem? (i := 44) rfl) rfl
theorem wf_X6_13 : Cond.fieldLink RX6 13 "ValveRiverModel" "keptS" "[I" ∈ TB := TB_4 (List.mem_of_getElem? (i := 45) rfl) rfl
theorem wf_X6_16 : Cond.fieldLink RX6 16 "ValveRiverModel" "other" "[I" ∈ TB := TB_4 (List.mem_of_getElem? (i := 46) rfl) rfl
theorem wf_X6_19 : Cond.fieldLink RX6 19 "ValveRiverModel" "aside" "[I" ∈ TB := TB_4 (List.mem_of_getElem? (i := 47) rfl) rfl
theorem wf_X6_22 : Cond.fieldLink RX6 22 "ValveRiverModel" "statuses" "[I" ∈ TB := TB_4 (List.mem_of_getElem? (i := 48) rfl) rfl
theorem wf_X6_338 : Cond.fieldLink RX6 338 "ValveRiverModel" "isKept" "Z" ∈ TB := TB_4 (List.mem_of_getElem? (i := 49) rfl) rfl
theorem wf_X6_117 : Cond.fieldLink RX6 117 "ValveRiverModel" "isShut" "Z" ∈ TB := TB_4 (List.mem_of_getElem? (i := 50) rfl) rfl
theorem wf_X6_25 : Cond.fieldLink RX6 25 "ValveRiverModel" "was" "[I" ∈ TB := TB_4 (List.mem_of_getElem? (i := 51) rfl) rfl
theorem wf_X6_177 : Cond.fieldLink RX6 177 "ValveRiverModel" "greatest" "I" ∈ TB := TB_4 (List.mem_of_getElem? (i := 52) rfl) rfl
theorem wf_X6_28 : Cond.fieldLink RX6 28 "ValveRiverModel" "changes" "[I" ∈ TB := TB_4 (List.mem_of_getElem? (i := 53) rfl) rfl
theorem wf_X6_198 : Cond.fieldLink RX6 198 "ValveRiverModel" "leastOpened" "I" ∈ TB := TB_4 (List.mem_of_getElem? (i := 54) rfl) rfl
theorem wf_X6_201 : Cond.fieldLink RX6 201 "ValveRiverModel" "manyOpened" "I" ∈ TB := TB_4 (List.mem_of_getElem? (i := 55) rfl) rfl
theorem wf_X6_31 : Cond.fieldLink RX6 31 "ValveRiverModel" "tape" "[I" ∈ TB := TB_4 (List.mem_of_getElem? (i := 56) rfl) rfl
theorem wf_X6_222 : Cond.fieldLink RX6 222 "ValveRiverModel" "taped" "I" ∈ TB := TB_4 (List.mem_of_getElem? (i := 57) rfl) rfl
theorem wf_X6_236 : Cond.fieldLink RX6 236 "ValveRiverModel" "from" "I" ∈ TB := TB_4 (List.mem_of_getElem? (i := 58) rfl) rfl
theorem wf_X6_233 : Cond.fieldLink RX6 233 "ValveRiverModel" "to" "I" ∈ TB := TB_4 (List.mem_of_getElem? (i := 59) rfl) rfl
theorem wf_X6_258 : Cond.fieldLink RX6 258 "ValveRiverModel" "value" "I" ∈ TB := TB_4 (List.mem_of_getElem? (i := 60) rfl) rfl
theorem wf_X6_248 : Cond.fieldLink RX6 248 "ValveRiverModel" "isWrong" "Z" ∈ TB := TB_4 (List.mem_of_getElem? (i := 61) rfl) rfl
theorem wf_X6_34 : Cond.fieldLink RX6 34 "ValveRiverModel" "bitsOf" "[I" ∈ TB := TB_4 (List.mem_of_getElem? (i := 62) rfl) rfl
theorem wf_X6_37 : Cond.fieldLink RX6 37 "ValveRiverModel" "sizeOf" "[I" ∈ TB := TB_4 (List.mem_of_getElem? (i := 63) rfl) rfl
theorem wf_X6_40 : Cond.fieldLink RX6 40 "ValveRiverModel" "numbers" "[I" ∈ TB := TB_4 (List.mem_of_getElem? (i := 64) rfl) rfl
theorem wf_X6_43 : Cond.fieldLink RX6 43 "ValveRiverModel" "moved" "[I" ∈ TB := TB_4 (List.mem_of_getElem? (i := 65) rfl) rfl
theorem wl_X6_s : Cond.laysFinal RX6 "ValveRiverModel" "s" "[I" ∈ TB := TB_4 (List.mem_of_getElem? (i := 66) rfl) rfl
theorem wl_X6_keptS : Cond.laysFinal RX6 "ValveRiverModel" "keptS" "[I" ∈ TB := TB_4 (List.mem_of_getElem? (i := 68) rfl) rfl
theorem wl_X6_other : Cond.laysFinal RX6 "ValveRiverModel" "other" "[I" ∈ TB := TB_4 (List.mem_of_getElem? (i := 70) rfl) rfl
theorem wl_X6_aside : Cond.laysFinal RX6 "ValveRiverModel" "aside" "[I" ∈ TB := TB_4 (List.mem_of_getElem? (i := 72) rfl) rfl
theorem wl_X6_statuses : Cond.laysFinal RX6 "ValveRiverModel" "statuses" "[I" ∈ TB := TB_4 (List.mem_of_getElem? (i := 74) rfl) rfl
theorem wl_X6_isKept : Cond.lays RX6 "ValveRiverModel" "isKept" "Z" ∈ TB := TB_4 (List.mem_of_getElem? (i := 76) rfl) rfl
theorem wl_X6_isShut : Cond.lays RX6 "ValveRiverModel" "isShut" "Z" ∈ TB := TB_4 (List.mem_of_getElem? (i := 78) rfl) rfl
theorem wl_X6_was : Cond.laysFinal RX6 "ValveRiverModel" "was" "[I" ∈ TB := TB_4 (List.mem_of_getElem? (i := 80) rfl) rfl
theorem wl_X6_greatest : Cond.lays RX6 "ValveRiverModel" "greatest" "I" ∈ TB := TB_4 (List.mem_of_getElem? (i := 82) rfl) rfl
theorem wl_X6_changes : Cond.laysFinal RX6 "ValveRiverModel" "changes" "[I" ∈ TB := TB_4 (List.mem_of_getElem? (i := 84) rfl) rfl
theorem wl_X6_leastOpened : Cond.lays RX6 "ValveRiverModel" "leastOpened" "I" ∈ TB := TB_4 (List.mem_of_getElem? (i := 86) rfl) rfl
theorem wl_X6_manyOpened : Cond.lays RX6 "ValveRiverModel" "manyOpened" "I" ∈ TB := TB_4 (List.mem_of_getElem? (i := 88) rfl) rfl
theorem wl_X6_tape : Cond.laysFinal RX6 "ValveRiverModel" "tape" "[I" ∈ TB := TB_4 (List.mem_of_getElem? (i := 90) rfl) rfl
theorem wl_X6_taped : Cond.lays RX6 "ValveRiverModel" "taped" "I" ∈ TB := TB_4 (List.mem_of_getElem? (i := 92) rfl) rfl
theorem wl_X6_from : Cond.lays RX6 "ValveRiverModel" "from" "I" ∈ TB := TB_4 (List.mem_of_getElem? (i := 94) rfl) rfl
theorem wl_X6_to : Cond.lays RX6 "ValveRiverModel" "to" "I" ∈ TB := TB_4 (List.mem_of_getElem? (i := 96) rfl) rfl
theorem wl_X6_value : Cond.lays RX6 "ValveRiverModel" "value" "I" ∈ TB := TB_4 (List.mem_of_getElem? (i := 98) rfl) rfl
theorem wl_X6_isWrong : Cond.lays RX6 "ValveRiverModel" "isWrong" "Z" ∈ TB := TB_4 (List.mem_of_getElem? (i := 100) rfl) rfl
theorem wl_X6_bitsOf : Cond.laysFinal RX6 "ValveRiverModel" "bitsOf" "[I" ∈ TB := TB_4 (List.mem_of_getElem? (i := 102) rfl) rfl
theorem wl_X6_sizeOf : Cond.laysFinal RX6 "ValveRiverModel" "sizeOf" "[I" ∈ TB := TB_4 (List.mem_of_getElem? (i := 104) rfl) rfl
theorem wl_X6_numbers : Cond.laysFinal RX6 "ValveRiverModel" "numbers" "[I" ∈ TB := TB_4 (List.mem_of_getElem? (i := 106) rfl) rfl
theorem wl_X6_moved : Cond.laysFinal RX6 "ValveRiverModel" "moved" "[I" ∈ TB := TB_4 (List.mem_of_getElem? (i := 108) rfl) rfl
theorem wm_L_17 : Cond.methodLink RL 17 yX6_level ∈ TB := TB_4 (List.mem_of_getElem? (i := 111) rfl) rfl
theorem wi_X6_level : Cond.instanceMethod yX6_level ∈ TB := TB_4 (List.mem_of_getElem? (i := 112) rfl) rfl
theorem wsel_X6_level : Cond.selects RX6 yX6_level yX6_level ∈ TB := TB_4 (List.mem_of_getElem? (i := 113) rfl) rfl
theorem wc_X6_level : Cond.code yX6_level cX6_level 3 (some .int) ∈ TB := TB_4 (List.mem_of_getElem? (i := 114) rfl) rfl
theorem wm_X6_66 : Cond.methodLink RX6 66 yX6_isCell ∈ TB := TB_4 (List.mem_of_getElem? (i := 115) rfl) rfl
theorem wst_X6_isCell : Cond.static yX6_isCell ∈ TB := TB_4 (List.mem_of_getElem? (i := 116) rfl) rfl
theorem wc_X6_isCell : Cond.code yX6_isCell cX6_isCell 1 (some .boolean) ∈ TB := TB_4 (List.mem_of_getElem? (i := 117) rfl) rfl
theorem wk_X6_47 : Cond.constantLong RX6 47 (11) ∈ TB := TB_4 (List.mem_of_getElem? (i := 118) rfl) rfl
theorem wm_X6_49 : Cond.methodLink RX6 49 yX6_in ∈ TB := TB_4 (List.mem_of_getElem? (i := 119) rfl) rfl
theorem wst_X6_in : Cond.static yX6_in ∈ TB := TB_4 (List.mem_of_getElem? (i := 120) rfl) rfl
theorem wc_X6_in : Cond.code yX6_in cX6_in 6 (some .boolean) ∈ TB := TB_4 (List.mem_of_getElem? (i := 121) rfl) rfl
theorem wk_X6_70 : Cond.constantLong RX6 70 (9999) ∈ TB := TB_4 (List.mem_of_getElem? (i := 122) rfl) rfl
theorem wm_X6_72 : Cond.methodLink RX6 72 yX6_becomes ∈ TB := TB_4 (List.mem_of_getElem? (i := 123) rfl) rfl
theorem wp_X6_becomes : Cond.privateMethod yX6_becomes ∈ lw_tbl := TT_4 (List.mem_of_getElem? (i := 124) rfl)
theorem wi_X6_becomes : Cond.instanceMethod yX6_becomes ∈ TB := TB_4 (List.mem_of_getElem? (i := 125) rfl) rfl
theorem wc_X6_becomes : Cond.code yX6_becomes cX6_becomes 4 (some .int) ∈ TB := TB_4 (List.mem_of_getElem? (i := 126) rfl) rfl
theorem wk_X6_46 : Cond.constant RX6 46 (-1000001) ∈ TB := TB_4 (List.mem_of_getElem? (i := 127) rfl) rfl
theorem wm_X6_75 : Cond.methodLink RX6 75 yX6_finds ∈ TB := TB_4 (List.mem_of_getElem? (i := 128) rfl) rfl
theorem wp_X6_finds : Cond.privateMethod yX6_finds ∈ lw_tbl := TT_4 (List.mem_of_getElem? (i := 129) rfl)
theorem wi_X6_finds : Cond.instanceMethod yX6_finds ∈ TB := TB_4 (List.mem_of_getElem? (i := 130) rfl) rfl
theorem wc_X6_finds : Cond.code yX6_finds cX6_finds 2 (some .int) ∈ TB := TB_4 (List.mem_of_getElem? (i := 131) rfl) rfl
theorem wm_L_22 : Cond.methodLink RL 22 yX6_stands ∈ TB := TB_4 (List.mem_of_getElem? (i := 132) rfl) rfl
theorem wi_X6_stands : Cond.instanceMethod yX6_stands ∈ TB := TB_4 (List.mem_of_getElem? (i := 133) rfl) rfl
theorem wsel_X6_stands : Cond.selects RX6 yX6_stands yX6_stands ∈ TB := TB_4 (List.mem_of_getElem? (i := 134) rfl) rfl
theorem wc_X6_stands : Cond.code yX6_stands cX6_stands 2 (some .int) ∈ TB := TB_4 (List.mem_of_getElem? (i := 135) rfl) rfl
theorem wm_L_26 : Cond.methodLink RL 26 yX6_plan ∈ TB := TB_4 (List.mem_of_getElem? (i := 136) rfl) rfl
theorem wi_X6_plan : Cond.instanceMethod yX6_plan ∈ TB := TB_4 (List.mem_of_getElem? (i := 137) rfl) rfl
theorem wsel_X6_plan : Cond.selects RX6 yX6_plan yX6_plan ∈ TB := TB_4 (List.mem_of_getElem? (i := 138) rfl) rfl
theorem wc_X6_plan : Cond.code yX6_plan cX6_plan 3 (some .int) ∈ TB := TB_4 (List.mem_of_getElem? (i := 139) rfl) rfl
theorem wm_X6_79 : Cond.methodLink RX6 79 yX6_isHour ∈ TB := TB_4 (List.mem_of_getElem? (i := 140) rfl) rfl
theorem wst_X6_isHour : Cond.static yX6_isHour ∈ TB := TB_4 (List.mem_of_getElem? (i := 141) rfl) rfl
theorem wc_X6_isHour : Cond.code yX6_isHour cX6_isHour 1 (some .boolean) ∈ TB := TB_4 (List.mem_of_getElem? (i := 142) rfl) rfl
theorem wk_X6_53 : Cond.constantLong RX6 53 (7) ∈ TB := TB_4 (List.mem_of_getElem? (i := 143) rfl) rfl
theorem wm_X6_82 : Cond.methodLink RX6 82 yX6_isOpening ∈ TB := TB_4 (List.mem_of_getElem? (i := 144) rfl) rfl
theorem wst_X6_isOpening : Cond.static yX6_isOpening ∈ TB := TB_4 (List.mem_of_getElem? (i := 145) rfl) rfl
theorem wc_X6_isOpening : Cond.code yX6_isOpening cX6_isOpening 1 (some .boolean) ∈ TB := TB_4 (List.mem_of_getElem? (i := 146) rfl) rfl
theorem wk_X6_55 : Cond.constantLong RX6 55 (99) ∈ TB := TB_4 (List.mem_of_getElem? (i := 147) rfl) rfl
theorem wm_L_30 : Cond.methodLink RL 30 yX6_opening ∈ TB := TB_4 (List.mem_of_getElem? (i := 148) rfl) rfl
theorem wi_X6_opening : Cond.instanceMethod yX6_opening ∈ TB := TB_4 (List.mem_of_getElem? (i := 149) rfl) rfl
theorem wsel_X6_opening : Cond.selects RX6 yX6_opening yX6_opening ∈ TB := TB_4 (List.mem_of_getElem? (i := 150) rfl) rfl
theorem wc_X6_opening : Cond.code yX6_opening cX6_opening 2 (some .int) ∈ TB := TB_4 (List.mem_of_getElem? (i := 151) rfl) rfl
theorem wm_L_34 : Cond.methodLink RL 34 yX6_steady ∈ TB := TB_4 (List.mem_of_getElem? (i := 152) rfl) rfl
theorem wi_X6_steady : Cond.instanceMethod yX6_steady ∈ TB := TB_4 (List.mem_of_getElem? (i := 153) rfl) rfl
theorem wsel_X6_steady : Cond.selects RX6 yX6_steady yX6_steady ∈ TB := TB_4 (List.mem_of_getElem? (i := 154) rfl) rfl
theorem wc_X6_steady : Cond.code yX6_steady cX6_steady 3 (some .int) ∈ TB := TB_4 (List.mem_of_getElem? (i := 155) rfl) rfl
theorem wm_X6_85 : Cond.methodLink RX6 85 yX6_openings ∈ TB := TB_4 (List.mem_of_getElem? (i := 156) rfl) rfl
theorem wp_X6_openings : Cond.privateMethod yX6_openings ∈ lw_tbl := TT_4 (List.mem_of_getElem? (i := 157) rfl)
theorem wi_X6_openings : Cond.instanceMethod yX6_openings ∈ TB := TB_4 (List.mem_of_getElem? (i := 158) rfl) rfl
theorem wc_X6_openings : Cond.code yX6_openings cX6_openings 3 (some .int) ∈ TB := TB_4 (List.mem_of_getElem? (i := 159) rfl) rfl
theorem wm_X6_89 : Cond.methodLink RX6 89 yX6_opensAll ∈ TB := TB_4 (List.mem_of_getElem? (i := 160) rfl) rfl
theorem wp_X6_opensAll : Cond.privateMethod yX6_opensAll ∈ lw_tbl := TT_4 (List.mem_of_getElem? (i := 161) rfl)
theorem wi_X6_opensAll : Cond.instanceMethod yX6_opensAll ∈ TB := TB_4 (List.mem_of_getElem? (i := 162) rfl) rfl
theorem wc_X6_opensAll : Cond.code yX6_opensAll cX6_opensAll 3 none ∈ TB := TB_4 (List.mem_of_getElem? (i := 163) rfl) rfl
theorem wm_L_38 : Cond.methodLink RL 38 yX6_watcher ∈ TB := TB_4 (List.mem_of_getElem? (i := 164) rfl) rfl
theorem wi_X6_watcher : Cond.instanceMethod yX6_watcher ∈ TB := TB_4 (List.mem_of_getElem? (i := 165) rfl) rfl
theorem wsel_X6_watcher : Cond.selects RX6 yX6_watcher yX6_watcher ∈ TB := TB_4 (List.mem_of_getElem? (i := 166) rfl) rfl
theorem wc_X6_watcher : Cond.code yX6_watcher cX6_watcher 3 (some .int) ∈ TB := TB_4 (List.mem_of_getElem? (i := 167) rfl) rfl
theorem wm_X6_93 : Cond.methodLink RX6 93 yX6_isKind ∈ TB := TB_4 (List.mem_of_getElem? (i := 168) rfl) rfl
theorem wst_X6_isKind : Cond.static yX6_isKind ∈ TB := TB_4 (List.mem_of_getElem? (i := 169) rfl) rfl
theorem wc_X6_isKind : Cond.code yX6_isKind cX6_isKind 1 (some .boolean) ∈ TB := TB_4 (List.mem_of_getElem? (i := 170) rfl) rfl
theorem wk_X6_57 : Cond.constantLong RX6 57 (6) ∈ TB := TB_4 (List.mem_of_getElem? (i := 171) rfl) rfl
theorem wk_X6_96 : Cond.constant RX6 96 (-1000002) ∈ TB := TB_4 (List.mem_of_getElem? (i := 172) rfl) rfl
theorem wm_X6_97 : Cond.methodLink RX6 97 yX6_adds ∈ TB := TB_4 (List.mem_of_getElem? (i := 173) rfl) rfl
theorem wp_X6_adds : Cond.privateMethod yX6_adds ∈ lw_tbl := TT_4 (List.mem_of_getElem? (i := 174) rfl)
theorem wi_X6_adds : Cond.instanceMethod yX6_adds ∈ TB := TB_4 (List.mem_of_getElem? (i := 175) rfl) rfl
theorem wc_X6_adds : Cond.code yX6_adds cX6_adds 4 (some .int) ∈ TB := TB_4 (List.mem_of_getElem? (i := 176) rfl) rfl
theorem wm_X6_59 : Cond.methodLink RX6 59 yX6_place ∈ TB := TB_4 (List.mem_of_getElem? (i := 177) rfl) rfl
theorem wst_X6_place : Cond.static yX6_place ∈ TB := TB_4 (List.mem_of_getElem? (i := 178) rfl) rfl
theorem wc_X6_place : Cond.code yX6_place cX6_place 2 (some .int) ∈ TB := TB_4 (List.mem_of_getElem? (i := 179) rfl) rfl
theorem wm_L_42 : Cond.methodLink RL 42 yX6_of ∈ TB := TB_4 (List.mem_of_getElem? (i := 180) rfl) rfl
theorem wi_X6_of : Cond.instanceMethod yX6_of ∈ TB := TB_4 (List.mem_of_getElem? (i := 181) rfl) rfl
theorem wsel_X6_of : Cond.selects RX6 yX6_of yX6_of ∈ TB := TB_4 (List.mem_of_getElem? (i := 182) rfl) rfl
theorem wc_X6_of : Cond.code yX6_of cX6_of 3 (some .int) ∈ TB := TB_4 (List.mem_of_getElem? (i := 183) rfl) rfl
theorem wm_X6_100 : Cond.methodLink RX6 100 yX6_isWatcher ∈ TB := TB_4 (List.mem_of_getElem? (i := 184) rfl) rfl
theorem wp_X6_isWatcher : Cond.privateMethod yX6_isWatcher ∈ lw_tbl := TT_4 (List.mem_of_getElem? (i := 185) rfl)
theorem wi_X6_isWatcher : Cond.instanceMethod yX6_isWatcher ∈ TB := TB_4 (List.mem_of_getElem? (i := 186) rfl) rfl
theorem wc_X6_isWatcher : Cond.code yX6_isWatcher cX6_isWatcher 2 (some .boolean) ∈ TB := TB_4 (List.mem_of_getElem? (i := 187) rfl) rfl
theorem wm_X6_63 : Cond.methodLink RX6 63 yX6_its ∈ TB := TB_4 (List.mem_of_getElem? (i := 188) rfl) rfl
theorem wp_X6_its : Cond.privateMethod yX6_its ∈ lw_tbl := TT_4 (List.mem_of_getElem? (i := 189) rfl)
theorem wi_X6_its : Cond.instanceMethod yX6_its ∈ TB := TB_4 (List.mem_of_getElem? (i := 190) rfl) rfl
theorem wc_X6_its : Cond.code yX6_its cX6_its 3 (some .int) ∈ TB := TB_4 (List.mem_of_getElem? (i := 191) rfl) rfl
theorem wm_X6_103 : Cond.methodLink RX6 103 yX6_bears ∈ TB := TB_4 (List.mem_of_getElem? (i := 192) rfl) rfl
theorem wp_X6_bears : Cond.privateMethod yX6_bears ∈ lw_tbl := TT_4 (List.mem_of_getElem? (i := 193) rfl)
theorem wi_X6_bears : Cond.instanceMethod yX6_bears ∈ TB := TB_4 (List.mem_of_getElem? (i := 194) rfl) rfl
theorem wc_X6_bears : Cond.code yX6_bears cX6_bears 3 (some .int) ∈ TB := TB_4 (List.mem_of_getElem? (i := 195) rfl) rfl
theorem wm_X6_106 : Cond.methodLink RX6 106 yX6_doubts ∈ TB := TB_4 (List.mem_of_getElem? (i := 196) rfl) rfl
theorem wp_X6_doubts : Cond.privateMethod yX6_doubts ∈ lw_tbl := TT_4 (List.mem_of_getElem? (i := 197) rfl)
theorem wi_X6_doubts : Cond.instanceMethod yX6_doubts ∈ TB := TB_4 (List.mem_of_getElem? (i := 198) rfl) rfl
theorem wc_X6_doubts : Cond.code yX6_doubts cX6_doubts 2 (some .int) ∈ TB := TB_4 (List.mem_of_getElem? (i := 199) rfl) rfl
theorem wm_X6_109 : Cond.methodLink RX6 109 yX6_trusts ∈ TB := TB_4 (List.mem_of_getElem? (i := 200) rfl) rfl
theorem wp_X6_trusts : Cond.privateMethod yX6_trusts ∈ lw_tbl := TT_4 (List.mem_of_getElem? (i := 201) rfl)
theorem wi_X6_trusts : Cond.instanceMethod yX6_trusts ∈ TB := TB_4 (List.mem_of_getElem? (i := 202) rfl) rfl
theorem wc_X6_trusts : Cond.code yX6_trusts cX6_trusts 2 (some .int) ∈ TB := TB_4 (List.mem_of_getElem? (i := 203) rfl) rfl
theorem wm_L_47 : Cond.methodLink RL 47 yX6_change ∈ TB := TB_4 (List.mem_of_getElem? (i := 204) rfl) rfl
theorem wi_X6_change : Cond.instanceMethod yX6_change ∈ TB := TB_4 (List.mem_of_getElem? (i := 205) rfl) rfl
theorem wsel_X6_change : Cond.selects RX6 yX6_change yX6_change ∈ TB := TB_4 (List.mem_of_getElem? (i := 206) rfl) rfl
theorem wc_X6_change : Cond.code yX6_change cX6_change 5 (some .int) ∈ TB := TB_4 (List.mem_of_getElem? (i := 207) rfl) rfl
theorem wk_X6_112 : Cond.constantLong RX6 112 (4) ∈ TB := TB_4 (List.mem_of_getElem? (i := 208) rfl) rfl
theorem wm_X6_114 : Cond.methodLink RX6 114 yX6_most ∈ TB := TB_4 (List.mem_of_getElem? (i := 209) rfl) rfl
theorem wst_X6_most : Cond.static yX6_most ∈ TB := TB_4 (List.mem_of_getElem? (i := 210) rfl) rfl
theorem wc_X6_most : Cond.code yX6_most cX6_most 1 (some .int) ∈ TB := TB_4 (List.mem_of_getElem? (i := 211) rfl) rfl
theorem wm_L_51 : Cond.methodLink RL 51 yX6_go ∈ TB := TB_4 (List.mem_of_getElem? (i := 212) rfl) rfl
theorem wi_X6_go : Cond.instanceMethod yX6_go ∈ TB := TB_4 (List.mem_of_getElem? (i := 213) rfl) rfl
theorem wsel_X6_go : Cond.selects RX6 yX6_go yX6_go ∈ TB := TB_4 (List.mem_of_getElem? (i := 214) rfl) rfl
theorem wc_X6_go : Cond.code yX6_go cX6_go 2 (some .int) ∈ TB := TB_4 (List.mem_of_getElem? (i := 215) rfl) rfl
theorem wk_X6_137 : Cond.constantLong RX6 137 (80) ∈ TB := TB_4 (List.mem_of_getElem? (i := 216) rfl) rfl
theorem wk_X6_139 : Cond.constant RX6 139 (99999) ∈ TB := TB_4 (List.mem_of_getElem? (i := 217) rfl) rfl
theorem wk_X6_140 : Cond.constant RX6 140 (-1000005) ∈ TB := TB_4 (List.mem_of_getElem? (i := 218) rfl) rfl
theorem wm_X6_141 : Cond.methodLink RX6 141 yX6_goesOn ∈ TB := TB_4 (List.mem_of_getElem? (i := 219) rfl) rfl
theorem wp_X6_goesOn : Cond.privateMethod yX6_goesOn ∈ lw_tbl := TT_4 (List.mem_of_getElem? (i := 220) rfl)
theorem wi_X6_goesOn : Cond.instanceMethod yX6_goesOn ∈ TB := TB_4 (List.mem_of_getElem? (i := 221) rfl) rfl
theorem wc_X6_goesOn : Cond.code yX6_goesOn cX6_goesOn 3 none ∈ TB := TB_4 (List.mem_of_getElem? (i := 222) rfl) rfl
theorem wm_X6_134 : Cond.methodLink RX6 134 yX6_hour ∈ TB := TB_4 (List.mem_of_getElem? (i := 223) rfl) rfl
theorem wp_X6_hour : Cond.privateMethod yX6_hour ∈ lw_tbl := TT_4 (List.mem_of_getElem? (i := 224) rfl)
theorem wi_X6_hour : Cond.instanceMethod yX6_hour ∈ TB := TB_4 (List.mem_of_getElem? (i := 225) rfl) rfl
theorem wc_X6_hour : Cond.code yX6_hour cX6_hour 2 none ∈ TB := TB_4 (List.mem_of_getElem? (i := 226) rfl) rfl
theorem wm_X6_128 : Cond.methodLink RX6 128 yX6_flows ∈ TB := TB_4 (List.mem_of_getElem? (i := 227) rfl) rfl
theorem wp_X6_flows : Cond.privateMethod yX6_flows ∈ lw_tbl := TT_4 (List.mem_of_getElem? (i := 228) rfl)
theorem wi_X6_flows : Cond.instanceMethod yX6_flows ∈ TB := TB_4 (List.mem_of_getElem? (i := 229) rfl) rfl
theorem wc_X6_flows : Cond.code yX6_flows cX6_flows 4 none ∈ TB := TB_4 (List.mem_of_getElem? (i := 230) rfl) rfl
theorem wk_X6_121 : Cond.constant RX6 121 (999999) ∈ TB := TB_4 (List.mem_of_getElem? (i := 231) rfl) rfl
theorem wm_X6_131 : Cond.methodLink RX6 131 yX6_sees ∈ TB := TB_4 (List.mem_of_getElem? (i := 232) rfl) rfl
theorem wp_X6_sees : Cond.privateMethod yX6_sees ∈ lw_tbl := TT_4 (List.mem_of_getElem? (i := 233) rfl)
theorem wi_X6_sees : Cond.instanceMethod yX6_sees ∈ TB := TB_4 (List.mem_of_getElem? (i := 234) rfl) rfl
theorem wc_X6_sees : Cond.code yX6_sees cX6_sees 5 none ∈ TB := TB_4 (List.mem_of_getElem? (i := 235) rfl) rfl
theorem wm_X6_122 : Cond.methodLink RX6 122 yX6_there ∈ TB := TB_4 (List.mem_of_getElem? (i := 236) rfl) rfl
theorem wp_X6_there : Cond.privateMethod yX6_there ∈ lw_tbl := TT_4 (List.mem_of_getElem? (i := 237) rfl)
theorem wi_X6_there : Cond.instanceMethod yX6_there ∈ TB := TB_4 (List.mem_of_getElem? (i := 238) rfl) rfl
theorem wc_X6_there : Cond.code yX6_there cX6_there 2 (some .int) ∈ TB := TB_4 (List.mem_of_getElem? (i := 239) rfl) rfl
theorem wm_X6_125 : Cond.methodLink RX6 125 yX6_distance ∈ TB := TB_5 (List.mem_of_getElem? (i := 0) rfl) rfl
theorem wst_X6_distance : Cond.static yX6_distance ∈ TB := TB_5 (List.mem_of_getElem? (i := 1) rfl) rfl
theorem wc_X6_distance : Cond.code yX6_distance cX6_distance 2 (some .int) ∈ TB := TB_5 (List.mem_of_getElem? (i := 2) rfl) rfl
theorem wm_X6_144 : Cond.methodLink RX6 144 yX6_knowing ∈ TB := TB_5 (List.mem_of_getElem? (i := 3) rfl) rfl
theorem wp_X6_knowing : Cond.privateMethod yX6_knowing ∈ lw_tbl := TT_5 (List.mem_of_getElem? (i := 4) rfl)
theorem wi_X6_knowing : Cond.instanceMethod yX6_knowing ∈ TB := TB_5 (List.mem_of_getElem? (i := 5) rfl) rfl
theorem wc_X6_knowing : Cond.code yX6_knowing cX6_knowing 3 (some .int) ∈ TB := TB_5 (List.mem_of_getElem? (i := 6) rfl) rfl
theorem wm_L_55 : Cond.methodLink RL 55 yX6_now ∈ TB := TB_5 (List.mem_of_getElem? (i := 7) rfl) rfl
theorem wi_X6_now : Cond.instanceMethod yX6_now ∈ TB := TB_5 (List.mem_of_getElem? (i := 8) rfl) rfl
theorem wsel_X6_now : Cond.selects RX6 yX6_now yX6_now ∈ TB := TB_5 (List.mem_of_getElem? (i := 9) rfl) rfl
theorem wc_X6_now : Cond.code yX6_now cX6_now 2 (some .int) ∈ TB := TB_5 (List.mem_of_getElem? (i := 10) rfl) rfl
theorem wm_X6_147 : Cond.methodLink RX6 147 yX6_levels ∈ TB := TB_5 (List.mem_of_getElem? (i := 11) rfl) rfl
theorem wp_X6_levels : Cond.privateMethod yX6_levels ∈ lw_tbl := TT_5 (List.mem_of_getElem? (i := 12) rfl)
theorem wi_X6_levels : Cond.instanceMethod yX6_levels ∈ TB := TB_5 (List.mem_of_getElem? (i := 13) rfl) rfl
theorem wc_X6_levels : Cond.code yX6_levels cX6_levels 3 (some .int) ∈ TB := TB_5 (List.mem_of_getElem? (i := 14) rfl) rfl
theorem wm_X6_150 : Cond.methodLink RX6 150 yX6_wanting ∈ TB := TB_5 (List.mem_of_getElem? (i := 15) rfl) rfl
theorem wp_X6_wanting : Cond.privateMethod yX6_wanting ∈ lw_tbl := TT_5 (List.mem_of_getElem? (i := 16) rfl)
theorem wi_X6_wanting : Cond.instanceMethod yX6_wanting ∈ TB := TB_5 (List.mem_of_getElem? (i := 17) rfl) rfl
theorem wc_X6_wanting : Cond.code yX6_wanting cX6_wanting 3 (some .int) ∈ TB := TB_5 (List.mem_of_getElem? (i := 18) rfl) rfl
theorem wm_X6_153 : Cond.methodLink RX6 153 yX6_beliefs ∈ TB := TB_5 (List.mem_of_getElem? (i := 19) rfl) rfl
theorem wp_X6_beliefs : Cond.privateMethod yX6_beliefs ∈ lw_tbl := TT_5 (List.mem_of_getElem? (i := 20) rfl)
theorem wi_X6_beliefs : Cond.instanceMethod yX6_beliefs ∈ TB := TB_5 (List.mem_of_getElem? (i := 21) rfl) rfl
theorem wc_X6_beliefs : Cond.code yX6_beliefs cX6_beliefs 3 (some .int) ∈ TB := TB_5 (List.mem_of_getElem? (i := 22) rfl) rfl
theorem wm_L_59 : Cond.methodLink RL 59 yX6_ahead ∈ TB := TB_5 (List.mem_of_getElem? (i := 23) rfl) rfl
theorem wi_X6_ahead : Cond.instanceMethod yX6_ahead ∈ TB := TB_5 (List.mem_of_getElem? (i := 24) rfl) rfl
theorem wsel_X6_ahead : Cond.selects RX6 yX6_ahead yX6_ahead ∈ TB := TB_5 (List.mem_of_getElem? (i := 25) rfl) rfl
theorem wc_X6_ahead : Cond.code yX6_ahead cX6_ahead 3 (some .int) ∈ TB := TB_5 (List.mem_of_getElem? (i := 26) rfl) rfl
theorem wk_X6_162 : Cond.constantLong RX6 162 (100) ∈ TB := TB_5 (List.mem_of_getElem? (i := 27) rfl) rfl
theorem wm_X6_164 : Cond.methodLink RX6 164 yX6_behind ∈ TB := TB_5 (List.mem_of_getElem? (i := 28) rfl) rfl
theorem wp_X6_behind : Cond.privateMethod yX6_behind ∈ lw_tbl := TT_5 (List.mem_of_getElem? (i := 29) rfl)
theorem wi_X6_behind : Cond.instanceMethod yX6_behind ∈ TB := TB_5 (List.mem_of_getElem? (i := 30) rfl) rfl
theorem wc_X6_behind : Cond.code yX6_behind cX6_behind 3 (some .int) ∈ TB := TB_5 (List.mem_of_getElem? (i := 31) rfl) rfl
theorem wm_X6_156 : Cond.methodLink RX6 156 yX6_laysAside ∈ TB := TB_5 (List.mem_of_getElem? (i := 32) rfl) rfl
theorem wp_X6_laysAside : Cond.privateMethod yX6_laysAside ∈ lw_tbl := TT_5 (List.mem_of_getElem? (i := 33) rfl)
theorem wi_X6_laysAside : Cond.instanceMethod yX6_laysAside ∈ TB := TB_5 (List.mem_of_getElem? (i := 34) rfl) rfl
theorem wc_X6_laysAside : Cond.code yX6_laysAside cX6_laysAside 2 none ∈ TB := TB_5 (List.mem_of_getElem? (i := 35) rfl) rfl
theorem wm_X6_159 : Cond.methodLink RX6 159 yX6_takesBack ∈ TB := TB_5 (List.mem_of_getElem? (i := 36) rfl) rfl
theorem wp_X6_takesBack : Cond.privateMethod yX6_takesBack ∈ lw_tbl := TT_5 (List.mem_of_getElem? (i := 37) rfl)
theorem wi_X6_takesBack : Cond.instanceMethod yX6_takesBack ∈ TB := TB_5 (List.mem_of_getElem? (i := 38) rfl) rfl
theorem wc_X6_takesBack : Cond.code yX6_takesBack cX6_takesBack 3 (some .int) ∈ TB := TB_5 (List.mem_of_getElem? (i := 39) rfl) rfl
theorem wm_L_63 : Cond.methodLink RL 63 yX6_belief ∈ TB := TB_5 (List.mem_of_getElem? (i := 40) rfl) rfl
theorem wi_X6_belief : Cond.instanceMethod yX6_belief ∈ TB := TB_5 (List.mem_of_getElem? (i := 41) rfl) rfl
theorem wsel_X6_belief : Cond.selects RX6 yX6_belief yX6_belief ∈ TB := TB_5 (List.mem_of_getElem? (i := 42) rfl) rfl
theorem wc_X6_belief : Cond.code yX6_belief cX6_belief 4 (some .int) ∈ TB := TB_5 (List.mem_of_getElem? (i := 43) rfl) rfl
theorem wk_X6_167 : Cond.constantLong RX6 167 (3) ∈ TB := TB_5 (List.mem_of_getElem? (i := 44) rfl) rfl
theorem wm_L_67 : Cond.methodLink RL 67 yX6_when ∈ TB := TB_5 (List.mem_of_getElem? (i := 45) rfl) rfl
theorem wi_X6_when : Cond.instanceMethod yX6_when ∈ TB := TB_5 (List.mem_of_getElem? (i := 46) rfl) rfl
theorem wsel_X6_when : Cond.selects RX6 yX6_when yX6_when ∈ TB := TB_5 (List.mem_of_getElem? (i := 47) rfl) rfl
theorem wc_X6_when : Cond.code yX6_when cX6_when 2 (some .int) ∈ TB := TB_5 (List.mem_of_getElem? (i := 48) rfl) rfl
theorem wm_X6_170 : Cond.methodLink RX6 170 yX6_until ∈ TB := TB_5 (List.mem_of_getElem? (i := 49) rfl) rfl
theorem wp_X6_until : Cond.privateMethod yX6_until ∈ lw_tbl := TT_5 (List.mem_of_getElem? (i := 50) rfl)
theorem wi_X6_until : Cond.instanceMethod yX6_until ∈ TB := TB_5 (List.mem_of_getElem? (i := 51) rfl) rfl
theorem wc_X6_until : Cond.code yX6_until cX6_until 5 (some .int) ∈ TB := TB_5 (List.mem_of_getElem? (i := 52) rfl) rfl
theorem wm_X6_174 : Cond.methodLink RX6 174 yX6_orNone ∈ TB := TB_5 (List.mem_of_getElem? (i := 53) rfl) rfl
theorem wp_X6_orNone : Cond.privateMethod yX6_orNone ∈ lw_tbl := TT_5 (List.mem_of_getElem? (i := 54) rfl)
theorem wi_X6_orNone : Cond.instanceMethod yX6_orNone ∈ TB := TB_5 (List.mem_of_getElem? (i := 55) rfl) rfl
theorem wc_X6_orNone : Cond.code yX6_orNone cX6_orNone 2 (some .int) ∈ TB := TB_5 (List.mem_of_getElem? (i := 56) rfl) rfl
theorem wk_X6_169 : Cond.constant RX6 169 (-1000004) ∈ TB := TB_5 (List.mem_of_getElem? (i := 57) rfl) rfl
theorem wm_L_72 : Cond.methodLink RL 72 yX6_first ∈ TB := TB_5 (List.mem_of_getElem? (i := 58) rfl) rfl
theorem wi_X6_first : Cond.instanceMethod yX6_first ∈ TB := TB_5 (List.mem_of_getElem? (i := 59) rfl) rfl
theorem wsel_X6_first : Cond.selects RX6 yX6_first yX6_first ∈ TB := TB_5 (List.mem_of_getElem? (i := 60) rfl) rfl
theorem wc_X6_first : Cond.code yX6_first cX6_first 5 (some .int) ∈ TB := TB_5 (List.mem_of_getElem? (i := 61) rfl) rfl
theorem wm_L_76 : Cond.methodLink RL 76 yX6_reaches ∈ TB := TB_5 (List.mem_of_getElem? (i := 62) rfl) rfl
theorem wi_X6_reaches : Cond.instanceMethod yX6_reaches ∈ TB := TB_5 (List.mem_of_getElem? (i := 63) rfl) rfl
theorem wsel_X6_reaches : Cond.selects RX6 yX6_reaches yX6_reaches ∈ TB := TB_5 (List.mem_of_getElem? (i := 64) rfl) rfl
theorem wc_X6_reaches : Cond.code yX6_reaches cX6_reaches 3 (some .int) ∈ TB := TB_5 (List.mem_of_getElem? (i := 65) rfl) rfl
theorem wm_L_80 : Cond.methodLink RL 80 yX6_range ∈ TB := TB_5 (List.mem_of_getElem? (i := 66) rfl) rfl
theorem wi_X6_range : Cond.instanceMethod yX6_range ∈ TB := TB_5 (List.mem_of_getElem? (i := 67) rfl) rfl
theorem wsel_X6_range : Cond.selects RX6 yX6_range yX6_range ∈ TB := TB_5 (List.mem_of_getElem? (i := 68) rfl) rfl
theorem wc_X6_range : Cond.code yX6_range cX6_range 5 (some .int) ∈ TB := TB_5 (List.mem_of_getElem? (i := 69) rfl) rfl
theorem wm_X6_181 : Cond.methodLink RX6 181 yX6_leastOf ∈ TB := TB_5 (List.mem_of_getElem? (i := 70) rfl) rfl
theorem wp_X6_leastOf : Cond.privateMethod yX6_leastOf ∈ lw_tbl := TT_5 (List.mem_of_getElem? (i := 71) rfl)
theorem wi_X6_leastOf : Cond.instanceMethod yX6_leastOf ∈ TB := TB_5 (List.mem_of_getElem? (i := 72) rfl) rfl
theorem wc_X6_leastOf : Cond.code yX6_leastOf cX6_leastOf 7 (some .int) ∈ TB := TB_5 (List.mem_of_getElem? (i := 73) rfl) rfl
theorem wm_L_84 : Cond.methodLink RL 84 yX6_enough ∈ TB := TB_5 (List.mem_of_getElem? (i := 74) rfl) rfl
theorem wi_X6_enough : Cond.instanceMethod yX6_enough ∈ TB := TB_5 (List.mem_of_getElem? (i := 75) rfl) rfl
theorem wsel_X6_enough : Cond.selects RX6 yX6_enough yX6_enough ∈ TB := TB_5 (List.mem_of_getElem? (i := 76) rfl) rfl
theorem wc_X6_enough : Cond.code yX6_enough cX6_enough 4 (some .int) ∈ TB := TB_5 (List.mem_of_getElem? (i := 77) rfl) rfl
theorem wm_L_88 : Cond.methodLink RL 88 yX6_hide ∈ TB := TB_5 (List.mem_of_getElem? (i := 78) rfl) rfl
theorem wi_X6_hide : Cond.instanceMethod yX6_hide ∈ TB := TB_5 (List.mem_of_getElem? (i := 79) rfl) rfl
theorem wsel_X6_hide : Cond.selects RX6 yX6_hide yX6_hide ∈ TB := TB_5 (List.mem_of_getElem? (i := 80) rfl) rfl
theorem wc_X6_hide : Cond.code yX6_hide cX6_hide 7 (some .int) ∈ TB := TB_5 (List.mem_of_getElem? (i := 81) rfl) rfl
theorem wm_X6_187 : Cond.methodLink RX6 187 yX6_isSoon ∈ TB := TB_5 (List.mem_of_getElem? (i := 82) rfl) rfl
theorem wst_X6_isSoon : Cond.static yX6_isSoon ∈ TB := TB_5 (List.mem_of_getElem? (i := 83) rfl) rfl
theorem wc_X6_isSoon : Cond.code yX6_isSoon cX6_isSoon 1 (some .boolean) ∈ TB := TB_5 (List.mem_of_getElem? (i := 84) rfl) rfl
theorem wk_X6_185 : Cond.constantLong RX6 185 (60) ∈ TB := TB_5 (List.mem_of_getElem? (i := 85) rfl) rfl
theorem wm_X6_190 : Cond.methodLink RX6 190 yX6_ones ∈ TB := TB_5 (List.mem_of_getElem? (i := 86) rfl) rfl
theorem wst_X6_ones : Cond.static yX6_ones ∈ TB := TB_5 (List.mem_of_getElem? (i := 87) rfl) rfl
theorem wc_X6_ones : Cond.code yX6_ones cX6_ones 3 (some .int) ∈ TB := TB_5 (List.mem_of_getElem? (i := 88) rfl) rfl
theorem wm_L_92 : Cond.methodLink RL 92 yX6_safe ∈ TB := TB_5 (List.mem_of_getElem? (i := 89) rfl) rfl
theorem wi_X6_safe : Cond.instanceMethod yX6_safe ∈ TB := TB_5 (List.mem_of_getElem? (i := 90) rfl) rfl
theorem wsel_X6_safe : Cond.selects RX6 yX6_safe yX6_safe ∈ TB := TB_5 (List.mem_of_getElem? (i := 91) rfl) rfl
theorem wc_X6_safe : Cond.code yX6_safe cX6_safe 6 (some .int) ∈ TB := TB_5 (List.mem_of_getElem? (i := 92) rfl) rfl
theorem wm_L_96 : Cond.methodLink RL 96 yX6_sleep ∈ TB := TB_5 (List.mem_of_getElem? (i := 93) rfl) rfl
theorem wi_X6_sleep : Cond.instanceMethod yX6_sleep ∈ TB := TB_5 (List.mem_of_getElem? (i := 94) rfl) rfl
theorem wsel_X6_sleep : Cond.selects RX6 yX6_sleep yX6_sleep ∈ TB := TB_5 (List.mem_of_getElem? (i := 95) rfl) rfl
theorem wc_X6_sleep : Cond.code yX6_sleep cX6_sleep 5 (some .int) ∈ TB := TB_5 (List.mem_of_getElem? (i := 96) rfl) rfl
theorem wk_X6_193 : Cond.constantLong RX6 193 (20) ∈ TB := TB_5 (List.mem_of_getElem? (i := 97) rfl) rfl
theorem wm_L_100 : Cond.methodLink RL 100 yX6_turns ∈ TB := TB_5 (List.mem_of_getElem? (i := 98) rfl) rfl
theorem wi_X6_turns : Cond.instanceMethod yX6_turns ∈ TB := TB_5 (List.mem_of_getElem? (i := 99) rfl) rfl
theorem wsel_X6_turns : Cond.selects RX6 yX6_turns yX6_turns ∈ TB := TB_5 (List.mem_of_getElem? (i := 100) rfl) rfl
theorem wc_X6_turns : Cond.code yX6_turns cX6_turns 3 (some .int) ∈ TB := TB_5 (List.mem_of_getElem? (i := 101) rfl) rfl
theorem wm_L_104 : Cond.methodLink RL 104 yX6_seat ∈ TB := TB_5 (List.mem_of_getElem? (i := 102) rfl) rfl
theorem wi_X6_seat : Cond.instanceMethod yX6_seat ∈ TB := TB_5 (List.mem_of_getElem? (i := 103) rfl) rfl
theorem wsel_X6_seat : Cond.selects RX6 yX6_seat yX6_seat ∈ TB := TB_5 (List.mem_of_getElem? (i := 104) rfl) rfl
theorem wc_X6_seat : Cond.code yX6_seat cX6_seat 3 (some .int) ∈ TB := TB_5 (List.mem_of_getElem? (i := 105) rfl) rfl
theorem wm_X6_195 : Cond.methodLink RX6 195 yX6_mostBelief ∈ TB := TB_5 (List.mem_of_getElem? (i := 106) rfl) rfl
theorem wp_X6_mostBelief : Cond.privateMethod yX6_mostBelief ∈ lw_tbl := TT_5 (List.mem_of_getElem? (i := 107) rfl)
theorem wi_X6_mostBelief : Cond.instanceMethod yX6_mostBelief ∈ TB := TB_5 (List.mem_of_getElem? (i := 108) rfl) rfl
theorem wc_X6_mostBelief : Cond.code yX6_mostBelief cX6_mostBelief 8 (some .int) ∈ TB := TB_5 (List.mem_of_getElem? (i := 109) rfl) rfl
theorem wm_L_108 : Cond.methodLink RL 108 yX6_kindFor ∈ TB := TB_5 (List.mem_of_getElem? (i := 110) rfl) rfl
theorem wi_X6_kindFor : Cond.instanceMethod yX6_kindFor ∈ TB := TB_5 (List.mem_of_getElem? (i := 111) rfl) rfl
theorem wsel_X6_kindFor : Cond.selects RX6 yX6_kindFor yX6_kindFor ∈ TB := TB_5 (List.mem_of_getElem? (i := 112) rfl) rfl
theorem wc_X6_kindFor : Cond.code yX6_kindFor cX6_kindFor 3 (some .int) ∈ TB := TB_5 (List.mem_of_getElem? (i := 113) rfl) rfl
theorem wm_L_112 : Cond.methodLink RL 112 yX6_wantFor ∈ TB := TB_5 (List.mem_of_getElem? (i := 114) rfl) rfl
theorem wi_X6_wantFor : Cond.instanceMethod yX6_wantFor ∈ TB := TB_5 (List.mem_of_getElem? (i := 115) rfl) rfl
theorem wsel_X6_wantFor : Cond.selects RX6 yX6_wantFor yX6_wantFor ∈ TB := TB_5 (List.mem_of_getElem? (i := 116) rfl) rfl
theorem wc_X6_wantFor : Cond.code yX6_wantFor cX6_wantFor 4 (some .int) ∈ TB := TB_5 (List.mem_of_getElem? (i := 117) rfl) rfl
theorem wm_L_116 : Cond.methodLink RL 116 yX6_watch ∈ TB := TB_5 (List.mem_of_getElem? (i := 118) rfl) rfl
theorem wi_X6_watch : Cond.instanceMethod yX6_watch ∈ TB := TB_5 (List.mem_of_getElem? (i := 119) rfl) rfl
theorem wsel_X6_watch : Cond.selects RX6 yX6_watch yX6_watch ∈ TB := TB_5 (List.mem_of_getElem? (i := 120) rfl) rfl
theorem wc_X6_watch : Cond.code yX6_watch cX6_watch 4 (some .int) ∈ TB := TB_5 (List.mem_of_getElem? (i := 121) rfl) rfl
theorem wm_L_120 : Cond.methodLink RL 120 yX6_fits ∈ TB := TB_5 (List.mem_of_getElem? (i := 122) rfl) rfl
theorem wi_X6_fits : Cond.instanceMethod yX6_fits ∈ TB := TB_5 (List.mem_of_getElem? (i := 123) rfl) rfl
theorem wsel_X6_fits : Cond.selects RX6 yX6_fits yX6_fits ∈ TB := TB_5 (List.mem_of_getElem? (i := 124) rfl) rfl
theorem wc_X6_fits : Cond.code yX6_fits cX6_fits 5 (some .int) ∈ TB := TB_5 (List.mem_of_getElem? (i := 125) rfl) rfl
theorem wm_X6_211 : Cond.methodLink RX6 211 yX6_wrongOpened ∈ TB := TB_5 (List.mem_of_getElem? (i := 126) rfl) rfl
theorem wp_X6_wrongOpened : Cond.privateMethod yX6_wrongOpened ∈ lw_tbl := TT_5 (List.mem_of_getElem? (i := 127) rfl)
theorem wi_X6_wrongOpened : Cond.instanceMethod yX6_wrongOpened ∈ TB := TB_5 (List.mem_of_getElem? (i := 128) rfl) rfl
theorem wc_X6_wrongOpened : Cond.code yX6_wrongOpened cX6_wrongOpened 5 (some .int) ∈ TB := TB_5 (List.mem_of_getElem? (i := 129) rfl) rfl
theorem wm_X6_208 : Cond.methodLink RX6 208 yX6_wrong ∈ TB := TB_5 (List.mem_of_getElem? (i := 130) rfl) rfl
theorem wp_X6_wrong : Cond.privateMethod yX6_wrong ∈ lw_tbl := TT_5 (List.mem_of_getElem? (i := 131) rfl)
theorem wi_X6_wrong : Cond.instanceMethod yX6_wrong ∈ TB := TB_5 (List.mem_of_getElem? (i := 132) rfl) rfl
theorem wc_X6_wrong : Cond.code yX6_wrong cX6_wrong 2 (some .int) ∈ TB := TB_5 (List.mem_of_getElem? (i := 133) rfl) rfl
theorem wm_X6_331 : Cond.methodLink RX6 331 yX6_isOne ∈ TB := TB_5 (List.mem_of_getElem? (i := 134) rfl) rfl
theorem wst_X6_isOne : Cond.static yX6_isOne ∈ TB := TB_5 (List.mem_of_getElem? (i := 135) rfl) rfl
theorem wc_X6_isOne : Cond.code yX6_isOne cX6_isOne 1 (some .boolean) ∈ TB := TB_5 (List.mem_of_getElem? (i := 136) rfl) rfl
theorem wk_X6_326 : Cond.constant RX6 326 (-1000006) ∈ TB := TB_5 (List.mem_of_getElem? (i := 137) rfl) rfl
theorem wm_X6_214 : Cond.methodLink RX6 214 yX6_findOpened ∈ TB := TB_5 (List.mem_of_getElem? (i := 138) rfl) rfl
theorem wp_X6_findOpened : Cond.privateMethod yX6_findOpened ∈ lw_tbl := TT_5 (List.mem_of_getElem? (i := 139) rfl)
theorem wi_X6_findOpened : Cond.instanceMethod yX6_findOpened ∈ TB := TB_5 (List.mem_of_getElem? (i := 140) rfl) rfl
theorem wc_X6_findOpened : Cond.code yX6_findOpened cX6_findOpened 5 none ∈ TB := TB_5 (List.mem_of_getElem? (i := 141) rfl) rfl
theorem wm_X6_204 : Cond.methodLink RX6 204 yX6_isTold ∈ TB := TB_5 (List.mem_of_getElem? (i := 142) rfl) rfl
theorem wp_X6_isTold : Cond.privateMethod yX6_isTold ∈ lw_tbl := TT_5 (List.mem_of_getElem? (i := 143) rfl)
theorem wi_X6_isTold : Cond.instanceMethod yX6_isTold ∈ TB := TB_5 (List.mem_of_getElem? (i := 144) rfl) rfl
theorem wc_X6_isTold : Cond.code yX6_isTold cX6_isTold 6 (some .boolean) ∈ TB := TB_5 (List.mem_of_getElem? (i := 145) rfl) rfl
theorem wm_L_124 : Cond.methodLink RL 124 yX6_opened ∈ TB := TB_5 (List.mem_of_getElem? (i := 146) rfl) rfl
theorem wi_X6_opened : Cond.instanceMethod yX6_opened ∈ TB := TB_5 (List.mem_of_getElem? (i := 147) rfl) rfl
theorem wsel_X6_opened : Cond.selects RX6 yX6_opened yX6_opened ∈ TB := TB_5 (List.mem_of_getElem? (i := 148) rfl) rfl
theorem wc_X6_opened : Cond.code yX6_opened cX6_opened 5 (some .int) ∈ TB := TB_5 (List.mem_of_getElem? (i := 149) rfl) rfl
theorem wm_L_128 : Cond.methodLink RL 128 yX6_kinds ∈ TB := TB_5 (List.mem_of_getElem? (i := 150) rfl) rfl
theorem wi_X6_kinds : Cond.instanceMethod yX6_kinds ∈ TB := TB_5 (List.mem_of_getElem? (i := 151) rfl) rfl
theorem wsel_X6_kinds : Cond.selects RX6 yX6_kinds yX6_kinds ∈ TB := TB_5 (List.mem_of_getElem? (i := 152) rfl) rfl
theorem wc_X6_kinds : Cond.code yX6_kinds cX6_kinds 6 (some .int) ∈ TB := TB_5 (List.mem_of_getElem? (i := 153) rfl) rfl
theorem wm_L_132 : Cond.methodLink RL 132 yX6_nights ∈ TB := TB_5 (List.mem_of_getElem? (i := 154) rfl) rfl
theorem wi_X6_nights : Cond.instanceMethod yX6_nights ∈ TB := TB_5 (List.mem_of_getElem? (i := 155) rfl) rfl
theorem wsel_X6_nights : Cond.selects RX6 yX6_nights yX6_nights ∈ TB := TB_5 (List.mem_of_getElem? (i := 156) rfl) rfl
theorem wc_X6_nights : Cond.code yX6_nights cX6_nights 4 (some .int) ∈ TB := TB_5 (List.mem_of_getElem? (i := 157) rfl) rfl
theorem wm_X6_219 : Cond.methodLink RX6 219 yX6_draw ∈ TB := TB_5 (List.mem_of_getElem? (i := 158) rfl) rfl
theorem wp_X6_draw : Cond.privateMethod yX6_draw ∈ lw_tbl := TT_5 (List.mem_of_getElem? (i := 159) rfl)
theorem wi_X6_draw : Cond.instanceMethod yX6_draw ∈ TB := TB_5 (List.mem_of_getElem? (i := 160) rfl) rfl
theorem wc_X6_draw : Cond.code yX6_draw cX6_draw 1 (some .int) ∈ TB := TB_5 (List.mem_of_getElem? (i := 161) rfl) rfl
theorem wk_X6_218 : Cond.constant RX6 218 (1103515245) ∈ TB := TB_5 (List.mem_of_getElem? (i := 162) rfl) rfl
theorem wm_L_137 : Cond.methodLink RL 137 yX6_odds ∈ TB := TB_5 (List.mem_of_getElem? (i := 163) rfl) rfl
theorem wi_X6_odds : Cond.instanceMethod yX6_odds ∈ TB := TB_5 (List.mem_of_getElem? (i := 164) rfl) rfl
theorem wsel_X6_odds : Cond.selects RX6 yX6_odds yX6_odds ∈ TB := TB_5 (List.mem_of_getElem? (i := 165) rfl) rfl
theorem wc_X6_odds : Cond.code yX6_odds cX6_odds 8 (some .long) ∈ TB := TB_5 (List.mem_of_getElem? (i := 166) rfl) rfl
theorem wm_L_141 : Cond.methodLink RL 141 yX6_seed ∈ TB := TB_5 (List.mem_of_getElem? (i := 167) rfl) rfl
theorem wi_X6_seed : Cond.instanceMethod yX6_seed ∈ TB := TB_5 (List.mem_of_getElem? (i := 168) rfl) rfl
theorem wsel_X6_seed : Cond.selects RX6 yX6_seed yX6_seed ∈ TB := TB_5 (List.mem_of_getElem? (i := 169) rfl) rfl
theorem wc_X6_seed : Cond.code yX6_seed cX6_seed 2 (some .int) ∈ TB := TB_5 (List.mem_of_getElem? (i := 170) rfl) rfl
theorem wm_L_145 : Cond.methodLink RL 145 yX6_feed ∈ TB := TB_5 (List.mem_of_getElem? (i := 171) rfl) rfl
theorem wi_X6_feed : Cond.instanceMethod yX6_feed ∈ TB := TB_5 (List.mem_of_getElem? (i := 172) rfl) rfl
theorem wsel_X6_feed : Cond.selects RX6 yX6_feed yX6_feed ∈ TB := TB_5 (List.mem_of_getElem? (i := 173) rfl) rfl
theorem wc_X6_feed : Cond.code yX6_feed cX6_feed 4 (some .int) ∈ TB := TB_5 (List.mem_of_getElem? (i := 174) rfl) rfl
theorem wm_L_149 : Cond.methodLink RL 149 yX6_wipe ∈ TB := TB_5 (List.mem_of_getElem? (i := 175) rfl) rfl
theorem wi_X6_wipe : Cond.instanceMethod yX6_wipe ∈ TB := TB_5 (List.mem_of_getElem? (i := 176) rfl) rfl
theorem wsel_X6_wipe : Cond.selects RX6 yX6_wipe yX6_wipe ∈ TB := TB_5 (List.mem_of_getElem? (i := 177) rfl) rfl
theorem wc_X6_wipe : Cond.code yX6_wipe cX6_wipe 2 (some .int) ∈ TB := TB_5 (List.mem_of_getElem? (i := 178) rfl) rfl
theorem wm_L_153 : Cond.methodLink RL 153 yX6_text ∈ TB := TB_5 (List.mem_of_getElem? (i := 179) rfl) rfl
theorem wi_X6_text : Cond.instanceMethod yX6_text ∈ TB := TB_5 (List.mem_of_getElem? (i := 180) rfl) rfl
theorem wsel_X6_text : Cond.selects RX6 yX6_text yX6_text ∈ TB := TB_5 (List.mem_of_getElem? (i := 181) rfl) rfl
theorem wc_X6_text : Cond.code yX6_text cX6_text 2 (some .int) ∈ TB := TB_5 (List.mem_of_getElem? (i := 182) rfl) rfl
theorem wm_X6_312 : Cond.methodLink RX6 312 yX6_saves ∈ TB := TB_5 (List.mem_of_getElem? (i := 183) rfl) rfl
theorem wp_X6_saves : Cond.privateMethod yX6_saves ∈ lw_tbl := TT_5 (List.mem_of_getElem? (i := 184) rfl)
theorem wi_X6_saves : Cond.instanceMethod yX6_saves ∈ TB := TB_5 (List.mem_of_getElem? (i := 185) rfl) rfl
theorem wc_X6_saves : Cond.code yX6_saves cX6_saves 2 none ∈ TB := TB_5 (List.mem_of_getElem? (i := 186) rfl) rfl
theorem wm_X6_251 : Cond.methodLink RX6 251 yX6_token ∈ TB := TB_5 (List.mem_of_getElem? (i := 187) rfl) rfl
theorem wp_X6_token : Cond.privateMethod yX6_token ∈ lw_tbl := TT_5 (List.mem_of_getElem? (i := 188) rfl)
theorem wi_X6_token : Cond.instanceMethod yX6_token ∈ TB := TB_5 (List.mem_of_getElem? (i := 189) rfl) rfl
theorem wc_X6_token : Cond.code yX6_token cX6_token 3 none ∈ TB := TB_5 (List.mem_of_getElem? (i := 190) rfl) rfl
theorem wm_X6_239 : Cond.methodLink RX6 239 yX6_byteAt ∈ TB := TB_5 (List.mem_of_getElem? (i := 191) rfl) rfl
theorem wp_X6_byteAt : Cond.privateMethod yX6_byteAt ∈ lw_tbl := TT_5 (List.mem_of_getElem? (i := 192) rfl)
theorem wi_X6_byteAt : Cond.instanceMethod yX6_byteAt ∈ TB := TB_5 (List.mem_of_getElem? (i := 193) rfl) rfl
theorem wc_X6_byteAt : Cond.code yX6_byteAt cX6_byteAt 2 (some .int) ∈ TB := TB_5 (List.mem_of_getElem? (i := 194) rfl) rfl
theorem wm_X6_242 : Cond.methodLink RX6 242 yX6_isLetter ∈ TB := TB_5 (List.mem_of_getElem? (i := 195) rfl) rfl
theorem wst_X6_isLetter : Cond.static yX6_isLetter ∈ TB := TB_5 (List.mem_of_getElem? (i := 196) rfl) rfl
theorem wc_X6_isLetter : Cond.code yX6_isLetter cX6_isLetter 1 (some .boolean) ∈ TB := TB_5 (List.mem_of_getElem? (i := 197) rfl) rfl
theorem wk_X6_225 : Cond.constantLong RX6 225 (97) ∈ TB := TB_5 (List.mem_of_getElem? (i := 198) rfl) rfl
theorem wk_X6_227 : Cond.constantLong RX6 227 (122) ∈ TB := TB_5 (List.mem_of_getElem? (i := 199) rfl) rfl
theorem wm_X6_245 : Cond.methodLink RX6 245 yX6_isDigit ∈ TB := TB_5 (List.mem_of_getElem? (i := 200) rfl) rfl
theorem wst_X6_isDigit : Cond.static yX6_isDigit ∈ TB := TB_5 (List.mem_of_getElem? (i := 201) rfl) rfl
theorem wc_X6_isDigit : Cond.code yX6_isDigit cX6_isDigit 1 (some .boolean) ∈ TB := TB_5 (List.mem_of_getElem? (i := 202) rfl) rfl
theorem wk_X6_229 : Cond.constantLong RX6 229 (48) ∈ TB := TB_5 (List.mem_of_getElem? (i := 203) rfl) rfl
theorem wk_X6_231 : Cond.constantLong RX6 231 (57) ∈ TB := TB_5 (List.mem_of_getElem? (i := 204) rfl) rfl
theorem wm_X6_315 : Cond.methodLink RX6 315 yX6_item ∈ TB := TB_5 (List.mem_of_getElem? (i := 205) rfl) rfl
theorem wp_X6_item : Cond.privateMethod yX6_item ∈ lw_tbl := TT_5 (List.mem_of_getElem? (i := 206) rfl)
theorem wi_X6_item : Cond.instanceMethod yX6_item ∈ TB := TB_5 (List.mem_of_getElem? (i := 207) rfl) rfl
theorem wc_X6_item : Cond.code yX6_item cX6_item 4 none ∈ TB := TB_5 (List.mem_of_getElem? (i := 208) rfl) rfl
theorem wm_X6_297 : Cond.methodLink RX6 297 yX6_kindHere ∈ TB := TB_5 (List.mem_of_getElem? (i := 209) rfl) rfl
theorem wp_X6_kindHere : Cond.privateMethod yX6_kindHere ∈ lw_tbl := TT_5 (List.mem_of_getElem? (i := 210) rfl)
theorem wi_X6_kindHere : Cond.instanceMethod yX6_kindHere ∈ TB := TB_5 (List.mem_of_getElem? (i := 211) rfl) rfl
theorem wc_X6_kindHere : Cond.code yX6_kindHere cX6_kindHere 3 (some .int) ∈ TB := TB_5 (List.mem_of_getElem? (i := 212) rfl) rfl
theorem wm_X6_265 : Cond.methodLink RX6 265 yX6_word ∈ TB := TB_5 (List.mem_of_getElem? (i := 213) rfl) rfl
theorem wp_X6_word : Cond.privateMethod yX6_word ∈ lw_tbl := TT_5 (List.mem_of_getElem? (i := 214) rfl)
theorem wi_X6_word : Cond.instanceMethod yX6_word ∈ TB := TB_5 (List.mem_of_getElem? (i := 215) rfl) rfl
theorem wc_X6_word : Cond.code yX6_word cX6_word 4 (some .long) ∈ TB := TB_5 (List.mem_of_getElem? (i := 216) rfl) rfl
theorem wk_X6_254 : Cond.constantLong RX6 254 (36028797018963967) ∈ TB := TB_5 (List.mem_of_getElem? (i := 217) rfl) rfl
theorem wk_X6_256 : Cond.constantLong RX6 256 (32) ∈ TB := TB_5 (List.mem_of_getElem? (i := 218) rfl) rfl
theorem wk_X6_269 : Cond.constantLong RX6 269 (24750694578) ∈ TB := TB_5 (List.mem_of_getElem? (i := 219) rfl) rfl
theorem wk_X6_271 : Cond.constantLong RX6 271 (435596) ∈ TB := TB_5 (List.mem_of_getElem? (i := 220) rfl) rfl
theorem wk_X6_273 : Cond.constantLong RX6 273 (539828) ∈ TB := TB_5 (List.mem_of_getElem? (i := 221) rfl) rfl
theorem wk_X6_275 : Cond.constantLong RX6 275 (18226974674418) ∈ TB := TB_5 (List.mem_of_getElem? (i := 222) rfl) rfl
theorem wk_X6_277 : Cond.constantLong RX6 277 (4820390066) ∈ TB := TB_5 (List.mem_of_getElem? (i := 223) rfl) rfl
theorem wk_X6_279 : Cond.constantLong RX6 279 (206440) ∈ TB := TB_5 (List.mem_of_getElem? (i := 224) rfl) rfl
theorem wk_X6_281 : Cond.constantLong RX6 281 (86282469) ∈ TB := TB_5 (List.mem_of_getElem? (i := 225) rfl) rfl
theorem wm_X6_300 : Cond.methodLink RX6 300 yX6_watcherItem ∈ TB := TB_5 (List.mem_of_getElem? (i := 226) rfl) rfl
theorem wp_X6_watcherItem : Cond.privateMethod yX6_watcherItem ∈ lw_tbl := TT_5 (List.mem_of_getElem? (i := 227) rfl)
theorem wi_X6_watcherItem : Cond.instanceMethod yX6_watcherItem ∈ TB := TB_5 (List.mem_of_getElem? (i := 228) rfl) rfl
theorem wc_X6_watcherItem : Cond.code yX6_watcherItem cX6_watcherItem 3 none ∈ TB := TB_5 (List.mem_of_getElem? (i := 229) rfl) rfl
theorem wm_X6_261 : Cond.methodLink RX6 261 yX6_must ∈ TB := TB_5 (List.mem_of_getElem? (i := 230) rfl) rfl
theorem wp_X6_must : Cond.privateMethod yX6_must ∈ lw_tbl := TT_5 (List.mem_of_getElem? (i := 231) rfl)
theorem wi_X6_must : Cond.instanceMethod yX6_must ∈ TB := TB_5 (List.mem_of_getElem? (i := 232) rfl) rfl
theorem wc_X6_must : Cond.code yX6_must cX6_must 2 none ∈ TB := TB_5 (List.mem_of_getElem? (i := 233) rfl) rfl
theorem wk_X6_287 : Cond.constantLong RX6 287 (52) ∈ TB := TB_5 (List.mem_of_getElem? (i := 234) rfl) rfl
theorem wm_X6_289 : Cond.methodLink RX6 289 yX6_perhaps ∈ TB := TB_5 (List.mem_of_getElem? (i := 235) rfl) rfl
theorem wp_X6_perhaps : Cond.privateMethod yX6_perhaps ∈ lw_tbl := TT_5 (List.mem_of_getElem? (i := 236) rfl)
theorem wi_X6_perhaps : Cond.instanceMethod yX6_perhaps ∈ TB := TB_5 (List.mem_of_getElem? (i := 237) rfl) rfl
theorem wc_X6_perhaps : Cond.code yX6_perhaps cX6_perhaps 5 none ∈ TB := TB_5 (List.mem_of_getElem? (i := 238) rfl) rfl
theorem wm_X6_283 : Cond.methodLink RX6 283 yX6_number ∈ TB := TB_5 (List.mem_of_getElem? (i := 239) rfl) rfl
theorem wp_X6_number : Cond.privateMethod yX6_number ∈ lw_tbl := TT_6 (List.mem_of_getElem? (i := 0) rfl)
theorem wi_X6_number : Cond.instanceMethod yX6_number ∈ TB := TB_6 (List.mem_of_getElem? (i := 1) rfl) rfl
theorem wc_X6_number : Cond.code yX6_number cX6_number 6 none ∈ TB := TB_6 (List.mem_of_getElem? (i := 2) rfl) rfl
theorem wk_X6_293 : Cond.constantLong RX6 293 (24165011) ∈ TB := TB_6 (List.mem_of_getElem? (i := 3) rfl) rfl
theorem wk_X6_295 : Cond.constantLong RX6 295 (74500462771) ∈ TB := TB_6 (List.mem_of_getElem? (i := 4) rfl) rfl
theorem wk_X6_303 : Cond.constantLong RX6 303 (12769452) ∈ TB := TB_6 (List.mem_of_getElem? (i := 5) rfl) rfl
theorem wm_X6_305 : Cond.methodLink RX6 305 yX6_rowItem ∈ TB := TB_6 (List.mem_of_getElem? (i := 6) rfl) rfl
theorem wp_X6_rowItem : Cond.privateMethod yX6_rowItem ∈ lw_tbl := TT_6 (List.mem_of_getElem? (i := 7) rfl)
theorem wi_X6_rowItem : Cond.instanceMethod yX6_rowItem ∈ TB := TB_6 (List.mem_of_getElem? (i := 8) rfl) rfl
theorem wc_X6_rowItem : Cond.code yX6_rowItem cX6_rowItem 5 none ∈ TB := TB_6 (List.mem_of_getElem? (i := 9) rfl) rfl
theorem wk_X6_308 : Cond.constantLong RX6 308 (536622) ∈ TB := TB_6 (List.mem_of_getElem? (i := 10) rfl) rfl
theorem wk_X6_310 : Cond.constantLong RX6 310 (658670745) ∈ TB := TB_6 (List.mem_of_getElem? (i := 11) rfl) rfl
theorem wm_X6_318 : Cond.methodLink RX6 318 yX6_putsBack ∈ TB := TB_6 (List.mem_of_getElem? (i := 12) rfl) rfl
theorem wp_X6_putsBack : Cond.privateMethod yX6_putsBack ∈ lw_tbl := TT_6 (List.mem_of_getElem? (i := 13) rfl)
theorem wi_X6_putsBack : Cond.instanceMethod yX6_putsBack ∈ TB := TB_6 (List.mem_of_getElem? (i := 14) rfl) rfl
theorem wc_X6_putsBack : Cond.code yX6_putsBack cX6_putsBack 2 none ∈ TB := TB_6 (List.mem_of_getElem? (i := 15) rfl) rfl
theorem wm_L_157 : Cond.methodLink RL 157 yX6_hold ∈ TB := TB_6 (List.mem_of_getElem? (i := 16) rfl) rfl
theorem wi_X6_hold : Cond.instanceMethod yX6_hold ∈ TB := TB_6 (List.mem_of_getElem? (i := 17) rfl) rfl
theorem wsel_X6_hold : Cond.selects RX6 yX6_hold yX6_hold ∈ TB := TB_6 (List.mem_of_getElem? (i := 18) rfl) rfl
theorem wc_X6_hold : Cond.code yX6_hold cX6_hold 3 (some .int) ∈ TB := TB_6 (List.mem_of_getElem? (i := 19) rfl) rfl
theorem wm_X6_323 : Cond.methodLink RX6 323 yX6_isSpot ∈ TB := TB_6 (List.mem_of_getElem? (i := 20) rfl) rfl
theorem wst_X6_isSpot : Cond.static yX6_isSpot ∈ TB := TB_6 (List.mem_of_getElem? (i := 21) rfl) rfl
theorem wc_X6_isSpot : Cond.code yX6_isSpot cX6_isSpot 1 (some .boolean) ∈ TB := TB_6 (List.mem_of_getElem? (i := 22) rfl) rfl
theorem wk_X6_321 : Cond.constantLong RX6 321 (9) ∈ TB := TB_6 (List.mem_of_getElem? (i := 23) rfl) rfl
theorem wm_L_161 : Cond.methodLink RL 161 yX6_as ∈ TB := TB_6 (List.mem_of_getElem? (i := 24) rfl) rfl
theorem wi_X6_as : Cond.instanceMethod yX6_as ∈ TB := TB_6 (List.mem_of_getElem? (i := 25) rfl) rfl
theorem wsel_X6_as : Cond.selects RX6 yX6_as yX6_as ∈ TB := TB_6 (List.mem_of_getElem? (i := 26) rfl) rfl
theorem wc_X6_as : Cond.code yX6_as cX6_as 5 (some .int) ∈ TB := TB_6 (List.mem_of_getElem? (i := 27) rfl) rfl
theorem wm_X6_327 : Cond.methodLink RX6 327 yX6_above ∈ TB := TB_6 (List.mem_of_getElem? (i := 28) rfl) rfl
theorem wst_X6_above : Cond.static yX6_above ∈ TB := TB_6 (List.mem_of_getElem? (i := 29) rfl) rfl
theorem wc_X6_above : Cond.code yX6_above cX6_above 1 (some .int) ∈ TB := TB_6 (List.mem_of_getElem? (i := 30) rfl) rfl
theorem wk_X6_330 : Cond.constant RX6 330 (-1000003) ∈ TB := TB_6 (List.mem_of_getElem? (i := 31) rfl) rfl
theorem wm_L_165 : Cond.methodLink RL 165 yX6_sheet ∈ TB := TB_6 (List.mem_of_getElem? (i := 32) rfl) rfl
theorem wi_X6_sheet : Cond.instanceMethod yX6_sheet ∈ TB := TB_6 (List.mem_of_getElem? (i := 33) rfl) rfl
theorem wsel_X6_sheet : Cond.selects RX6 yX6_sheet yX6_sheet ∈ TB := TB_6 (List.mem_of_getElem? (i := 34) rfl) rfl
theorem wc_X6_sheet : Cond.code yX6_sheet cX6_sheet 5 (some .int) ∈ TB := TB_6 (List.mem_of_getElem? (i := 35) rfl) rfl
theorem wk_X6_334 : Cond.constant RX6 334 (-1000007) ∈ TB := TB_6 (List.mem_of_getElem? (i := 36) rfl) rfl
theorem wm_L_169 : Cond.methodLink RL 169 yX6_write ∈ TB := TB_6 (List.mem_of_getElem? (i := 37) rfl) rfl
theorem wi_X6_write : Cond.instanceMethod yX6_write ∈ TB := TB_6 (List.mem_of_getElem? (i := 38) rfl) rfl
theorem wsel_X6_write : Cond.selects RX6 yX6_write yX6_write ∈ TB := TB_6 (List.mem_of_getElem? (i := 39) rfl) rfl
theorem wc_X6_write : Cond.code yX6_write cX6_write 5 (some .int) ∈ TB := TB_6 (List.mem_of_getElem? (i := 40) rfl) rfl
theorem wm_X6_335 : Cond.methodLink RX6 335 yX6_narrowed ∈ TB := TB_6 (List.mem_of_getElem? (i := 41) rfl) rfl
theorem wst_X6_narrowed : Cond.static yX6_narrowed ∈ TB := TB_6 (List.mem_of_getElem? (i := 42) rfl) rfl
theorem wc_X6_narrowed : Cond.code yX6_narrowed cX6_narrowed 2 (some .int) ∈ TB := TB_6 (List.mem_of_getElem? (i := 43) rfl) rfl
theorem wm_L_174 : Cond.methodLink RL 174 yX6_copy ∈ TB := TB_6 (List.mem_of_getElem? (i := 44) rfl) rfl
theorem wi_X6_copy : Cond.instanceMethod yX6_copy ∈ TB := TB_6 (List.mem_of_getElem? (i := 45) rfl) rfl
theorem wsel_X6_copy : Cond.selects RX6 yX6_copy yX6_copy ∈ TB := TB_6 (List.mem_of_getElem? (i := 46) rfl) rfl
theorem wc_X6_copy : Cond.code yX6_copy cX6_copy 7 (some .int) ∈ TB := TB_6 (List.mem_of_getElem? (i := 47) rfl) rfl
theorem wm_L_178 : Cond.methodLink RL 178 yX6_load ∈ TB := TB_6 (List.mem_of_getElem? (i := 48) rfl) rfl
theorem wi_X6_load : Cond.instanceMethod yX6_load ∈ TB := TB_6 (List.mem_of_getElem? (i := 49) rfl) rfl
theorem wsel_X6_load : Cond.selects RX6 yX6_load yX6_load ∈ TB := TB_6 (List.mem_of_getElem? (i := 50) rfl) rfl
theorem wc_X6_load : Cond.code yX6_load cX6_load 4 (some .int) ∈ TB := TB_6 (List.mem_of_getElem? (i := 51) rfl) rfl
theorem wm_L_182 : Cond.methodLink RL 182 yX6_judge ∈ TB := TB_6 (List.mem_of_getElem? (i := 52) rfl) rfl
theorem wi_X6_judge : Cond.instanceMethod yX6_judge ∈ TB := TB_6 (List.mem_of_getElem? (i := 53) rfl) rfl
theorem wsel_X6_judge : Cond.selects RX6 yX6_judge yX6_judge ∈ TB := TB_6 (List.mem_of_getElem? (i := 54) rfl) rfl
theorem wc_X6_judge : Cond.code yX6_judge cX6_judge 4 (some .int) ∈ TB := TB_6 (List.mem_of_getElem? (i := 55) rfl) rfl
theorem wm_L_186 : Cond.methodLink RL 186 yX6_image ∈ TB := TB_6 (List.mem_of_getElem? (i := 56) rfl) rfl
theorem wi_X6_image : Cond.instanceMethod yX6_image ∈ TB := TB_6 (List.mem_of_getElem? (i := 57) rfl) rfl
theorem wsel_X6_image : Cond.selects RX6 yX6_image yX6_image ∈ TB := TB_6 (List.mem_of_getElem? (i := 58) rfl) rfl
theorem wc_X6_image : Cond.code yX6_image cX6_image 2 (some .int) ∈ TB := TB_6 (List.mem_of_getElem? (i := 59) rfl) rfl
theorem wm_L_190 : Cond.methodLink RL 190 yX6_undo ∈ TB := TB_6 (List.mem_of_getElem? (i := 60) rfl) rfl
theorem wi_X6_undo : Cond.instanceMethod yX6_undo ∈ TB := TB_6 (List.mem_of_getElem? (i := 61) rfl) rfl
theorem wsel_X6_undo : Cond.selects RX6 yX6_undo yX6_undo ∈ TB := TB_6 (List.mem_of_getElem? (i := 62) rfl) rfl
theorem wc_X6_undo : Cond.code yX6_undo cX6_undo 2 (some .int) ∈ TB := TB_6 (List.mem_of_getElem? (i := 63) rfl) rfl
theorem wm_L_194 : Cond.methodLink RL 194 yX6_tear ∈ TB := TB_6 (List.mem_of_getElem? (i := 64) rfl) rfl
theorem wi_X6_tear : Cond.instanceMethod yX6_tear ∈ TB := TB_6 (List.mem_of_getElem? (i := 65) rfl) rfl
theorem wsel_X6_tear : Cond.selects RX6 yX6_tear yX6_tear ∈ TB := TB_6 (List.mem_of_getElem? (i := 66) rfl) rfl
theorem wc_X6_tear : Cond.code yX6_tear cX6_tear 2 (some .int) ∈ TB := TB_6 (List.mem_of_getElem? (i := 67) rfl) rfl
theorem wm_L_198 : Cond.methodLink RL 198 yX6_count ∈ TB := TB_6 (List.mem_of_getElem? (i := 68) rfl) rfl
theorem wi_X6_count : Cond.instanceMethod yX6_count ∈ TB := TB_6 (List.mem_of_getElem? (i := 69) rfl) rfl
theorem wsel_X6_count : Cond.selects RX6 yX6_count yX6_count ∈ TB := TB_6 (List.mem_of_getElem? (i := 70) rfl) rfl
theorem wc_X6_count : Cond.code yX6_count cX6_count 2 (some .int) ∈ TB := TB_6 (List.mem_of_getElem? (i := 71) rfl) rfl
theorem wm_X6_341 : Cond.methodLink RX6 341 yX6_heldSpots ∈ TB := TB_6 (List.mem_of_getElem? (i := 72) rfl) rfl
theorem wp_X6_heldSpots : Cond.privateMethod yX6_heldSpots ∈ lw_tbl := TT_6 (List.mem_of_getElem? (i := 73) rfl)
theorem wi_X6_heldSpots : Cond.instanceMethod yX6_heldSpots ∈ TB := TB_6 (List.mem_of_getElem? (i := 74) rfl) rfl
theorem wc_X6_heldSpots : Cond.code yX6_heldSpots cX6_heldSpots 3 (some .int) ∈ TB := TB_6 (List.mem_of_getElem? (i := 75) rfl) rfl
theorem wm_L_202 : Cond.methodLink RL 202 yX6_status ∈ TB := TB_6 (List.mem_of_getElem? (i := 76) rfl) rfl
theorem wi_X6_status : Cond.instanceMethod yX6_status ∈ TB := TB_6 (List.mem_of_getElem? (i := 77) rfl) rfl
theorem wsel_X6_status : Cond.selects RX6 yX6_status yX6_status ∈ TB := TB_6 (List.mem_of_getElem? (i := 78) rfl) rfl
theorem wc_X6_status : Cond.code yX6_status cX6_status 4 (some .int) ∈ TB := TB_6 (List.mem_of_getElem? (i := 79) rfl) rfl
theorem wk_X6_344 : Cond.constantLong RX6 344 (-1) ∈ TB := TB_6 (List.mem_of_getElem? (i := 80) rfl) rfl
theorem wf_J0_9 : Cond.fieldLink RJ0 9 "java/lang/String" "value" "[B" ∈ TB := TB_6 (List.mem_of_getElem? (i := 81) rfl) rfl
theorem wf_J0_15 : Cond.fieldLink RJ0 15 "java/lang/String" "coder" "B" ∈ TB := TB_6 (List.mem_of_getElem? (i := 82) rfl) rfl
theorem wsel_X5_finding : Cond.selects RX5 yX5_finding yX5_finding ∈ TB := TB_sel (List.mem_of_getElem? (i := 0) rfl) rfl
theorem wsel_X5_noWatcher : Cond.selects RX5 yX5_noWatcher yX5_noWatcher ∈ TB := TB_sel (List.mem_of_getElem? (i := 1) rfl) rfl
theorem wsel_X3_millBears : Cond.selects RX3 yX3_millBears yX3_millBears ∈ TB := TB_sel (List.mem_of_getElem? (i := 2) rfl) rfl
theorem wsel_X2_liveAll : Cond.selects RX2 yX2_liveAll yX2_liveAll ∈ TB := TB_sel (List.mem_of_getElem? (i := 3) rfl) rfl
theorem wsel_X5_waterTried : Cond.selects RX5 yX5_waterTried yX5_waterTried ∈ TB := TB_sel (List.mem_of_getElem? (i := 4) rfl) rfl
theorem wsel_X5_isEnough : Cond.selects RX5 yX5_isEnough yX5_isEnough ∈ TB := TB_sel (List.mem_of_getElem? (i := 5) rfl) rfl
theorem wsel_X5_noTrial : Cond.selects RX5 yX5_noTrial yX5_noTrial ∈ TB := TB_sel (List.mem_of_getElem? (i := 6) rfl) rfl
theorem wsel_X5_mostBelieving : Cond.selects RX5 yX5_mostBelieving yX5_mostBelieving ∈ TB := TB_sel (List.mem_of_getElem? (i := 7) rfl) rfl
theorem wsel_X5_stir : Cond.selects RX5 yX5_stir yX5_stir ∈ TB := TB_sel (List.mem_of_getElem? (i := 8) rfl) rfl
theorem wsel_X5_fittingTrouble : Cond.selects RX5 yX5_fittingTrouble yX5_fittingTrouble ∈ TB := TB_sel (List.mem_of_getElem? (i := 9) rfl) rfl
theorem wsel_X5_sheetTrouble : Cond.selects RX5 yX5_sheetTrouble yX5_sheetTrouble ∈ TB := TB_sel (List.mem_of_getElem? (i := 10) rfl) rfl
theorem wsel_X5_couldBeOpened : Cond.selects RX5 yX5_couldBeOpened yX5_couldBeOpened ∈ TB := TB_sel (List.mem_of_getElem? (i := 11) rfl) rfl
theorem wsel_X5_couldBeOfKind : Cond.selects RX5 yX5_couldBeOfKind yX5_couldBeOfKind ∈ TB := TB_sel (List.mem_of_getElem? (i := 12) rfl) rfl
theorem wsel_X0_advance : Cond.selects RX0 yX0_advance yX0_advance ∈ TB := TB_sel (List.mem_of_getElem? (i := 13) rfl) rfl
theorem wsel_X0_readItem : Cond.selects RX0 yX0_readItem yX0_readItem ∈ TB := TB_sel (List.mem_of_getElem? (i := 14) rfl) rfl
theorem wsel_X0_kindNamed : Cond.selects RX0 yX0_kindNamed yX0_kindNamed ∈ TB := TB_sel (List.mem_of_getElem? (i := 15) rfl) rfl
theorem wsel_X0_isWord : Cond.selects RX0 yX0_isWord yX0_isWord ∈ TB := TB_sel (List.mem_of_getElem? (i := 16) rfl) rfl
theorem wsel_X0_readWatcher : Cond.selects RX0 yX0_readWatcher yX0_readWatcher ∈ TB := TB_sel (List.mem_of_getElem? (i := 17) rfl) rfl
theorem wsel_X0_faultHere : Cond.selects RX0 yX0_faultHere yX0_faultHere ∈ TB := TB_sel (List.mem_of_getElem? (i := 18) rfl) rfl
theorem wsel_X0_takes : Cond.selects RX0 yX0_takes yX0_takes ∈ TB := TB_sel (List.mem_of_getElem? (i := 19) rfl) rfl
theorem wsel_X0_takeNumber : Cond.selects RX0 yX0_takeNumber yX0_takeNumber ∈ TB := TB_sel (List.mem_of_getElem? (i := 20) rfl) rfl
theorem wsel_X0_numberHere : Cond.selects RX0 yX0_numberHere yX0_numberHere ∈ TB := TB_sel (List.mem_of_getElem? (i := 21) rfl) rfl
theorem wsel_X0_readInto : Cond.selects RX0 yX0_readInto yX0_readInto ∈ TB := TB_sel (List.mem_of_getElem? (i := 22) rfl) rfl
theorem wsel_X0_readSteady : Cond.selects RX0 yX0_readSteady yX0_readSteady ∈ TB := TB_sel (List.mem_of_getElem? (i := 23) rfl) rfl
theorem wsel_X6_becomes : Cond.selects RX6 yX6_becomes yX6_becomes ∈ TB := TB_sel (List.mem_of_getElem? (i := 24) rfl) rfl
theorem wsel_X6_finds : Cond.selects RX6 yX6_finds yX6_finds ∈ TB := TB_sel (List.mem_of_getElem? (i := 25) rfl) rfl
theorem wsel_X6_openings : Cond.selects RX6 yX6_openings yX6_openings ∈ TB := TB_sel (List.mem_of_getElem? (i := 26) rfl) rfl
theorem wsel_X6_opensAll : Cond.selects RX6 yX6_opensAll yX6_opensAll ∈ TB := TB_sel (List.mem_of_getElem? (i := 27) rfl) rfl
theorem wsel_X6_adds : Cond.selects RX6 yX6_adds yX6_adds ∈ TB := TB_sel (List.mem_of_getElem? (i := 28) rfl) rfl
theorem wsel_X6_isWatcher : Cond.selects RX6 yX6_isWatcher yX6_isWatcher ∈ TB := TB_sel (List.mem_of_getElem? (i := 29) rfl) rfl
theorem wsel_X6_its : Cond.selects RX6 yX6_its yX6_its ∈ TB := TB_sel (List.mem_of_getElem? (i := 30) rfl) rfl
theorem wsel_X6_bears : Cond.selects RX6 yX6_bears yX6_bears ∈ TB := TB_sel (List.mem_of_getElem? (i := 31) rfl) rfl
theorem wsel_X6_doubts : Cond.selects RX6 yX6_doubts yX6_doubts ∈ TB := TB_sel (List.mem_of_getElem? (i := 32) rfl) rfl
theorem wsel_X6_trusts : Cond.selects RX6 yX6_trusts yX6_trusts ∈ TB := TB_sel (List.mem_of_getElem? (i := 33) rfl) rfl
theorem wsel_X6_goesOn : Cond.selects RX6 yX6_goesOn yX6_goesOn ∈ TB := TB_sel (List.mem_of_getElem? (i := 34) rfl) rfl
theorem wsel_X6_hour : Cond.selects RX6 yX6_hour yX6_hour ∈ TB := TB_sel (List.mem_of_getElem? (i := 35) rfl) rfl
theorem wsel_X6_flows : Cond.selects RX6 yX6_flows yX6_flows ∈ TB := TB_sel (List.mem_of_getElem? (i := 36) rfl) rfl
theorem wsel_X6_sees : Cond.selects RX6 yX6_sees yX6_sees ∈ TB := TB_sel (List.mem_of_getElem? (i := 37) rfl) rfl
theorem wsel_X6_there : Cond.selects RX6 yX6_there yX6_there ∈ TB := TB_sel (List.mem_of_getElem? (i := 38) rfl) rfl
theorem wsel_X6_knowing : Cond.selects RX6 yX6_knowing yX6_knowing ∈ TB := TB_sel (List.mem_of_getElem? (i := 39) rfl) rfl
theorem wsel_X6_levels : Cond.selects RX6 yX6_levels yX6_levels ∈ TB := TB_sel (List.mem_of_getElem? (i := 40) rfl) rfl
theorem wsel_X6_wanting : Cond.selects RX6 yX6_wanting yX6_wanting ∈ TB := TB_sel (List.mem_of_getElem? (i := 41) rfl) rfl
theorem wsel_X6_beliefs : Cond.selects RX6 yX6_beliefs yX6_beliefs ∈ TB := TB_sel (List.mem_of_getElem? (i := 42) rfl) rfl
theorem wsel_X6_behind : Cond.selects RX6 yX6_behind yX6_behind ∈ TB := TB_sel (List.mem_of_getElem? (i := 43) rfl) rfl
theorem wsel_X6_laysAside : Cond.selects RX6 yX6_laysAside yX6_laysAside ∈ TB := TB_sel (List.mem_of_getElem? (i := 44) rfl) rfl
theorem wsel_X6_takesBack : Cond.selects RX6 yX6_takesBack yX6_takesBack ∈ TB := TB_sel (List.mem_of_getElem? (i := 45) rfl) rfl
theorem wsel_X6_until : Cond.selects RX6 yX6_until yX6_until ∈ TB := TB_sel (List.mem_of_getElem? (i := 46) rfl) rfl
theorem wsel_X6_orNone : Cond.selects RX6 yX6_orNone yX6_orNone ∈ TB := TB_sel (List.mem_of_getElem? (i := 47) rfl) rfl
theorem wsel_X6_leastOf : Cond.selects RX6 yX6_leastOf yX6_leastOf ∈ TB := TB_sel (List.mem_of_getElem? (i := 48) rfl) rfl
theorem wsel_X6_mostBelief : Cond.selects RX6 yX6_mostBelief yX6_mostBelief ∈ TB := TB_sel (List.mem_of_getElem? (i := 49) rfl) rfl
theorem wsel_X6_wrongOpened : Cond.selects RX6 yX6_wrongOpened yX6_wrongOpened ∈ TB := TB_sel (List.mem_of_getElem? (i := 50) rfl) rfl
theorem wsel_X6_wrong : Cond.selects RX6 yX6_wrong yX6_wrong ∈ TB := TB_sel (List.mem_of_getElem? (i := 51) rfl) rfl
theorem wsel_X6_findOpened : Cond.selects RX6 yX6_findOpened yX6_findOpened ∈ TB := TB_sel (List.mem_of_getElem? (i := 52) rfl) rfl
theorem wsel_X6_isTold : Cond.selects RX6 yX6_isTold yX6_isTold ∈ TB := TB_sel (List.mem_of_getElem? (i := 53) rfl) rfl
theorem wsel_X6_draw : Cond.selects RX6 yX6_draw yX6_draw ∈ TB := TB_sel (List.mem_of_getElem? (i := 54) rfl) rfl
theorem wsel_X6_saves : Cond.selects RX6 yX6_saves yX6_saves ∈ TB := TB_sel (List.mem_of_getElem? (i := 55) rfl) rfl
theorem wsel_X6_token : Cond.selects RX6 yX6_token yX6_token ∈ TB := TB_sel (List.mem_of_getElem? (i := 56) rfl) rfl
theorem wsel_X6_byteAt : Cond.selects RX6 yX6_byteAt yX6_byteAt ∈ TB := TB_sel (List.mem_of_getElem? (i := 57) rfl) rfl
theorem wsel_X6_item : Cond.selects RX6 yX6_item yX6_item ∈ TB := TB_sel (List.mem_of_getElem? (i := 58) rfl) rfl
theorem wsel_X6_kindHere : Cond.selects RX6 yX6_kindHere yX6_kindHere ∈ TB := TB_sel (List.mem_of_getElem? (i := 59) rfl) rfl
theorem wsel_X6_word : Cond.selects RX6 yX6_word yX6_word ∈ TB := TB_sel (List.mem_of_getElem? (i := 60) rfl) rfl
theorem wsel_X6_watcherItem : Cond.selects RX6 yX6_watcherItem yX6_watcherItem ∈ TB := TB_sel (List.mem_of_getElem? (i := 61) rfl) rfl
theorem wsel_X6_must : Cond.selects RX6 yX6_must yX6_must ∈ TB := TB_sel (List.mem_of_getElem? (i := 62) rfl) rfl
theorem wsel_X6_perhaps : Cond.selects RX6 yX6_perhaps yX6_perhaps ∈ TB := TB_sel (List.mem_of_getElem? (i := 63) rfl) rfl
theorem wsel_X6_number : Cond.selects RX6 yX6_number yX6_number ∈ TB := TB_sel (List.mem_of_getElem? (i := 64) rfl) rfl
theorem wsel_X6_rowItem : Cond.selects RX6 yX6_rowItem yX6_rowItem ∈ TB := TB_sel (List.mem_of_getElem? (i := 65) rfl) rfl
theorem wsel_X6_putsBack : Cond.selects RX6 yX6_putsBack yX6_putsBack ∈ TB := TB_sel (List.mem_of_getElem? (i := 66) rfl) rfl
theorem wsel_X6_heldSpots : Cond.selects RX6 yX6_heldSpots yX6_heldSpots ∈ TB := TB_sel (List.mem_of_getElem? (i := 67) rfl) rfl
theorem inw_X0 : ∀ w ∈ u_ws RX0 TX0 6, w ∈ TB := List.forall_mem_cons.mpr ⟨wl_X0_tape, List.forall_mem_cons.mpr ⟨wl_X0_length, List.forall_mem_cons.mpr ⟨wl_X0_fault, List.forall_mem_cons.mpr ⟨wl_X0_token, List.forall_mem_cons.mpr ⟨wl_X0_start, List.forall_mem_cons.mpr ⟨wl_X0_end, fun _ h => absurd h List.not_mem_nil⟩⟩⟩⟩⟩⟩
theorem inw_X1 : ∀ w ∈ u_ws RX1 TX1 3, w ∈ TB := List.forall_mem_cons.mpr ⟨wl_X1_numbers, List.forall_mem_cons.mpr ⟨wl_X1_bits, List.forall_mem_cons.mpr ⟨wl_X1_size, fun _ h => absurd h List.not_mem_nil⟩⟩⟩
theorem inw_X2 : ∀ w ∈ u_ws RX2 TX2 5, w ∈ TB := List.forall_mem_cons.mpr ⟨wl_X2_water, List.forall_mem_cons.mpr ⟨wl_X2_watchers, List.forall_mem_cons.mpr ⟨wl_X2_spots, List.forall_mem_cons.mpr ⟨wl_X2_settled, List.forall_mem_cons.mpr ⟨wl_X2_z, fun _ h => absurd h List.not_mem_nil⟩⟩⟩⟩⟩
theorem inw_X3 : ∀ w ∈ u_ws RX3 TX3 5, w ∈ TB := List.forall_mem_cons.mpr ⟨wl_X3_kind, List.forall_mem_cons.mpr ⟨wl_X3_cell, List.forall_mem_cons.mpr ⟨wl_X3_want, List.forall_mem_cons.mpr ⟨wl_X3_belief, List.forall_mem_cons.mpr ⟨wl_X3_thirst, fun _ h => absurd h List.not_mem_nil⟩⟩⟩⟩⟩
theorem inw_X4 : ∀ w ∈ u_ws RX4 TX4 5, w ∈ TB := List.forall_mem_cons.mpr ⟨wl_X4_levels, List.forall_mem_cons.mpr ⟨wl_X4_before, List.forall_mem_cons.mpr ⟨wl_X4_openings, List.forall_mem_cons.mpr ⟨wl_X4_sea, List.forall_mem_cons.mpr ⟨wl_X4_hour, fun _ h => absurd h List.not_mem_nil⟩⟩⟩⟩⟩
theorem inw_X5 : ∀ w ∈ u_ws RX5 TX5 9, w ∈ TB := List.forall_mem_cons.mpr ⟨wl_X5_valley, List.forall_mem_cons.mpr ⟨wl_X5_kept, List.forall_mem_cons.mpr ⟨wl_X5_trial, List.forall_mem_cons.mpr ⟨wl_X5_asleep, List.forall_mem_cons.mpr ⟨wl_X5_stirred, List.forall_mem_cons.mpr ⟨wl_X5_sheets, List.forall_mem_cons.mpr ⟨wl_X5_reader, List.forall_mem_cons.mpr ⟨wl_X5_findings, List.forall_mem_cons.mpr ⟨wl_X5_isKept, fun _ h => absurd h List.not_mem_nil⟩⟩⟩⟩⟩⟩⟩⟩⟩
theorem inw_X6 : ∀ w ∈ u_ws RX6 TX6 22, w ∈ TB := List.forall_mem_cons.mpr ⟨wl_X6_s, List.forall_mem_cons.mpr ⟨wl_X6_keptS, List.forall_mem_cons.mpr ⟨wl_X6_other, List.forall_mem_cons.mpr ⟨wl_X6_aside, List.forall_mem_cons.mpr ⟨wl_X6_statuses, List.forall_mem_cons.mpr ⟨wl_X6_isKept, List.forall_mem_cons.mpr ⟨wl_X6_isShut, List.forall_mem_cons.mpr ⟨wl_X6_was, List.forall_mem_cons.mpr ⟨wl_X6_greatest, List.forall_mem_cons.mpr ⟨wl_X6_changes, List.forall_mem_cons.mpr ⟨wl_X6_leastOpened, List.forall_mem_cons.mpr ⟨wl_X6_manyOpened, List.forall_mem_cons.mpr ⟨wl_X6_tape, List.forall_mem_cons.mpr ⟨wl_X6_taped, List.forall_mem_cons.mpr ⟨wl_X6_from, List.forall_mem_cons.mpr ⟨wl_X6_to, List.forall_mem_cons.mpr ⟨wl_X6_value, List.forall_mem_cons.mpr ⟨wl_X6_isWrong, List.forall_mem_cons.mpr ⟨wl_X6_bitsOf, List.forall_mem_cons.mpr ⟨wl_X6_sizeOf, List.forall_mem_cons.mpr ⟨wl_X6_numbers, List.forall_mem_cons.mpr ⟨wl_X6_moved, fun _ h => absurd h List.not_mem_nil⟩⟩⟩⟩⟩⟩⟩⟩⟩⟩⟩⟩⟩⟩⟩⟩⟩⟩⟩⟩⟩⟩
end
section
def NW (U : State) : Prop := va_Nw (.methodLinkNest RX4 46 yX5_together "ValveRiver") U ∧ True
theorem NW.warm {s U : State} (hW : s.WarmedH U.vm) (h : NW s) : NW U := ⟨va_Nw.warmM hW h.1, trivial⟩
theorem NW.same {s U : State} (hv : s.vm = U.vm) (h : NW s) : NW U := ⟨va_Nw.same rfl hv h.1, trivial⟩
def nStr : Nat := 13
def lenStr : List Nat := [4, 4, 9, 7, 4, 6, 7, 2, 5, 8, 5, 4, 6]
def bytStr : List (List Int32) := [[109, 105, 108, 108], [112, 111, 101, 116], [112, 114, 111, 102, 101, 115, 115, 111, 114], [100, 111, 117, 98, 116, 101, 114], [102, 105, 115, 104], [98, 114, 105, 100, 103, 101], [119, 97, 116, 99, 104, 101, 114], [97, 116], [119, 97, 110, 116, 115], [98, 101, 108, 105, 101, 118, 101, 115], [108, 101, 118, 101, 108], [112, 108, 97, 110], [115, 116, 101, 97, 100, 121]]
def idxStr : List (Nat × String) := [(128, "mill"), (130, "poet"), (132, "professor"), (134, "doubter"), (136, "fish"), (138, "bridge"), (140, "watcher"), (96, "at"), (107, "wants"), (112, "believes"), (53, "level"), (74, "plan"), (79, "steady")]
def ownStr : String := RX0
end
section
/-! ===== our own world: cells by number, a memory of ints, references fixed by the shapes ===== -/
abbrev Mem : Type := Nat → Nat → Int32
abbrev CY : Type := ClassId × ClassId × ClassId
abbrev GG : Type := va_G × CY × (Nat → Nat) × (Nat → Nat)
def mst (σ : Mem) (c k : Nat) (v : Int32) : Mem := fun c' => if c' = c then upd (σ c) k v else σ c'
def mcp (σ : Mem) (c : Nat) (g : Nat → Int32) : Mem := fun c' => if c' = c then g else σ c'
/-- the contents of cell c of kind k: 0..6 objects of the classes, 50, 51 rows of references, 100 + n a row of n ints -/
def mkE (y : CY) (a : Nat → Nat) (k c : Nat) (f : Nat → Int32) : va_E :=
  if k = 0 then .inr (0, [.ref (a (c + 1)), .int (f 1), .int (f 2), .int (f 3), .int (f 4), .int (f 5)])
  else if k = 1 then .inr (1, [.ref (a (c + 1)), .int (f 1), .int (f 2)])
  else if k = 2 then .inr (2, [.ref (a (c + 1)), .ref (a (c + 5)), .ref (a (c + 6)), .int (f 3), .int (f 4)])
  else if k = 3 then .inr (3, [.int (f 0), .int (f 1), .int (f 2), .int (f 3), .int (f 4)])
  else if k = 4 then .inr (4, [.ref (a (c + 1)), .ref (a (c + 2)), .ref (a (c + 3)), .int (f 3), .int (f 4)])
  else if k = 5 then .inr (5, [.ref (a (c + 1)), .ref (a (c + 16)), .ref (a (c + 31)), .ref (a (c + 46)), .ref (a (c + 61)), .ref (a (c + 62)), .ref (a (c + 71)), .ref (a (c + 73)), .int (f 8)])
  else if k = 6 then .inr (6, [.ref (a (c + 1)), .ref (a (c + 2)), .ref (a (c + 3)), .ref (a (c + 4)), .ref (a (c + 5)), .int (f 5), .int (f 6), .ref (a (c + 6)), .int (f 8), .ref (a (c + 7)), .int (f 10), .int (f 11), .ref (a (c + 8)), .int (f 13), .int (f 14), .int (f 15), .int (f 16), .int (f 17), .ref (a (c + 9)), .ref (a (c + 10)), .ref (a (c + 11)), .ref (a (c + 12))])
  else if k = 50 then .inl (y.2.1, 8, .inr (.inr (.inr (.inr (fun i => some (a (c + 2 + i)))))))
  else if k = 51 then .inl (y.2.2, 4, .inr (.inr (.inr (.inr (fun i => some (a (c + 1 + 2 * i)))))))
  else .inl (y.1, k - 100, .inl f)
def WL (kd : Nat → Nat) (n : Nat) (y : CY) (a : Nat → Nat) (σ : Mem) : va_W := (List.range n).map (fun c => (a c, mkE y a (kd c) c (σ c)))
def TY (y : CY) : List (ClassId × FieldType) := [(y.1, .int), (y.2.1, .object "ValveRiver$Watcher"), (y.2.2, .object "ValveRiver$Sheet")]
def AW (n : Nat) (a : Nat → Nat) : Nat → Prop := fun q => ∃ i, i < n ∧ q = a i
def HP (G : GG) (kd : Nat → Nat) (n : Nat) (a : Nat → Nat) (σ : Mem) (H : Heap) : Prop := va_P G.1 vwCl (WL kd n G.2.1 a σ) H
def INJ (n : Nat) (a : Nat → Nat) : Prop := ∀ i j, i < n → j < n → a i = a j → i = j
/-- what stays as it is: the tables, the nest links, the texts -/
def XS (G : GG) (n : Nat) (a : Nat → Nat) (U : State) : Prop := va_K G.1 vwCl (TY G.2.1) U ∧ NW U ∧ vk_S nStr lenStr bytStr G.2.2.1 G.2.2.2 (AW n a) U U.heap ∧ ∀ (i : Nat) (q : Nat × String), idxStr[i]? = some q → vk_R ownStr q.1 q.2 (G.2.2.1 i) U
theorem XS.at {G : GG} {n : Nat} {a : Nat → Nat} {s U : State} {H : Heap} {locs : List Loc} (h : XS G n a s) (hS : va_S (AW n a) s.heap H locs) (hU : U.heap = H) (hW : s.WarmedH U.vm) : XS G n a U := by
  refine ⟨va_K.moved hW.alike h.1, h.2.1.warm hW, ?_, fun i q hq => (h.2.2.2 i q hq).warm hW⟩
  rw [hU]
  exact (h.2.2.1.moved hW.alike).kept (fun q h1 h2 => hS.2.1 q h1 h2)
theorem XS.calling {G : GG} {n : Nat} {a : Nat → Nat} {U : State} (g : JFrame) (mk : MethodId) (v : Array Value) (h : XS G n a U) : XS G n a (U.calling g mk v) :=
  ⟨va_K.moved (u := U) (U := U.calling g mk v) (Vm.Alike.refl U.vm) h.1, NW.same (s := U) (U := U.calling g mk v) rfl h.2.1, vk_S.moved (u := U) (U := U.calling g mk v) (Vm.Alike.refl U.vm) h.2.2.1, fun i q hq => vk_R.same (u := U) (U := U.calling g mk v) rfl (h.2.2.2 i q hq)⟩
def CT (p : Program) (s : State) (args : Array Value) (m : MethodId) (own : String) (G : GG) (kd : Nat → Nat) (n : Nat) (a : Nat → Nat) : Prop :=
  p.tables.exec = Jvm.exec ∧ (∀ w ∈ TB, w.before args s = true) ∧ s.vm.findClass own = some m.cls ∧ XS G n a s ∧ INJ n a ∧ (∀ o, kd o < 900 → o < n)
theorem WL_at {kd : Nat → Nat} {n : Nat} {y : CY} {a : Nat → Nat} {σ : Mem} {c : Nat} (h : c < n) : (WL kd n y a σ)[c]? = some (a c, mkE y a (kd c) c (σ c)) := by
  simp [WL, h]
theorem WL_at' {kd : Nat → Nat} {n : Nat} {y : CY} {a : Nat → Nat} {σ : Mem} {c : Nat} {q : Nat × va_E} (h : (WL kd n y a σ)[c]? = some q) : c < n ∧ q = (a c, mkE y a (kd c) c (σ c)) := by
  have hl : c < n := by
    have := (List.getElem?_eq_some_iff.mp h).1
    simpa [WL] using this
  rw [WL_at hl] at h
  exact ⟨hl, (Option.some.inj h).symm⟩
theorem WL_D {A : Nat → Prop} {kd : Nat → Nat} {n : Nat} {y : CY} {a : Nat → Nat} {σ : Mem} (hj : INJ n a) (hA : ∀ i, i < n → A (a i)) : va_D A (WL kd n y a σ) := by
  refine ⟨fun i j p q h1 h2 e => ?_, fun k q h => ?_⟩
  · obtain ⟨l1, rfl⟩ := WL_at' h1
    obtain ⟨l2, rfl⟩ := WL_at' h2
    exact hj i j l1 l2 e
  · obtain ⟨l1, rfl⟩ := WL_at' h
    exact hA k l1
theorem AW_in {n i : Nat} {a : Nat → Nat} (h : i < n) : AW n a (a i) := ⟨i, h, rfl⟩
theorem WL_DA {kd : Nat → Nat} {n : Nat} {y : CY} {a : Nat → Nat} {σ : Mem} (hj : INJ n a) : va_D (AW n a) (WL kd n y a σ) := WL_D hj (fun _ h => AW_in h)
theorem WL_set {kd : Nat → Nat} {n : Nat} {y : CY} {a : Nat → Nat} {σ : Mem} {c : Nat} (g : Nat → Int32) : (WL kd n y a σ).set c (a c, mkE y a (kd c) c g) = WL kd n y a (mcp σ c g) := by
  apply List.ext_getElem?
  intro i
  by_cases hi : i = c
  · subst hi
    by_cases hn : i < n
    · rw [List.getElem?_set_self (by simpa [WL] using hn), WL_at hn]
      simp [mcp]
    · rw [List.getElem?_eq_none (by simp [WL]; omega), List.getElem?_eq_none (by simp [WL]; omega)]
  · rw [List.getElem?_set_ne (fun e => hi e.symm)]
    by_cases hn : i < n
    · rw [WL_at hn, WL_at hn]
      simp [mcp, hi]
    · rw [List.getElem?_eq_none (by simp [WL]; omega), List.getElem?_eq_none (by simp [WL]; omega)]
theorem mst_mcp (σ : Mem) (c k : Nat) (v : Int32) : mst σ c k v = mcp σ c (upd (σ c) k v) := rfl
theorem mkE_0 {y : CY} {a : Nat → Nat} {k c : Nat} {f : Nat → Int32} (h : k = 0) : mkE y a k c f = .inr (0, [.ref (a (c + 1)), .int (f 1), .int (f 2), .int (f 3), .int (f 4), .int (f 5)]) := by subst h; rfl
theorem mkE_1 {y : CY} {a : Nat → Nat} {k c : Nat} {f : Nat → Int32} (h : k = 1) : mkE y a k c f = .inr (1, [.ref (a (c + 1)), .int (f 1), .int (f 2)]) := by subst h; rfl
theorem mkE_2 {y : CY} {a : Nat → Nat} {k c : Nat} {f : Nat → Int32} (h : k = 2) : mkE y a k c f = .inr (2, [.ref (a (c + 1)), .ref (a (c + 5)), .ref (a (c + 6)), .int (f 3), .int (f 4)]) := by subst h; rfl
theorem mkE_3 {y : CY} {a : Nat → Nat} {k c : Nat} {f : Nat → Int32} (h : k = 3) : mkE y a k c f = .inr (3, [.int (f 0), .int (f 1), .int (f 2), .int (f 3), .int (f 4)]) := by subst h; rfl
theorem mkE_4 {y : CY} {a : Nat → Nat} {k c : Nat} {f : Nat → Int32} (h : k = 4) : mkE y a k c f = .inr (4, [.ref (a (c + 1)), .ref (a (c + 2)), .ref (a (c + 3)), .int (f 3), .int (f 4)]) := by subst h; rfl
theorem mkE_5 {y : CY} {a : Nat → Nat} {k c : Nat} {f : Nat → Int32} (h : k = 5) : mkE y a k c f = .inr (5, [.ref (a (c + 1)), .ref (a (c + 16)), .ref (a (c + 31)), .ref (a (c + 46)), .ref (a (c + 61)), .ref (a (c + 62)), .ref (a (c + 71)), .ref (a (c + 73)), .int (f 8)]) := by subst h; rfl
theorem mkE_6 {y : CY} {a : Nat → Nat} {k c : Nat} {f : Nat → Int32} (h : k = 6) : mkE y a k c f = .inr (6, [.ref (a (c + 1)), .ref (a (c + 2)), .ref (a (c + 3)), .ref (a (c + 4)), .ref (a (c + 5)), .int (f 5), .int (f 6), .ref (a (c + 6)), .int (f 8), .ref (a (c + 7)), .int (f 10), .int (f 11), .ref (a (c + 8)), .int (f 13), .int (f 14), .int (f 15), .int (f 16), .int (f 17), .ref (a (c + 9)), .ref (a (c + 10)), .ref (a (c + 11)), .ref (a (c + 12))]) := by subst h; rfl
theorem mkE_50 {y : CY} {a : Nat → Nat} {k c : Nat} {f : Nat → Int32} (h : k = 50) : mkE y a k c f = .inl (y.2.1, 8, .inr (.inr (.inr (.inr (fun i => some (a (c + 2 + i))))))) := by subst h; rfl
theorem mkE_51 {y : CY} {a : Nat → Nat} {k c : Nat} {f : Nat → Int32} (h : k = 51) : mkE y a k c f = .inl (y.2.2, 4, .inr (.inr (.inr (.inr (fun i => some (a (c + 1 + 2 * i))))))) := by subst h; rfl
theorem mkE_i {y : CY} {a : Nat → Nat} {k c n : Nat} {f : Nat → Int32} (h : k = 100 + n) : mkE y a k c f = .inl (y.1, n, .inl f) := by
  subst h
  unfold mkE
  rw [if_neg (by omega), if_neg (by omega), if_neg (by omega), if_neg (by omega), if_neg (by omega), if_neg (by omega), if_neg (by omega), if_neg (by omega), if_neg (by omega)]
  simp
def chk (i : Int32) (n : Nat) {R : Type} (k : Option R) : Option R := if i < 0 ∨ n ≤ i.toNatClampNeg then none else k
theorem chk_s {i : Int32} {n : Nat} {R : Type} {k : Option R} {r : R} (h : chk i n k = some r) : vp_in i n ∧ k = some r := by
  unfold chk at h
  by_cases c : i < 0 ∨ n ≤ i.toNatClampNeg
  · rw [if_pos c] at h; cases h
  · rw [if_neg c] at h; exact ⟨c, h⟩
theorem chk_ok {i : Int32} {n : Nat} {R : Type} {k : Option R} (h : vp_in i n) : chk i n k = k := if_neg h
def cnz (i : Int32) {R : Type} (k : Option R) : Option R := if i = 0 then none else k
theorem cnz_s {i : Int32} {R : Type} {k : Option R} {r : R} (h : cnz i k = some r) : (¬ i = 0) ∧ k = some r := by
  unfold cnz at h
  by_cases c : i = 0
  · rw [if_pos c] at h; cases h
  · rw [if_neg c] at h; exact ⟨c, h⟩
theorem cnz_ok {i : Int32} {R : Type} {k : Option R} (h : ¬ i = 0) : cnz i k = k := if_neg h
def cbz (i : Int32) {R : Type} (k : Option R) : Option R := if i &&& 1 = i then k else none
theorem cbz_s {i : Int32} {R : Type} {k : Option R} {r : R} (h : cbz i k = some r) : i &&& 1 = i ∧ k = some r := by
  unfold cbz at h
  by_cases c : i &&& 1 = i
  · rw [if_pos c] at h; exact ⟨c, h⟩
  · rw [if_neg c] at h; cases h
theorem cbz_ok {i : Int32} {R : Type} {k : Option R} (h : i &&& 1 = i) : cbz i k = k := if_pos h
def ccp (sp n0 dp n1 n : Int32) (l0 l1 : Nat) {R : Type} (k : Option R) : Option R := if sp < 0 ∨ dp < 0 ∨ n < 0 ∨ l0 < sp.toNatClampNeg + n.toNatClampNeg ∨ l1 < dp.toNatClampNeg + n.toNatClampNeg then none else k
theorem bd_s {A B : Type} {o : Option A} {f : A → Option B} {r : B} (h : o.bind f = some r) : ∃ q, o = some q ∧ f q = some r := by
  cases o with
  | none => cases h
  | some q => exact ⟨q, rfl, h⟩
theorem vp_lt {i : Int32} {n : Nat} (h : vp_in i n) : i.toNatClampNeg < n := Nat.not_le.mp fun q => h (Or.inr q)
def FU : Nat := 1000
def it1 {A R : Type} (f : (A → Option R) → A → Option R) : Nat → A → Option R
  | 0, _ => none
  | n + 1, a => f (it1 f n) a
def it2 {A B R : Type} (f : (A → B → Option R) → A → B → Option R) : Nat → A → B → Option R
  | 0, _, _ => none
  | n + 1, a, b => f (it2 f n) a b
def it3 {A B C R : Type} (f : (A → B → C → Option R) → A → B → C → Option R) : Nat → A → B → C → Option R
  | 0, _, _, _ => none
  | n + 1, a, b, c => f (it3 f n) a b c
def it4 {A B C D R : Type} (f : (A → B → C → D → Option R) → A → B → C → D → Option R) : Nat → A → B → C → D → Option R
  | 0, _, _, _, _ => none
  | n + 1, a, b, c, d => f (it4 f n) a b c d
def it5 {A B C D E R : Type} (f : (A → B → C → D → E → Option R) → A → B → C → D → E → Option R) : Nat → A → B → C → D → E → Option R
  | 0, _, _, _, _, _ => none
  | n + 1, a, b, c, d, e => f (it5 f n) a b c d e
end
section
section MR
variable {p : Program} {l : Launch} {e : Env} {R : Room} {s : State} {m : MethodId} {args : Array Value} {below : List Frame} {meth : Method} {c : Code} {H : Heap} {locs : List Loc} {cells slots : Nat} {Q : State → Prop}
variable {cc : ByteArray} {pc : Nat} {ls : Array Slot} {rest : List Value} {own : String} {G : GG} {kd : Nat → Nat} {n : Nat} {a : Nat → Nat} {σ : Mem} {H0 : Heap}
theorem m_get (C0 : CT p s args m own G kd n a) (hb : c.code = cc) {ref C : String} {T : u_T} {N ci index : Nat} (hin : ∀ w ∈ u_ws C T N, w ∈ TB) (hP : HP G kd n a σ H) {o : Nat} (ho : kd o < 900) {fs : List Value} (he : mkE G.2.1 a (kd o) o (σ o) = .inr (ci, fs)) (hc : vwCl[ci]? = some (C, T, N)) (k : Nat) (hk : k < N) (hlink : Cond.fieldLink own index ref (T k).2.1 (T k).2.2.1 ∈ TB) (hsame : (T k).1 = ref) {v : Value} (hv : fs[k]? = some v) (hdg : decode cc pc = .ok (.getfield index, 3))
    (kk : W p l e R s m args below meth c H locs cells slots Q (F0 m (pc + 3) ls (v :: rest))) : W p l e R s m args below meth c H locs cells slots Q (F0 m pc ls (.ref (a o) :: rest)) := by
  obtain ⟨hx, hts, hown, ⟨hK, -⟩, hj, hn⟩ := C0
  have hw := WL_at (kd := kd) (y := G.2.1) (a := a) (σ := σ) (hn o ho)
  rw [he] at hw
  subst hsame
  exact va_get hx hb hts hin hown hK hP o hw hc k hk (hts _ hlink) (fun _ h => h) hv hdg kk
theorem m_put (C0 : CT p s args m own G kd n a) (hb : c.code = cc) {ref C : String} {T : u_T} {N ci index : Nat} (hin : ∀ w ∈ u_ws C T N, w ∈ TB) (ty0 : Nat → FieldType) (hty : ∀ k, k < N → parseFieldDescriptor (T k).2.2.1 = some (ty0 k)) (hnm : ∀ a, a < N → ∀ b, b < N → a ≠ b → (T a).2.1 ≠ (T b).2.1) (hP : HP G kd n a σ H) (hS : va_S (AW n a) H0 H locs) {o : Nat} (ho : kd o < 900) {fs : List Value} (he : mkE G.2.1 a (kd o) o (σ o) = .inr (ci, fs)) (hc : vwCl[ci]? = some (C, T, N)) (k : Nat) (hk : k < N) (hlink : Cond.fieldLink own index ref (T k).2.1 (T k).2.2.1 ∈ TB) (hsame : (T k).1 = ref) (hfin : (T k).2.2.2 = false) {x : Int32} (hn0 : narrow (ty0 k) (.int x) = .int x) (hfit : fits (ty0 k) (.int x) = true) (hl : k < fs.length) (he2 : mkE G.2.1 a (kd o) o (upd (σ o) k x) = .inr (ci, fs.set k (.int x)))
    (hdg : decode cc pc = .ok (.putfield index, 3)) (kk : ∀ (H1 : Heap) (locs1 : List Loc), HP G kd n a (mst σ o k x) H1 → va_S (AW n a) H0 H1 locs1 → W p l e R s m args below meth c H1 locs1 cells slots Q (F0 m (pc + 3) ls rest)) : W p l e R s m args below meth c H locs cells slots Q (F0 m pc ls (.int x :: .ref (a o) :: rest)) := by
  obtain ⟨hx, hts, hown, ⟨hK, -⟩, hj, hn⟩ := C0
  have hw := WL_at (kd := kd) (y := G.2.1) (a := a) (σ := σ) (hn o ho)
  rw [he] at hw
  subst hsame
  refine va_put hx hb hts hin ty0 hty hnm hown hK hP (WL_DA hj) hS o hw hc k hk (hts _ hlink) (fun _ h => h) hfin (hty k hk) hn0 hfit hl hdg (fun H1 l1 h1 h2 h3 => kk H1 l1 ?_ h3)
  rw [← he2, WL_set] at h1
  exact h1
theorem m_iald (C0 : CT p s args m own G kd n a) (hb : c.code = cc) (hP : HP G kd n a σ H) {o N : Nat} (hk : kd o = 100 + N) (hN : N < 700) {i : Int32} (hi : vp_in i N) (hdg : decode cc pc = .ok (.iaload, 1))
    (kk : W p l e R s m args below meth c H locs cells slots Q (F0 m (pc + 1) ls (.int (σ o i.toNatClampNeg) :: rest))) : W p l e R s m args below meth c H locs cells slots Q (F0 m pc ls (.int i :: .ref (a o) :: rest)) := by
  obtain ⟨hx, hts, hown, ⟨hK, -⟩, hj, hn⟩ := C0
  have hw := WL_at (kd := kd) (y := G.2.1) (a := a) (σ := σ) (hn o (by omega))
  rw [mkE_i hk] at hw
  exact va_iald hx hb hK hP o 0 hw rfl hi hdg kk
theorem m_iast (C0 : CT p s args m own G kd n a) (hb : c.code = cc) (hP : HP G kd n a σ H) (hS : va_S (AW n a) H0 H locs) {o N : Nat} (hk : kd o = 100 + N) (hN : N < 700) {i x : Int32} (hi : vp_in i N) (hdg : decode cc pc = .ok (.iastore, 1))
    (kk : ∀ (H1 : Heap) (locs1 : List Loc), HP G kd n a (mst σ o i.toNatClampNeg x) H1 → va_S (AW n a) H0 H1 locs1 → W p l e R s m args below meth c H1 locs1 cells slots Q (F0 m (pc + 1) ls rest)) : W p l e R s m args below meth c H locs cells slots Q (F0 m pc ls (.int x :: .int i :: .ref (a o) :: rest)) := by
  obtain ⟨hx, hts, hown, ⟨hK, -⟩, hj, hn⟩ := C0
  have hw := WL_at (kd := kd) (y := G.2.1) (a := a) (σ := σ) (hn o (by omega))
  rw [mkE_i hk] at hw
  refine va_iast hx hb hK hP (WL_DA hj) hS o 0 hw rfl hi hdg (fun H1 l1 h1 h2 h3 => kk H1 l1 ?_ h3)
  rw [← mkE_i (y := G.2.1) (a := a) (c := o) hk, WL_set] at h1
  exact h1
theorem m_alen (C0 : CT p s args m own G kd n a) (hb : c.code = cc) (hP : HP G kd n a σ H) {o N : Nat} (hk : kd o = 100 + N) (hN : N < 700) (hdg : decode cc pc = .ok (.arraylength, 1))
    (kk : W p l e R s m args below meth c H locs cells slots Q (F0 m (pc + 1) ls (.int (Int32.ofNat N) :: rest))) : W p l e R s m args below meth c H locs cells slots Q (F0 m pc ls (.ref (a o) :: rest)) := by
  obtain ⟨hx, hts, hown, ⟨hK, -⟩, hj, hn⟩ := C0
  have hw := WL_at (kd := kd) (y := G.2.1) (a := a) (σ := σ) (hn o (by omega))
  rw [mkE_i hk] at hw
  exact va_alen hx hb hK hP o 0 hw rfl rfl hdg kk
theorem m_aldW (C0 : CT p s args m own G kd n a) (hb : c.code = cc) (hP : HP G kd n a σ H) {o : Nat} (hk : kd o = 50) {i : Int32} (hi : vp_in i 8) (hdg : decode cc pc = .ok (.aaload, 1))
    (kk : W p l e R s m args below meth c H locs cells slots Q (F0 m (pc + 1) ls (.ref (a (o + 2 + i.toNatClampNeg)) :: rest))) : W p l e R s m args below meth c H locs cells slots Q (F0 m pc ls (.int i :: .ref (a o) :: rest)) := by
  obtain ⟨hx, hts, hown, ⟨hK, -⟩, hj, hn⟩ := C0
  have hw := WL_at (kd := kd) (y := G.2.1) (a := a) (σ := σ) (hn o (by omega))
  rw [mkE_50 hk] at hw
  exact va_aldq hx hb hK hP o 1 hw rfl hi hdg kk
theorem m_aldS (C0 : CT p s args m own G kd n a) (hb : c.code = cc) (hP : HP G kd n a σ H) {o : Nat} (hk : kd o = 51) {i : Int32} (hi : vp_in i 4) (hdg : decode cc pc = .ok (.aaload, 1))
    (kk : W p l e R s m args below meth c H locs cells slots Q (F0 m (pc + 1) ls (.ref (a (o + 1 + 2 * i.toNatClampNeg)) :: rest))) : W p l e R s m args below meth c H locs cells slots Q (F0 m pc ls (.int i :: .ref (a o) :: rest)) := by
  obtain ⟨hx, hts, hown, ⟨hK, -⟩, hj, hn⟩ := C0
  have hw := WL_at (kd := kd) (y := G.2.1) (a := a) (σ := σ) (hn o (by omega))
  rw [mkE_51 hk] at hw
  exact va_aldq hx hb hK hP o 2 hw rfl hi hdg kk
theorem ccp_s {sp n0 dp n1 n : Int32} {l0 l1 : Nat} {R : Type} {k : Option R} {r : R} (h : ccp sp n0 dp n1 n l0 l1 k = some r) : ((¬ sp < 0) ∧ (¬ dp < 0) ∧ (¬ n < 0) ∧ sp.toNatClampNeg + n.toNatClampNeg ≤ l0 ∧ dp.toNatClampNeg + n.toNatClampNeg ≤ l1) ∧ k = some r := by
  unfold ccp at h
  by_cases c : sp < 0 ∨ dp < 0 ∨ n < 0 ∨ l0 < sp.toNatClampNeg + n.toNatClampNeg ∨ l1 < dp.toNatClampNeg + n.toNatClampNeg
  · rw [if_pos c] at h; cases h
  · rw [if_neg c] at h
    exact ⟨⟨fun q => c (Or.inl q), fun q => c (Or.inr (Or.inl q)), fun q => c (Or.inr (Or.inr (Or.inl q))), Nat.not_lt.mp fun q => c (Or.inr (Or.inr (Or.inr (Or.inl q)))), Nat.not_lt.mp fun q => c (Or.inr (Or.inr (Or.inr (Or.inr q))))⟩, h⟩
theorem m_copy (C0 : CT p s args m own G kd n a) (hb : c.code = cc) {nL : Nat} (hml : c.maxLocals = nL) (hsz : ls.size = nL) {index : Nat} (hlink : Cond.methodLink own index arraycopyName ∈ TB) (hP : HP G kd n a σ H) (hS : va_S (AW n a) H0 H locs) {o o1 N N1 : Nat} (hk : kd o = 100 + N) (hN : N < 700) (hk1 : kd o1 = 100 + N1) (hN1 : N1 < 700) {sp dp z : Int32} (hz : (¬ sp < 0) ∧ (¬ dp < 0) ∧ (¬ z < 0) ∧ sp.toNatClampNeg + z.toNatClampNeg ≤ N ∧ dp.toNatClampNeg + z.toNatClampNeg ≤ N1)
    (hfr : 1 ≤ R.frames) (hlo : (rest.map fun v => v.category).sum + (nativeFrameWords "java/lang/System" "arraycopy" 5 + 11) ≤ R.locals) (hdg : decode cc pc = .ok (.invokestatic index, 3))
    (kk : ∀ (H1 : Heap) (locs1 : List Loc), HP G kd n a (mcp σ o1 (va_cpy (σ o) (σ o1) sp.toNatClampNeg dp.toNatClampNeg z.toNatClampNeg)) H1 → va_S (AW n a) H0 H1 locs1 → W p l e R s m args below meth c H1 locs1 cells slots Q (F0 m (pc + 3) ls rest)) : W p l e R s m args below meth c H locs cells slots Q (F0 m pc ls (.int z :: .int dp :: .ref (a o1) :: .int sp :: .ref (a o) :: rest)) := by
  obtain ⟨hx, hts, hown, ⟨hK, -⟩, hj, hn⟩ := C0
  have hw := WL_at (kd := kd) (y := G.2.1) (a := a) (σ := σ) (hn o (by omega))
  rw [mkE_i hk] at hw
  have hw1 := WL_at (kd := kd) (y := G.2.1) (a := a) (σ := σ) (hn o1 (by omega))
  rw [mkE_i hk1] at hw1
  obtain ⟨h1, h2, h3, h4, h5⟩ := hz
  refine va_copyi hx hb (by rw [hml, hsz]) hown (hts _ hlink) (hts _ wnat_arraycopy) (hts _ wst_arraycopy) (hts _ win_J10) hK hP (WL_DA hj) hS o o1 0 0 hw hw1 rfl rfl rfl h1 h2 h3 h4 h5 (fun _ _ => rfl) hfr hlo hdg (fun H1 l1 h1 h2 h3 => kk H1 l1 ?_ h3)
  rw [← mkE_i (y := G.2.1) (a := a) (c := o1) hk1, WL_set] at h1
  exact h1
theorem m_min (C0 : CT p s args m own G kd n a) (hb : c.code = cc) {nL : Nat} (hml : c.maxLocals = nL) (hsz : ls.size = nL) {index : Nat} (hlink : Cond.methodLink own index Lib.Math.min.name ∈ TB) (hfr : 1 ≤ R.frames) (hlo : (rest.map fun v => v.category).sum + 13 ≤ R.locals) (hc : cells ≤ R.cells) (hs : slots ≤ R.slots) {x y : Int32} (hdg : decode cc pc = .ok (.invokestatic index, 3))
    (kk : W p l e R s m args below meth c H locs cells slots Q (F0 m (pc + 3) ls (.int (if y < x then y else x) :: rest))) : W p l e R s m args below meth c H locs cells slots Q (F0 m pc ls (.int y :: .int x :: rest)) := by
  obtain ⟨hx, hts, hown, ⟨hK, -⟩, hj, hn⟩ := C0
  exact va_mmin hx hb (by rw [hml, hsz]) hown (hts _ hlink) (hts _ wst_min) (hts _ win_J9) (hts _ wc_min) hfr hlo hc hs hdg kk
theorem m_max (C0 : CT p s args m own G kd n a) (hb : c.code = cc) {nL : Nat} (hml : c.maxLocals = nL) (hsz : ls.size = nL) {index : Nat} (hlink : Cond.methodLink own index Lib.Math.max.name ∈ TB) (hfr : 1 ≤ R.frames) (hlo : (rest.map fun v => v.category).sum + 13 ≤ R.locals) (hc : cells ≤ R.cells) (hs : slots ≤ R.slots) {x y : Int32} (hdg : decode cc pc = .ok (.invokestatic index, 3))
    (kk : W p l e R s m args below meth c H locs cells slots Q (F0 m (pc + 3) ls (.int (if x < y then y else x) :: rest))) : W p l e R s m args below meth c H locs cells slots Q (F0 m pc ls (.int y :: .int x :: rest)) := by
  obtain ⟨hx, hts, hown, ⟨hK, -⟩, hj, hn⟩ := C0
  exact va_mmax hx hb (by rw [hml, hsz]) hown (hts _ hlink) (hts _ wst_max) (hts _ win_J9) (hts _ wc_max) hfr hlo hc hs hdg kk
theorem m_abs (C0 : CT p s args m own G kd n a) (hb : c.code = cc) {nL : Nat} (hml : c.maxLocals = nL) (hsz : ls.size = nL) {index : Nat} (hlink : Cond.methodLink own index Lib.Math.abs.name ∈ TB) (hfr : 1 ≤ R.frames) (hlo : (rest.map fun v => v.category).sum + 13 ≤ R.locals) (hc : cells ≤ R.cells) (hs : slots ≤ R.slots) {x : Int32} (hdg : decode cc pc = .ok (.invokestatic index, 3))
    (kk : W p l e R s m args below meth c H locs cells slots Q (F0 m (pc + 3) ls (.int (if 0 ≤ x then x else 0 - x) :: rest))) : W p l e R s m args below meth c H locs cells slots Q (F0 m pc ls (.int x :: rest)) := by
  obtain ⟨hx, hts, hown, ⟨hK, -⟩, hj, hn⟩ := C0
  exact va_mabs hx hb (by rw [hml, hsz]) hown (hts _ hlink) (hts _ wst_abs) (hts _ win_J9) (hts _ wc_abs) hfr hlo hc hs hdg kk
end MR
end
section
def PA (G : GG) (kd : Nat → Nat) (n : Nat) (a : Nat → Nat) (σ : Mem) (av : List Value) : Array Value → State → Prop := va_Pc av (fun U => HP G kd n a σ U.heap ∧ XS G n a U)
def PN (av : List Value) : Array Value → State → Prop := fun v _ => v = av.toArray
theorem PA_blind {G : GG} {kd : Nat → Nat} {n : Nat} {a : Nat → Nat} {σ : Mem} {av : List Value} : FrameBlind (PA G kd n a σ av) := fun v _ g mk q => ⟨q.1, q.2.1, q.2.2.calling g mk v⟩
def QI (G : GG) (kd : Nat → Nat) (n : Nat) (a : Nat → Nat) (q : Int32 × Mem) : Array Value → State → Outcome → State → Prop := va_Qi (fun (r : Int32) (u : Mem) => r = q.1 ∧ u = q.2) (fun u t => HP G kd n a u t.heap) (AW n a)
def QL (G : GG) (kd : Nat → Nat) (n : Nat) (a : Nat → Nat) (q : Int64 × Mem) : Array Value → State → Outcome → State → Prop := va_Ql (fun (r : Int64) (u : Mem) => r = q.1 ∧ u = q.2) (fun u t => HP G kd n a u t.heap) (AW n a)
def QV (G : GG) (kd : Nat → Nat) (n : Nat) (a : Nat → Nat) (q : Mem) : Array Value → State → Outcome → State → Prop := va_Qv (fun (u : Mem) => u = q) (fun u t => HP G kd n a u t.heap) (AW n a)
def QR (G : GG) (kd : Nat → Nat) (n : Nat) (a : Nat → Nat) (o : Nat) (q : Mem) : Array Value → State → Outcome → State → Prop := va_Qr (fun (u : Mem) => u = q) (fun u ra t => ra = a o ∧ HP G kd n a u t.heap) (AW n a)
def SI (q : Int32) : Array Value → State → Outcome → State → Prop := vp_Si (fun r => r = q)
def SL (q : Int64) : Array Value → State → Outcome → State → Prop := vp_Sl (fun r => r = q)
def NF : Addr → Prop := fun _ => False
/-- a method of a class's objects, as the tables have it -/
def MD (y : MethodName) (bytes : ByteArray) (maxL : Nat) (ret : Option FieldType) (C : String) (np : Nat) : Prop := Cond.instanceMethod y ∈ TB ∧ Cond.selects C y y ∈ TB ∧ Cond.initialized C ∈ TB ∧ Cond.code y bytes maxL ret ∈ TB ∧ (y.cls = C ∧ y.cls ≠ "java/lang/invoke/MethodHandle" ∧ y.cls ≠ "java/lang/invoke/VarHandle" ∧ (parseMethodDescriptor y.desc).map (fun d => d.parameters.length) = some np)
def MS (y : MethodName) (bytes : ByteArray) (maxL : Nat) (ret : Option FieldType) (C : String) (np : Nat) : Prop := Cond.static y ∈ TB ∧ Cond.initialized C ∈ TB ∧ Cond.code y bytes maxL ret ∈ TB ∧ (y.cls = C ∧ y.cls ≠ "java/lang/invoke/MethodHandle" ∧ y.cls ≠ "java/lang/invoke/VarHandle" ∧ (parseMethodDescriptor y.desc).map (fun d => d.parameters.length) = some np)
theorem gi_V {own C : String} {index maxL np : Nat} {y : MethodName} {bytes : ByteArray} {ret : Option FieldType} (w : Cond.methodLink own index y ∈ TB) (h : MD y bytes maxL ret C np) : GoodIn TB (wsV own index C y (Cond.code y bytes maxL ret :: TB)) := by
  intro w' hw
  have key : w' ∈ TB := by
    unfold wsV at hw
    simp only [List.cons_append, List.nil_append, List.mem_cons] at hw
    rcases hw with rfl | rfl | rfl | rfl | rfl | hw
    · exact w
    · exact h.1
    · exact h.2.1
    · exact h.2.2.1
    · exact h.2.2.2.1
    · exact hw
  exact TB_GG w' key
theorem gi_C {maxL : Nat} {y : MethodName} {bytes : ByteArray} {ret : Option FieldType} (w : Cond.code y bytes maxL ret ∈ TB) : GoodIn TB (Cond.code y bytes maxL ret :: TB) := by
  intro w' hw
  refine TB_GG w' ?_
  rcases List.mem_cons.mp hw with rfl | hw
  · exact w
  · exact hw
theorem gi_S {own C : String} {index maxL np : Nat} {y : MethodName} {bytes : ByteArray} {ret : Option FieldType} (w : Cond.methodLink own index y ∈ TB) (h : MS y bytes maxL ret C np) : GoodIn TB (Cond.code y bytes maxL ret :: TB) := gi_C h.2.2.1
theorem mkE_obj {y : CY} {a : Nat → Nat} {k c : Nat} {f : Nat → Int32} (h : k < 7) : ∃ fs, mkE y a k c f = .inr (k, fs) := by
  rcases (show k = 0 ∨ k = 1 ∨ k = 2 ∨ k = 3 ∨ k = 4 ∨ k = 5 ∨ k = 6 by omega) with rfl | rfl | rfl | rfl | rfl | rfl | rfl <;> exact ⟨_, rfl⟩
section MC
variable {p : Program} {l : Launch} {e : Env} {R : Room} {s : State} {m : MethodId} {args : Array Value} {below : List Frame} {meth : Method} {c : Code} {H : Heap} {locs : List Loc} {Q : State → Prop}
variable {cc : ByteArray} {pc : Nat} {ls : Array Slot} {rest st0 : List Value} {own C : String} {G : GG} {kd : Nat → Nat} {n : Nat} {a : Nat → Nat} {σ : Mem}
variable {nL maxL index np ci o : Nat} {y : MethodName} {bytes : ByteArray} {ret : Option FieldType} {rm : Room} {As : List Value} {T : u_T} {N : Nat}
theorem pv_A (C0 : CT p s args m own G kd n a) (hP : HP G kd n a σ H) (hS : va_S (AW n a) s.heap H locs) (hk : kd o = ci) (h7 : ci < 7) (hc : vwCl[ci]? = some (C, T, N)) : PreV s H C (a o) (PA G kd n a σ (.ref (a o) :: As)) As := by
  obtain ⟨hx, hts, hown, hX, hj, hn⟩ := C0
  subst hk
  obtain ⟨fs, hfs⟩ := mkE_obj (y := G.2.1) (a := a) (c := o) (f := σ o) h7
  have hw := WL_at (kd := kd) (y := G.2.1) (a := a) (σ := σ) (hn o (by omega))
  rw [hfs] at hw
  exact ⟨PA_blind, va_recv hX.1 hP hc hw, fun U hU hW => ⟨rfl, by rw [hU]; exact hP, hX.at hS hU hW⟩⟩
theorem ps_A (C0 : CT p s args m own G kd n a) (hP : HP G kd n a σ H) (hS : va_S (AW n a) s.heap H locs) : PreS s H (PA G kd n a σ As) As := ⟨PA_blind, fun U hU hW => ⟨rfl, by rw [hU]; exact hP, C0.2.2.2.1.at hS hU hW⟩⟩
theorem cf_A (C0 : CT p s args m own G kd n a) (hb : c.code = cc) (hml : c.maxLocals = nL) : CallFix p m c cc nL s args TB own := ⟨C0.1, hb, hml, C0.2.2.1, C0.2.1⟩
theorem m_cVi (C0 : CT p s args m own G kd n a) (hb : c.code = cc) (hml : c.maxLocals = nL) (hsz : ls.size = nL) (w : Cond.methodLink own index y ∈ TB) (hD : MD y bytes maxL ret C np) {q : Int32 × Mem} (hM : Met l y (Cond.code y bytes maxL ret :: TB) rm (PA G kd n a σ (.ref (a o) :: As)) (QI G kd n a q) 0 0 (AW n a)) (hrc : rm.cells = 0) (hrs : rm.slots = 0) (hR : rm.frames + 1 ≤ R.frames ∧ 8 + (maxL + 11) + rm.locals ≤ R.locals) (hP : HP G kd n a σ H) (hS : va_S (AW n a) s.heap H locs) (hk : kd o = ci) (h7 : ci < 7) (hc : vwCl[ci]? = some (C, T, N)) (hn : As.length = np) (hst : st0 = As.reverse ++ .ref (a o) :: rest) (hW : (rest.map fun v => v.category).sum ≤ 8) (hdg : decode cc pc = .ok (.invokevirtual index, 3))
    (kk : ∀ (H1 : Heap) (locs1 : List Loc), HP G kd n a q.2 H1 → va_S (AW n a) s.heap H1 locs1 → W p l e R s m args below meth c H1 locs1 0 0 Q (F0 m (pc + 3) ls (.int q.1 :: rest))) : W p l e R s m args below meth c H locs 0 0 Q (F0 m pc ls st0) := by
  refine va_calli (A0 := AW n a) (H0 := s.heap) (va_runV (As := As) (rest := rest) (b := a o) (cf_A C0 hb hml) hM (cwV np C0.2.1 (gi_V w hD) rfl hrc hrs hD.2.2.2.2 hR) (pv_A C0 hP hS hk h7 hc) rfl hn hsz hst (lv_room hW) hdg ⟨Nat.zero_le _, Nat.zero_le _⟩) hS (fun _ _ h => h) (fun _ h => h) ?_
  rintro r u t H1 l1 ht - ⟨rfl, rfl⟩ hB - - hS1
  exact kk H1 l1 (ht ▸ hB) hS1
theorem m_cVv (C0 : CT p s args m own G kd n a) (hb : c.code = cc) (hml : c.maxLocals = nL) (hsz : ls.size = nL) (w : Cond.methodLink own index y ∈ TB) (hD : MD y bytes maxL ret C np) {q : Mem} (hM : Met l y (Cond.code y bytes maxL ret :: TB) rm (PA G kd n a σ (.ref (a o) :: As)) (QV G kd n a q) 0 0 (AW n a)) (hrc : rm.cells = 0) (hrs : rm.slots = 0) (hR : rm.frames + 1 ≤ R.frames ∧ 8 + (maxL + 11) + rm.locals ≤ R.locals) (hP : HP G kd n a σ H) (hS : va_S (AW n a) s.heap H locs) (hk : kd o = ci) (h7 : ci < 7) (hc : vwCl[ci]? = some (C, T, N)) (hn : As.length = np) (hst : st0 = As.reverse ++ .ref (a o) :: rest) (hW : (rest.map fun v => v.category).sum ≤ 8) (hdg : decode cc pc = .ok (.invokevirtual index, 3))
    (kk : ∀ (H1 : Heap) (locs1 : List Loc), HP G kd n a q H1 → va_S (AW n a) s.heap H1 locs1 → W p l e R s m args below meth c H1 locs1 0 0 Q (F0 m (pc + 3) ls rest)) : W p l e R s m args below meth c H locs 0 0 Q (F0 m pc ls st0) := by
  refine va_callv (A0 := AW n a) (H0 := s.heap) (va_runV (As := As) (rest := rest) (b := a o) (cf_A C0 hb hml) hM (cwV np C0.2.1 (gi_V w hD) rfl hrc hrs hD.2.2.2.2 hR) (pv_A C0 hP hS hk h7 hc) rfl hn hsz hst (lv_room hW) hdg ⟨Nat.zero_le _, Nat.zero_le _⟩) hS (fun _ _ h => h) (fun _ h => h) ?_
  rintro u t H1 l1 ht - rfl hB - - hS1
  exact kk H1 l1 (ht ▸ hB) hS1
theorem m_cVl (C0 : CT p s args m own G kd n a) (hb : c.code = cc) (hml : c.maxLocals = nL) (hsz : ls.size = nL) (w : Cond.methodLink own index y ∈ TB) (hD : MD y bytes maxL ret C np) {q : Int64 × Mem} (hM : Met l y (Cond.code y bytes maxL ret :: TB) rm (PA G kd n a σ (.ref (a o) :: As)) (QL G kd n a q) 0 0 (AW n a)) (hrc : rm.cells = 0) (hrs : rm.slots = 0) (hR : rm.frames + 1 ≤ R.frames ∧ 8 + (maxL + 11) + rm.locals ≤ R.locals) (hP : HP G kd n a σ H) (hS : va_S (AW n a) s.heap H locs) (hk : kd o = ci) (h7 : ci < 7) (hc : vwCl[ci]? = some (C, T, N)) (hn : As.length = np) (hst : st0 = As.reverse ++ .ref (a o) :: rest) (hW : (rest.map fun v => v.category).sum ≤ 8) (hdg : decode cc pc = .ok (.invokevirtual index, 3))
    (kk : ∀ (H1 : Heap) (locs1 : List Loc), HP G kd n a q.2 H1 → va_S (AW n a) s.heap H1 locs1 → W p l e R s m args below meth c H1 locs1 0 0 Q (F0 m (pc + 3) ls (.long q.1 :: rest))) : W p l e R s m args below meth c H locs 0 0 Q (F0 m pc ls st0) := by
  refine va_calll (A0 := AW n a) (H0 := s.heap) (va_runV (As := As) (rest := rest) (b := a o) (cf_A C0 hb hml) hM (cwV np C0.2.1 (gi_V w hD) rfl hrc hrs hD.2.2.2.2 hR) (pv_A C0 hP hS hk h7 hc) rfl hn hsz hst (lv_room hW) hdg ⟨Nat.zero_le _, Nat.zero_le _⟩) hS (fun _ _ h => h) (fun _ h => h) ?_
  rintro r u t H1 l1 ht - ⟨rfl, rfl⟩ hB - - hS1
  exact kk H1 l1 (ht ▸ hB) hS1
theorem m_cVr (C0 : CT p s args m own G kd n a) (hb : c.code = cc) (hml : c.maxLocals = nL) (hsz : ls.size = nL) (w : Cond.methodLink own index y ∈ TB) (hD : MD y bytes maxL ret C np) {q : Mem} {o1 : Nat} (hM : Met l y (Cond.code y bytes maxL ret :: TB) rm (PA G kd n a σ (.ref (a o) :: As)) (QR G kd n a o1 q) 0 0 (AW n a)) (hrc : rm.cells = 0) (hrs : rm.slots = 0) (hR : rm.frames + 1 ≤ R.frames ∧ 8 + (maxL + 11) + rm.locals ≤ R.locals) (hP : HP G kd n a σ H) (hS : va_S (AW n a) s.heap H locs) (hk : kd o = ci) (h7 : ci < 7) (hc : vwCl[ci]? = some (C, T, N)) (hn : As.length = np) (hst : st0 = As.reverse ++ .ref (a o) :: rest) (hW : (rest.map fun v => v.category).sum ≤ 8) (hdg : decode cc pc = .ok (.invokevirtual index, 3))
    (kk : ∀ (H1 : Heap) (locs1 : List Loc), HP G kd n a q H1 → va_S (AW n a) s.heap H1 locs1 → W p l e R s m args below meth c H1 locs1 0 0 Q (F0 m (pc + 3) ls (.ref (a o1) :: rest))) : W p l e R s m args below meth c H locs 0 0 Q (F0 m pc ls st0) := by
  refine va_callr (A0 := AW n a) (H0 := s.heap) (va_runV (As := As) (rest := rest) (b := a o) (cf_A C0 hb hml) hM (cwV np C0.2.1 (gi_V w hD) rfl hrc hrs hD.2.2.2.2 hR) (pv_A C0 hP hS hk h7 hc) rfl hn hsz hst (lv_room hW) hdg ⟨Nat.zero_le _, Nat.zero_le _⟩) hS (fun _ _ h => h) (fun _ h => h) ?_
  rintro u ra t H1 l1 ht - rfl ⟨rfl, hB⟩ - - hS1
  exact kk H1 l1 (ht ▸ hB) hS1
theorem m_rVi (C0 : CT p s args m own G kd n a) (hb : c.code = cc) (hml : c.maxLocals = nL) (hsz : ls.size = nL) (w : Cond.methodLink own index y ∈ TB) (hD : MD y bytes maxL ret C np) {q : Int32} (hM : Met l y (Cond.code y bytes maxL ret :: TB) rm (PA G kd n a σ (.ref (a o) :: As)) (SI q) 0 0 NF) (hrc : rm.cells = 0) (hrs : rm.slots = 0) (hR : rm.frames + 1 ≤ R.frames ∧ 8 + (maxL + 11) + rm.locals ≤ R.locals) (hP : HP G kd n a σ H) (hS : va_S (AW n a) s.heap H locs) (hk : kd o = ci) (h7 : ci < 7) (hc : vwCl[ci]? = some (C, T, N)) (hn : As.length = np) (hst : st0 = As.reverse ++ .ref (a o) :: rest) (hW : (rest.map fun v => v.category).sum ≤ 8) (hdg : decode cc pc = .ok (.invokevirtual index, 3))
    (kk : W p l e R s m args below meth c H locs 0 0 Q (F0 m (pc + 3) ls (.int q :: rest))) : W p l e R s m args below meth c H locs 0 0 Q (F0 m pc ls st0) := by
  refine vp_callSi (W.runV (As := As) (rest := rest) (b := a o) (cf_A C0 hb hml) hM (cwV np C0.2.1 (gi_V w hD) rfl hrc hrs hD.2.2.2.2 hR) (pv_A C0 hP hS hk h7 hc) rfl hn hsz hst (lv_room hW) hdg ⟨Nat.zero_le _, Nat.zero_le _⟩) ?_
  rintro r rfl
  exact kk
theorem m_rVl (C0 : CT p s args m own G kd n a) (hb : c.code = cc) (hml : c.maxLocals = nL) (hsz : ls.size = nL) (w : Cond.methodLink own index y ∈ TB) (hD : MD y bytes maxL ret C np) {q : Int64} (hM : Met l y (Cond.code y bytes maxL ret :: TB) rm (PA G kd n a σ (.ref (a o) :: As)) (SL q) 0 0 NF) (hrc : rm.cells = 0) (hrs : rm.slots = 0) (hR : rm.frames + 1 ≤ R.frames ∧ 8 + (maxL + 11) + rm.locals ≤ R.locals) (hP : HP G kd n a σ H) (hS : va_S (AW n a) s.heap H locs) (hk : kd o = ci) (h7 : ci < 7) (hc : vwCl[ci]? = some (C, T, N)) (hn : As.length = np) (hst : st0 = As.reverse ++ .ref (a o) :: rest) (hW : (rest.map fun v => v.category).sum ≤ 8) (hdg : decode cc pc = .ok (.invokevirtual index, 3))
    (kk : W p l e R s m args below meth c H locs 0 0 Q (F0 m (pc + 3) ls (.long q :: rest))) : W p l e R s m args below meth c H locs 0 0 Q (F0 m pc ls st0) := by
  refine vp_callSl (W.runV (As := As) (rest := rest) (b := a o) (cf_A C0 hb hml) hM (cwV np C0.2.1 (gi_V w hD) rfl hrc hrs hD.2.2.2.2 hR) (pv_A C0 hP hS hk h7 hc) rfl hn hsz hst (lv_room hW) hdg ⟨Nat.zero_le _, Nat.zero_le _⟩) ?_
  rintro r rfl
  exact kk
theorem cb_S (C0 : CT p s args m own G kd n a) (w : Cond.methodLink own index y ∈ TB) (hD : MS y bytes maxL ret C np) (hrc : rm.cells = 0) (hrs : rm.slots = 0) (hR : rm.frames + 1 ≤ R.frames ∧ 8 + (maxL + 11) + rm.locals ≤ R.locals) : CallB R s args own index y bytes maxL ret (Cond.code y bytes maxL ret :: TB) rm 0 0 np ∧ (Cond.static y).before args s = true :=
  ⟨callB_of np C0.2.1 (gi_C hD.2.2.1) rfl hrc hrs (by rw [hD.2.2.2.1]; exact C0.2.1 _ hD.2.1) (C0.2.1 _ w) hD.2.2.2.2 hR, C0.2.1 _ hD.1⟩
/-- a static method that reads no memory -/
theorem m_pSi (C0 : CT p s args m own G kd n a) (hb : c.code = cc) (hml : c.maxLocals = nL) (hsz : ls.size = nL) (w : Cond.methodLink own index y ∈ TB) (hD : MS y bytes maxL ret C np) {q : Int32} (hM : Met l y (Cond.code y bytes maxL ret :: TB) rm (PN As) (SI q) 0 0 NF) (hrc : rm.cells = 0) (hrs : rm.slots = 0) (hR : rm.frames + 1 ≤ R.frames ∧ 8 + (maxL + 11) + rm.locals ≤ R.locals) (hn : As.length = np) (hst : st0 = As.reverse ++ rest) (hW : (rest.map fun v => v.category).sum ≤ 8) (hdg : decode cc pc = .ok (.invokestatic index, 3))
    (kk : W p l e R s m args below meth c H locs 0 0 Q (F0 m (pc + 3) ls (.int q :: rest))) : W p l e R s m args below meth c H locs 0 0 Q (F0 m pc ls st0) := by
  refine vp_callSi (W.runS (As := As) (rest := rest) (cf_A C0 hb hml) hM (cb_S C0 w hD hrc hrs hR) preEq rfl hn hsz hst (lv_room hW) hdg ⟨Nat.zero_le _, Nat.zero_le _⟩) ?_
  rintro r rfl
  exact kk
theorem m_pSl (C0 : CT p s args m own G kd n a) (hb : c.code = cc) (hml : c.maxLocals = nL) (hsz : ls.size = nL) (w : Cond.methodLink own index y ∈ TB) (hD : MS y bytes maxL ret C np) {q : Int64} (hM : Met l y (Cond.code y bytes maxL ret :: TB) rm (PN As) (SL q) 0 0 NF) (hrc : rm.cells = 0) (hrs : rm.slots = 0) (hR : rm.frames + 1 ≤ R.frames ∧ 8 + (maxL + 11) + rm.locals ≤ R.locals) (hn : As.length = np) (hst : st0 = As.reverse ++ rest) (hW : (rest.map fun v => v.category).sum ≤ 8) (hdg : decode cc pc = .ok (.invokestatic index, 3))
    (kk : W p l e R s m args below meth c H locs 0 0 Q (F0 m (pc + 3) ls (.long q :: rest))) : W p l e R s m args below meth c H locs 0 0 Q (F0 m pc ls st0) := by
  refine vp_callSl (W.runS (As := As) (rest := rest) (cf_A C0 hb hml) hM (cb_S C0 w hD hrc hrs hR) preEq rfl hn hsz hst (lv_room hW) hdg ⟨Nat.zero_le _, Nat.zero_le _⟩) ?_
  rintro r rfl
  exact kk
/-- a static method that reads memory -/
theorem m_rSi (C0 : CT p s args m own G kd n a) (hb : c.code = cc) (hml : c.maxLocals = nL) (hsz : ls.size = nL) (w : Cond.methodLink own index y ∈ TB) (hD : MS y bytes maxL ret C np) {q : Int32} (hM : Met l y (Cond.code y bytes maxL ret :: TB) rm (PA G kd n a σ As) (SI q) 0 0 NF) (hrc : rm.cells = 0) (hrs : rm.slots = 0) (hR : rm.frames + 1 ≤ R.frames ∧ 8 + (maxL + 11) + rm.locals ≤ R.locals) (hP : HP G kd n a σ H) (hS : va_S (AW n a) s.heap H locs) (hn : As.length = np) (hst : st0 = As.reverse ++ rest) (hW : (rest.map fun v => v.category).sum ≤ 8) (hdg : decode cc pc = .ok (.invokestatic index, 3))
    (kk : W p l e R s m args below meth c H locs 0 0 Q (F0 m (pc + 3) ls (.int q :: rest))) : W p l e R s m args below meth c H locs 0 0 Q (F0 m pc ls st0) := by
  refine vp_callSi (W.runS (As := As) (rest := rest) (cf_A C0 hb hml) hM (cb_S C0 w hD hrc hrs hR) (ps_A C0 hP hS) rfl hn hsz hst (lv_room hW) hdg ⟨Nat.zero_le _, Nat.zero_le _⟩) ?_
  rintro r rfl
  exact kk
/-- the same, of a nest mate's private ones -/
theorem m_rNi (C0 : CT p s args m own G kd n a) (hb : c.code = cc) (hml : c.maxLocals = nL) (hsz : ls.size = nL) {host : String} (hl : va_Nw (.methodLinkNest own index y host) s) (hD : MS y bytes maxL ret C np) {q : Int32} (hM : Met l y (Cond.code y bytes maxL ret :: TB) rm (PA G kd n a σ As) (SI q) 0 0 NF) (hrc : rm.cells = 0) (hrs : rm.slots = 0) (hR : rm.frames + 1 ≤ R.frames ∧ 8 + (maxL + 11) + rm.locals ≤ R.locals) (hP : HP G kd n a σ H) (hS : va_S (AW n a) s.heap H locs) (hn : As.length = np) (hst : st0 = As.reverse ++ rest) (hW : (rest.map fun v => v.category).sum ≤ 8) (hdg : decode cc pc = .ok (.invokestatic index, 3))
    (kk : W p l e R s m args below meth c H locs 0 0 Q (F0 m (pc + 3) ls (.int q :: rest))) : W p l e R s m args below meth c H locs 0 0 Q (F0 m pc ls st0) := by
  have hr := va_runSN (cells := 0) (slots := 0) (below := below) (meth := meth) (e := e) (locs := locs) (g := F0 m pc ls st0) (As := As) (rest := rest) (cf_A C0 hb hml) hM (cw := ⟨va_cnB (R := R) np C0.2.1 (gi_C hD.2.2.1) rfl hrc hrs hl (by rw [hD.2.2.2.1]; exact C0.2.1 _ hD.2.1) hD.2.2.2.2 hR, C0.2.1 _ hD.1, trivial⟩) (ps_A C0 hP hS) rfl hn hsz hst (lv_room hW) hdg ⟨Nat.zero_le _, Nat.zero_le _⟩
  have hr2 : CallRun p l e R s m args below meth c H locs 0 0 0 0 (F0 m pc ls st0) rest (vp_Si (fun r => r = q) As.toArray) (fun _ => False) := fun T hT X => by
    obtain ⟨v, st₀, t, T', L, h0, X', hL, e1, -, hq, st⟩ := hr T hT X
    exact ⟨v, st₀, t, T', L, h0, X', hL, e1, hq, st⟩
  refine vp_callSi hr2 ?_
  rintro r rfl
  exact kk
end MC
end
