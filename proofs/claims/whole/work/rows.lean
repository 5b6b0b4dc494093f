section
-- ===== PART A: goes FIRST, ahead of the names: the tables' words, and 'selects' of the private methods out of them =====
/-- a private method of a class that the tables say can be made, by its rows of tables_1 -/
def lw_okq (q : MethodName × Nat) : Prop := (q.1.cls ≠ "java/lang/invoke/MethodHandle" ∧ q.1.cls ≠ "java/lang/invoke/VarHandle") ∧ Cond.instantiable q.1.cls q.2 ∈ tables_1 ∧ Cond.privateMethod q.1 ∈ tables_1 ∧ Cond.instanceMethod q.1 ∈ tables_1
theorem lw_p0 : lw_okq (⟨"ValveRiver", "finding", "(I)I"⟩, 9) := ⟨⟨by decide +kernel, by decide +kernel⟩, List.mem_of_getElem? (i := 16) (by decide +kernel), List.mem_of_getElem? (i := 201) (by decide +kernel), List.mem_of_getElem? (i := 202) (by decide +kernel)⟩
theorem lw_p1 : lw_okq (⟨"ValveRiver", "noWatcher", "(I)Z"⟩, 9) := ⟨⟨by decide +kernel, by decide +kernel⟩, List.mem_of_getElem? (i := 16) (by decide +kernel), List.mem_of_getElem? (i := 253) (by decide +kernel), List.mem_of_getElem? (i := 254) (by decide +kernel)⟩
theorem lw_p2 : lw_okq (⟨"ValveRiver$Watcher", "millBears", "()I"⟩, 5) := ⟨⟨by decide +kernel, by decide +kernel⟩, List.mem_of_getElem? (i := 63) (by decide +kernel), List.mem_of_getElem? (i := 261) (by decide +kernel), List.mem_of_getElem? (i := 262) (by decide +kernel)⟩
theorem lw_p3 : lw_okq (⟨"ValveRiver$Valley", "liveAll", "()V"⟩, 5) := ⟨⟨by decide +kernel, by decide +kernel⟩, List.mem_of_getElem? (i := 24) (by decide +kernel), List.mem_of_getElem? (i := 310) (by decide +kernel), List.mem_of_getElem? (i := 311) (by decide +kernel)⟩
theorem lw_p4 : lw_okq (⟨"ValveRiver", "waterTried", "()LValveRiver$Water;"⟩, 9) := ⟨⟨by decide +kernel, by decide +kernel⟩, List.mem_of_getElem? (i := 16) (by decide +kernel), List.mem_of_getElem? (i := 362) (by decide +kernel), List.mem_of_getElem? (i := 363) (by decide +kernel)⟩
theorem lw_p5 : lw_okq (⟨"ValveRiver", "isEnough", "(II)Z"⟩, 9) := ⟨⟨by decide +kernel, by decide +kernel⟩, List.mem_of_getElem? (i := 16) (by decide +kernel), List.mem_of_getElem? (i := 413) (by decide +kernel), List.mem_of_getElem? (i := 414) (by decide +kernel)⟩
theorem lw_p6 : lw_okq (⟨"ValveRiver", "noTrial", "(II)Z"⟩, 9) := ⟨⟨by decide +kernel, by decide +kernel⟩, List.mem_of_getElem? (i := 16) (by decide +kernel), List.mem_of_getElem? (i := 454) (by decide +kernel), List.mem_of_getElem? (i := 455) (by decide +kernel)⟩
theorem lw_p7 : lw_okq (⟨"ValveRiver", "mostBelieving", "(III)I"⟩, 9) := ⟨⟨by decide +kernel, by decide +kernel⟩, List.mem_of_getElem? (i := 16) (by decide +kernel), List.mem_of_getElem? (i := 458) (by decide +kernel), List.mem_of_getElem? (i := 459) (by decide +kernel)⟩
theorem lw_p8 : lw_okq (⟨"ValveRiver", "stir", "(I)V"⟩, 9) := ⟨⟨by decide +kernel, by decide +kernel⟩, List.mem_of_getElem? (i := 16) (by decide +kernel), List.mem_of_getElem? (i := 474) (by decide +kernel), List.mem_of_getElem? (i := 475) (by decide +kernel)⟩
theorem lw_p9 : lw_okq (⟨"ValveRiver", "fittingTrouble", "(III)I"⟩, 9) := ⟨⟨by decide +kernel, by decide +kernel⟩, List.mem_of_getElem? (i := 16) (by decide +kernel), List.mem_of_getElem? (i := 483) (by decide +kernel), List.mem_of_getElem? (i := 484) (by decide +kernel)⟩
theorem lw_p10 : lw_okq (⟨"ValveRiver", "sheetTrouble", "(I)I"⟩, 9) := ⟨⟨by decide +kernel, by decide +kernel⟩, List.mem_of_getElem? (i := 16) (by decide +kernel), List.mem_of_getElem? (i := 487) (by decide +kernel), List.mem_of_getElem? (i := 488) (by decide +kernel)⟩
theorem lw_p11 : lw_okq (⟨"ValveRiver", "couldBeOpened", "(ILValveRiver$Sheet;II)Z"⟩, 9) := ⟨⟨by decide +kernel, by decide +kernel⟩, List.mem_of_getElem? (i := 16) (by decide +kernel), List.mem_of_getElem? (i := 496) (by decide +kernel), List.mem_of_getElem? (i := 497) (by decide +kernel)⟩
theorem lw_p12 : lw_okq (⟨"ValveRiver", "couldBeOfKind", "(ILValveRiver$Sheet;I)Z"⟩, 9) := ⟨⟨by decide +kernel, by decide +kernel⟩, List.mem_of_getElem? (i := 16) (by decide +kernel), List.mem_of_getElem? (i := 512) (by decide +kernel), List.mem_of_getElem? (i := 513) (by decide +kernel)⟩
theorem lw_p13 : lw_okq (⟨"ValveRiver$Reader", "advance", "()V"⟩, 6) := ⟨⟨by decide +kernel, by decide +kernel⟩, List.mem_of_getElem? (i := 138) (by decide +kernel), List.mem_of_getElem? (i := 563) (by decide +kernel), List.mem_of_getElem? (i := 564) (by decide +kernel)⟩
theorem lw_p14 : lw_okq (⟨"ValveRiver$Reader", "readItem", "(LValveRiver$Valley;)V"⟩, 6) := ⟨⟨by decide +kernel, by decide +kernel⟩, List.mem_of_getElem? (i := 138) (by decide +kernel), List.mem_of_getElem? (i := 570) (by decide +kernel), List.mem_of_getElem? (i := 571) (by decide +kernel)⟩
theorem lw_p15 : lw_okq (⟨"ValveRiver$Reader", "kindNamed", "()I"⟩, 6) := ⟨⟨by decide +kernel, by decide +kernel⟩, List.mem_of_getElem? (i := 138) (by decide +kernel), List.mem_of_getElem? (i := 574) (by decide +kernel), List.mem_of_getElem? (i := 575) (by decide +kernel)⟩
def lw_privs_1 : List (MethodName × Nat) := [(⟨"ValveRiver", "finding", "(I)I"⟩, 9), (⟨"ValveRiver", "noWatcher", "(I)Z"⟩, 9), (⟨"ValveRiver$Watcher", "millBears", "()I"⟩, 5), (⟨"ValveRiver$Valley", "liveAll", "()V"⟩, 5), (⟨"ValveRiver", "waterTried", "()LValveRiver$Water;"⟩, 9), (⟨"ValveRiver", "isEnough", "(II)Z"⟩, 9), (⟨"ValveRiver", "noTrial", "(II)Z"⟩, 9), (⟨"ValveRiver", "mostBelieving", "(III)I"⟩, 9), (⟨"ValveRiver", "stir", "(I)V"⟩, 9), (⟨"ValveRiver", "fittingTrouble", "(III)I"⟩, 9), (⟨"ValveRiver", "sheetTrouble", "(I)I"⟩, 9), (⟨"ValveRiver", "couldBeOpened", "(ILValveRiver$Sheet;II)Z"⟩, 9), (⟨"ValveRiver", "couldBeOfKind", "(ILValveRiver$Sheet;I)Z"⟩, 9), (⟨"ValveRiver$Reader", "advance", "()V"⟩, 6), (⟨"ValveRiver$Reader", "readItem", "(LValveRiver$Valley;)V"⟩, 6), (⟨"ValveRiver$Reader", "kindNamed", "()I"⟩, 6)]
theorem lw_r1 : ∀ q ∈ lw_privs_1, lw_okq q := List.forall_mem_cons.mpr ⟨lw_p0, List.forall_mem_cons.mpr ⟨lw_p1, List.forall_mem_cons.mpr ⟨lw_p2, List.forall_mem_cons.mpr ⟨lw_p3, List.forall_mem_cons.mpr ⟨lw_p4, List.forall_mem_cons.mpr ⟨lw_p5, List.forall_mem_cons.mpr ⟨lw_p6, List.forall_mem_cons.mpr ⟨lw_p7, List.forall_mem_cons.mpr ⟨lw_p8, List.forall_mem_cons.mpr ⟨lw_p9, List.forall_mem_cons.mpr ⟨lw_p10, List.forall_mem_cons.mpr ⟨lw_p11, List.forall_mem_cons.mpr ⟨lw_p12, List.forall_mem_cons.mpr ⟨lw_p13, List.forall_mem_cons.mpr ⟨lw_p14, List.forall_mem_cons.mpr ⟨lw_p15, fun _ h => absurd h List.not_mem_nil⟩⟩⟩⟩⟩⟩⟩⟩⟩⟩⟩⟩⟩⟩⟩⟩
theorem lw_p16 : lw_okq (⟨"ValveRiver$Reader", "isWord", "(Ljava/lang/String;)Z"⟩, 6) := ⟨⟨by decide +kernel, by decide +kernel⟩, List.mem_of_getElem? (i := 138) (by decide +kernel), List.mem_of_getElem? (i := 588) (by decide +kernel), List.mem_of_getElem? (i := 589) (by decide +kernel)⟩
theorem lw_p17 : lw_okq (⟨"ValveRiver$Reader", "readWatcher", "(ILValveRiver$Valley;)V"⟩, 6) := ⟨⟨by decide +kernel, by decide +kernel⟩, List.mem_of_getElem? (i := 138) (by decide +kernel), List.mem_of_getElem? (i := 640) (by decide +kernel), List.mem_of_getElem? (i := 641) (by decide +kernel)⟩
theorem lw_p18 : lw_okq (⟨"ValveRiver$Reader", "faultHere", "()V"⟩, 6) := ⟨⟨by decide +kernel, by decide +kernel⟩, List.mem_of_getElem? (i := 138) (by decide +kernel), List.mem_of_getElem? (i := 645) (by decide +kernel), List.mem_of_getElem? (i := 646) (by decide +kernel)⟩
theorem lw_p19 : lw_okq (⟨"ValveRiver$Reader", "takes", "(Ljava/lang/String;)Z"⟩, 6) := ⟨⟨by decide +kernel, by decide +kernel⟩, List.mem_of_getElem? (i := 138) (by decide +kernel), List.mem_of_getElem? (i := 651) (by decide +kernel), List.mem_of_getElem? (i := 652) (by decide +kernel)⟩
theorem lw_p20 : lw_okq (⟨"ValveRiver$Reader", "takeNumber", "(I)I"⟩, 6) := ⟨⟨by decide +kernel, by decide +kernel⟩, List.mem_of_getElem? (i := 138) (by decide +kernel), List.mem_of_getElem? (i := 655) (by decide +kernel), List.mem_of_getElem? (i := 656) (by decide +kernel)⟩
theorem lw_p21 : lw_okq (⟨"ValveRiver$Reader", "numberHere", "()I"⟩, 6) := ⟨⟨by decide +kernel, by decide +kernel⟩, List.mem_of_getElem? (i := 138) (by decide +kernel), List.mem_of_getElem? (i := 659) (by decide +kernel), List.mem_of_getElem? (i := 660) (by decide +kernel)⟩
theorem lw_p22 : lw_okq (⟨"ValveRiver$Reader", "readInto", "([II)V"⟩, 6) := ⟨⟨by decide +kernel, by decide +kernel⟩, List.mem_of_getElem? (i := 138) (by decide +kernel), List.mem_of_getElem? (i := 671) (by decide +kernel), List.mem_of_getElem? (i := 672) (by decide +kernel)⟩
theorem lw_p23 : lw_okq (⟨"ValveRiver$Reader", "readSteady", "(LValveRiver$Water;)V"⟩, 6) := ⟨⟨by decide +kernel, by decide +kernel⟩, List.mem_of_getElem? (i := 138) (by decide +kernel), List.mem_of_getElem? (i := 677) (by decide +kernel), List.mem_of_getElem? (i := 678) (by decide +kernel)⟩
theorem lw_p24 : lw_okq (⟨"ValveRiverModel", "becomes", "(II)I"⟩, 22) := ⟨⟨by decide +kernel, by decide +kernel⟩, List.mem_of_getElem? (i := 759) (by decide +kernel), List.mem_of_getElem? (i := 844) (by decide +kernel), List.mem_of_getElem? (i := 845) (by decide +kernel)⟩
theorem lw_p25 : lw_okq (⟨"ValveRiverModel", "finds", "(I)I"⟩, 22) := ⟨⟨by decide +kernel, by decide +kernel⟩, List.mem_of_getElem? (i := 759) (by decide +kernel), List.mem_of_getElem? (i := 849) (by decide +kernel), List.mem_of_getElem? (i := 850) (by decide +kernel)⟩
theorem lw_p26 : lw_okq (⟨"ValveRiverModel", "openings", "()I"⟩, 22) := ⟨⟨by decide +kernel, by decide +kernel⟩, List.mem_of_getElem? (i := 759) (by decide +kernel), List.mem_of_getElem? (i := 877) (by decide +kernel), List.mem_of_getElem? (i := 878) (by decide +kernel)⟩
theorem lw_p27 : lw_okq (⟨"ValveRiverModel", "opensAll", "(I)V"⟩, 22) := ⟨⟨by decide +kernel, by decide +kernel⟩, List.mem_of_getElem? (i := 759) (by decide +kernel), List.mem_of_getElem? (i := 881) (by decide +kernel), List.mem_of_getElem? (i := 882) (by decide +kernel)⟩
theorem lw_p28 : lw_okq (⟨"ValveRiverModel", "adds", "(II)I"⟩, 22) := ⟨⟨by decide +kernel, by decide +kernel⟩, List.mem_of_getElem? (i := 759) (by decide +kernel), List.mem_of_getElem? (i := 894) (by decide +kernel), List.mem_of_getElem? (i := 895) (by decide +kernel)⟩
theorem lw_p29 : lw_okq (⟨"ValveRiverModel", "isWatcher", "(I)Z"⟩, 22) := ⟨⟨by decide +kernel, by decide +kernel⟩, List.mem_of_getElem? (i := 759) (by decide +kernel), List.mem_of_getElem? (i := 905) (by decide +kernel), List.mem_of_getElem? (i := 906) (by decide +kernel)⟩
theorem lw_p30 : lw_okq (⟨"ValveRiverModel", "its", "(II)I"⟩, 22) := ⟨⟨by decide +kernel, by decide +kernel⟩, List.mem_of_getElem? (i := 759) (by decide +kernel), List.mem_of_getElem? (i := 909) (by decide +kernel), List.mem_of_getElem? (i := 910) (by decide +kernel)⟩
theorem lw_p31 : lw_okq (⟨"ValveRiverModel", "bears", "(I)I"⟩, 22) := ⟨⟨by decide +kernel, by decide +kernel⟩, List.mem_of_getElem? (i := 759) (by decide +kernel), List.mem_of_getElem? (i := 913) (by decide +kernel), List.mem_of_getElem? (i := 914) (by decide +kernel)⟩
def lw_privs_2 : List (MethodName × Nat) := [(⟨"ValveRiver$Reader", "isWord", "(Ljava/lang/String;)Z"⟩, 6), (⟨"ValveRiver$Reader", "readWatcher", "(ILValveRiver$Valley;)V"⟩, 6), (⟨"ValveRiver$Reader", "faultHere", "()V"⟩, 6), (⟨"ValveRiver$Reader", "takes", "(Ljava/lang/String;)Z"⟩, 6), (⟨"ValveRiver$Reader", "takeNumber", "(I)I"⟩, 6), (⟨"ValveRiver$Reader", "numberHere", "()I"⟩, 6), (⟨"ValveRiver$Reader", "readInto", "([II)V"⟩, 6), (⟨"ValveRiver$Reader", "readSteady", "(LValveRiver$Water;)V"⟩, 6), (⟨"ValveRiverModel", "becomes", "(II)I"⟩, 22), (⟨"ValveRiverModel", "finds", "(I)I"⟩, 22), (⟨"ValveRiverModel", "openings", "()I"⟩, 22), (⟨"ValveRiverModel", "opensAll", "(I)V"⟩, 22), (⟨"ValveRiverModel", "adds", "(II)I"⟩, 22), (⟨"ValveRiverModel", "isWatcher", "(I)Z"⟩, 22), (⟨"ValveRiverModel", "its", "(II)I"⟩, 22), (⟨"ValveRiverModel", "bears", "(I)I"⟩, 22)]
theorem lw_r2 : ∀ q ∈ lw_privs_2, lw_okq q := List.forall_mem_cons.mpr ⟨lw_p16, List.forall_mem_cons.mpr ⟨lw_p17, List.forall_mem_cons.mpr ⟨lw_p18, List.forall_mem_cons.mpr ⟨lw_p19, List.forall_mem_cons.mpr ⟨lw_p20, List.forall_mem_cons.mpr ⟨lw_p21, List.forall_mem_cons.mpr ⟨lw_p22, List.forall_mem_cons.mpr ⟨lw_p23, List.forall_mem_cons.mpr ⟨lw_p24, List.forall_mem_cons.mpr ⟨lw_p25, List.forall_mem_cons.mpr ⟨lw_p26, List.forall_mem_cons.mpr ⟨lw_p27, List.forall_mem_cons.mpr ⟨lw_p28, List.forall_mem_cons.mpr ⟨lw_p29, List.forall_mem_cons.mpr ⟨lw_p30, List.forall_mem_cons.mpr ⟨lw_p31, fun _ h => absurd h List.not_mem_nil⟩⟩⟩⟩⟩⟩⟩⟩⟩⟩⟩⟩⟩⟩⟩⟩
theorem lw_p32 : lw_okq (⟨"ValveRiverModel", "doubts", "(I)I"⟩, 22) := ⟨⟨by decide +kernel, by decide +kernel⟩, List.mem_of_getElem? (i := 759) (by decide +kernel), List.mem_of_getElem? (i := 917) (by decide +kernel), List.mem_of_getElem? (i := 918) (by decide +kernel)⟩
theorem lw_p33 : lw_okq (⟨"ValveRiverModel", "trusts", "(I)I"⟩, 22) := ⟨⟨by decide +kernel, by decide +kernel⟩, List.mem_of_getElem? (i := 759) (by decide +kernel), List.mem_of_getElem? (i := 921) (by decide +kernel), List.mem_of_getElem? (i := 922) (by decide +kernel)⟩
theorem lw_p34 : lw_okq (⟨"ValveRiverModel", "goesOn", "(I)V"⟩, 22) := ⟨⟨by decide +kernel, by decide +kernel⟩, List.mem_of_getElem? (i := 759) (by decide +kernel), List.mem_of_getElem? (i := 940) (by decide +kernel), List.mem_of_getElem? (i := 941) (by decide +kernel)⟩
theorem lw_p35 : lw_okq (⟨"ValveRiverModel", "hour", "()V"⟩, 22) := ⟨⟨by decide +kernel, by decide +kernel⟩, List.mem_of_getElem? (i := 759) (by decide +kernel), List.mem_of_getElem? (i := 944) (by decide +kernel), List.mem_of_getElem? (i := 945) (by decide +kernel)⟩
theorem lw_p36 : lw_okq (⟨"ValveRiverModel", "flows", "()V"⟩, 22) := ⟨⟨by decide +kernel, by decide +kernel⟩, List.mem_of_getElem? (i := 759) (by decide +kernel), List.mem_of_getElem? (i := 948) (by decide +kernel), List.mem_of_getElem? (i := 949) (by decide +kernel)⟩
theorem lw_p37 : lw_okq (⟨"ValveRiverModel", "sees", "(I)V"⟩, 22) := ⟨⟨by decide +kernel, by decide +kernel⟩, List.mem_of_getElem? (i := 759) (by decide +kernel), List.mem_of_getElem? (i := 953) (by decide +kernel), List.mem_of_getElem? (i := 954) (by decide +kernel)⟩
theorem lw_p38 : lw_okq (⟨"ValveRiverModel", "there", "(I)I"⟩, 22) := ⟨⟨by decide +kernel, by decide +kernel⟩, List.mem_of_getElem? (i := 759) (by decide +kernel), List.mem_of_getElem? (i := 957) (by decide +kernel), List.mem_of_getElem? (i := 958) (by decide +kernel)⟩
theorem lw_p39 : lw_okq (⟨"ValveRiverModel", "knowing", "()I"⟩, 22) := ⟨⟨by decide +kernel, by decide +kernel⟩, List.mem_of_getElem? (i := 759) (by decide +kernel), List.mem_of_getElem? (i := 964) (by decide +kernel), List.mem_of_getElem? (i := 965) (by decide +kernel)⟩
theorem lw_p40 : lw_okq (⟨"ValveRiverModel", "levels", "()I"⟩, 22) := ⟨⟨by decide +kernel, by decide +kernel⟩, List.mem_of_getElem? (i := 759) (by decide +kernel), List.mem_of_getElem? (i := 972) (by decide +kernel), List.mem_of_getElem? (i := 973) (by decide +kernel)⟩
theorem lw_p41 : lw_okq (⟨"ValveRiverModel", "wanting", "()I"⟩, 22) := ⟨⟨by decide +kernel, by decide +kernel⟩, List.mem_of_getElem? (i := 759) (by decide +kernel), List.mem_of_getElem? (i := 976) (by decide +kernel), List.mem_of_getElem? (i := 977) (by decide +kernel)⟩
theorem lw_p42 : lw_okq (⟨"ValveRiverModel", "beliefs", "()I"⟩, 22) := ⟨⟨by decide +kernel, by decide +kernel⟩, List.mem_of_getElem? (i := 759) (by decide +kernel), List.mem_of_getElem? (i := 980) (by decide +kernel), List.mem_of_getElem? (i := 981) (by decide +kernel)⟩
theorem lw_p43 : lw_okq (⟨"ValveRiverModel", "behind", "(II)I"⟩, 22) := ⟨⟨by decide +kernel, by decide +kernel⟩, List.mem_of_getElem? (i := 759) (by decide +kernel), List.mem_of_getElem? (i := 989) (by decide +kernel), List.mem_of_getElem? (i := 990) (by decide +kernel)⟩
theorem lw_p44 : lw_okq (⟨"ValveRiverModel", "laysAside", "()V"⟩, 22) := ⟨⟨by decide +kernel, by decide +kernel⟩, List.mem_of_getElem? (i := 759) (by decide +kernel), List.mem_of_getElem? (i := 993) (by decide +kernel), List.mem_of_getElem? (i := 994) (by decide +kernel)⟩
theorem lw_p45 : lw_okq (⟨"ValveRiverModel", "takesBack", "(I)I"⟩, 22) := ⟨⟨by decide +kernel, by decide +kernel⟩, List.mem_of_getElem? (i := 759) (by decide +kernel), List.mem_of_getElem? (i := 997) (by decide +kernel), List.mem_of_getElem? (i := 998) (by decide +kernel)⟩
theorem lw_p46 : lw_okq (⟨"ValveRiverModel", "until", "(IIZ)I"⟩, 22) := ⟨⟨by decide +kernel, by decide +kernel⟩, List.mem_of_getElem? (i := 759) (by decide +kernel), List.mem_of_getElem? (i := 1010) (by decide +kernel), List.mem_of_getElem? (i := 1011) (by decide +kernel)⟩
theorem lw_p47 : lw_okq (⟨"ValveRiverModel", "orNone", "(I)I"⟩, 22) := ⟨⟨by decide +kernel, by decide +kernel⟩, List.mem_of_getElem? (i := 759) (by decide +kernel), List.mem_of_getElem? (i := 1014) (by decide +kernel), List.mem_of_getElem? (i := 1015) (by decide +kernel)⟩
def lw_privs_3 : List (MethodName × Nat) := [(⟨"ValveRiverModel", "doubts", "(I)I"⟩, 22), (⟨"ValveRiverModel", "trusts", "(I)I"⟩, 22), (⟨"ValveRiverModel", "goesOn", "(I)V"⟩, 22), (⟨"ValveRiverModel", "hour", "()V"⟩, 22), (⟨"ValveRiverModel", "flows", "()V"⟩, 22), (⟨"ValveRiverModel", "sees", "(I)V"⟩, 22), (⟨"ValveRiverModel", "there", "(I)I"⟩, 22), (⟨"ValveRiverModel", "knowing", "()I"⟩, 22), (⟨"ValveRiverModel", "levels", "()I"⟩, 22), (⟨"ValveRiverModel", "wanting", "()I"⟩, 22), (⟨"ValveRiverModel", "beliefs", "()I"⟩, 22), (⟨"ValveRiverModel", "behind", "(II)I"⟩, 22), (⟨"ValveRiverModel", "laysAside", "()V"⟩, 22), (⟨"ValveRiverModel", "takesBack", "(I)I"⟩, 22), (⟨"ValveRiverModel", "until", "(IIZ)I"⟩, 22), (⟨"ValveRiverModel", "orNone", "(I)I"⟩, 22)]
theorem lw_r3 : ∀ q ∈ lw_privs_3, lw_okq q := List.forall_mem_cons.mpr ⟨lw_p32, List.forall_mem_cons.mpr ⟨lw_p33, List.forall_mem_cons.mpr ⟨lw_p34, List.forall_mem_cons.mpr ⟨lw_p35, List.forall_mem_cons.mpr ⟨lw_p36, List.forall_mem_cons.mpr ⟨lw_p37, List.forall_mem_cons.mpr ⟨lw_p38, List.forall_mem_cons.mpr ⟨lw_p39, List.forall_mem_cons.mpr ⟨lw_p40, List.forall_mem_cons.mpr ⟨lw_p41, List.forall_mem_cons.mpr ⟨lw_p42, List.forall_mem_cons.mpr ⟨lw_p43, List.forall_mem_cons.mpr ⟨lw_p44, List.forall_mem_cons.mpr ⟨lw_p45, List.forall_mem_cons.mpr ⟨lw_p46, List.forall_mem_cons.mpr ⟨lw_p47, fun _ h => absurd h List.not_mem_nil⟩⟩⟩⟩⟩⟩⟩⟩⟩⟩⟩⟩⟩⟩⟩⟩
theorem lw_p48 : lw_okq (⟨"ValveRiverModel", "leastOf", "(III)I"⟩, 22) := ⟨⟨by decide +kernel, by decide +kernel⟩, List.mem_of_getElem? (i := 759) (by decide +kernel), List.mem_of_getElem? (i := 1031) (by decide +kernel), List.mem_of_getElem? (i := 1032) (by decide +kernel)⟩
theorem lw_p49 : lw_okq (⟨"ValveRiverModel", "mostBelief", "(III)I"⟩, 22) := ⟨⟨by decide +kernel, by decide +kernel⟩, List.mem_of_getElem? (i := 759) (by decide +kernel), List.mem_of_getElem? (i := 1067) (by decide +kernel), List.mem_of_getElem? (i := 1068) (by decide +kernel)⟩
theorem lw_p50 : lw_okq (⟨"ValveRiverModel", "wrongOpened", "(III)I"⟩, 22) := ⟨⟨by decide +kernel, by decide +kernel⟩, List.mem_of_getElem? (i := 759) (by decide +kernel), List.mem_of_getElem? (i := 1087) (by decide +kernel), List.mem_of_getElem? (i := 1088) (by decide +kernel)⟩
theorem lw_p51 : lw_okq (⟨"ValveRiverModel", "wrong", "(I)I"⟩, 22) := ⟨⟨by decide +kernel, by decide +kernel⟩, List.mem_of_getElem? (i := 759) (by decide +kernel), List.mem_of_getElem? (i := 1091) (by decide +kernel), List.mem_of_getElem? (i := 1092) (by decide +kernel)⟩
theorem lw_p52 : lw_okq (⟨"ValveRiverModel", "findOpened", "(III)V"⟩, 22) := ⟨⟨by decide +kernel, by decide +kernel⟩, List.mem_of_getElem? (i := 759) (by decide +kernel), List.mem_of_getElem? (i := 1099) (by decide +kernel), List.mem_of_getElem? (i := 1100) (by decide +kernel)⟩
theorem lw_p53 : lw_okq (⟨"ValveRiverModel", "isTold", "(II)Z"⟩, 22) := ⟨⟨by decide +kernel, by decide +kernel⟩, List.mem_of_getElem? (i := 759) (by decide +kernel), List.mem_of_getElem? (i := 1103) (by decide +kernel), List.mem_of_getElem? (i := 1104) (by decide +kernel)⟩
theorem lw_p54 : lw_okq (⟨"ValveRiverModel", "draw", "()I"⟩, 22) := ⟨⟨by decide +kernel, by decide +kernel⟩, List.mem_of_getElem? (i := 759) (by decide +kernel), List.mem_of_getElem? (i := 1119) (by decide +kernel), List.mem_of_getElem? (i := 1120) (by decide +kernel)⟩
theorem lw_p55 : lw_okq (⟨"ValveRiverModel", "saves", "()V"⟩, 22) := ⟨⟨by decide +kernel, by decide +kernel⟩, List.mem_of_getElem? (i := 759) (by decide +kernel), List.mem_of_getElem? (i := 1144) (by decide +kernel), List.mem_of_getElem? (i := 1145) (by decide +kernel)⟩
theorem lw_p56 : lw_okq (⟨"ValveRiverModel", "token", "()V"⟩, 22) := ⟨⟨by decide +kernel, by decide +kernel⟩, List.mem_of_getElem? (i := 759) (by decide +kernel), List.mem_of_getElem? (i := 1148) (by decide +kernel), List.mem_of_getElem? (i := 1149) (by decide +kernel)⟩
theorem lw_p57 : lw_okq (⟨"ValveRiverModel", "byteAt", "(I)I"⟩, 22) := ⟨⟨by decide +kernel, by decide +kernel⟩, List.mem_of_getElem? (i := 759) (by decide +kernel), List.mem_of_getElem? (i := 1152) (by decide +kernel), List.mem_of_getElem? (i := 1153) (by decide +kernel)⟩
theorem lw_p58 : lw_okq (⟨"ValveRiverModel", "item", "()V"⟩, 22) := ⟨⟨by decide +kernel, by decide +kernel⟩, List.mem_of_getElem? (i := 759) (by decide +kernel), List.mem_of_getElem? (i := 1166) (by decide +kernel), List.mem_of_getElem? (i := 1167) (by decide +kernel)⟩
theorem lw_p59 : lw_okq (⟨"ValveRiverModel", "kindHere", "()I"⟩, 22) := ⟨⟨by decide +kernel, by decide +kernel⟩, List.mem_of_getElem? (i := 759) (by decide +kernel), List.mem_of_getElem? (i := 1170) (by decide +kernel), List.mem_of_getElem? (i := 1171) (by decide +kernel)⟩
theorem lw_p60 : lw_okq (⟨"ValveRiverModel", "word", "()J"⟩, 22) := ⟨⟨by decide +kernel, by decide +kernel⟩, List.mem_of_getElem? (i := 759) (by decide +kernel), List.mem_of_getElem? (i := 1174) (by decide +kernel), List.mem_of_getElem? (i := 1175) (by decide +kernel)⟩
theorem lw_p61 : lw_okq (⟨"ValveRiverModel", "watcherItem", "(I)V"⟩, 22) := ⟨⟨by decide +kernel, by decide +kernel⟩, List.mem_of_getElem? (i := 759) (by decide +kernel), List.mem_of_getElem? (i := 1187) (by decide +kernel), List.mem_of_getElem? (i := 1188) (by decide +kernel)⟩
theorem lw_p62 : lw_okq (⟨"ValveRiverModel", "must", "(Z)V"⟩, 22) := ⟨⟨by decide +kernel, by decide +kernel⟩, List.mem_of_getElem? (i := 759) (by decide +kernel), List.mem_of_getElem? (i := 1191) (by decide +kernel), List.mem_of_getElem? (i := 1192) (by decide +kernel)⟩
theorem lw_p63 : lw_okq (⟨"ValveRiverModel", "perhaps", "(JII)V"⟩, 22) := ⟨⟨by decide +kernel, by decide +kernel⟩, List.mem_of_getElem? (i := 759) (by decide +kernel), List.mem_of_getElem? (i := 1196) (by decide +kernel), List.mem_of_getElem? (i := 1197) (by decide +kernel)⟩
def lw_privs_4 : List (MethodName × Nat) := [(⟨"ValveRiverModel", "leastOf", "(III)I"⟩, 22), (⟨"ValveRiverModel", "mostBelief", "(III)I"⟩, 22), (⟨"ValveRiverModel", "wrongOpened", "(III)I"⟩, 22), (⟨"ValveRiverModel", "wrong", "(I)I"⟩, 22), (⟨"ValveRiverModel", "findOpened", "(III)V"⟩, 22), (⟨"ValveRiverModel", "isTold", "(II)Z"⟩, 22), (⟨"ValveRiverModel", "draw", "()I"⟩, 22), (⟨"ValveRiverModel", "saves", "()V"⟩, 22), (⟨"ValveRiverModel", "token", "()V"⟩, 22), (⟨"ValveRiverModel", "byteAt", "(I)I"⟩, 22), (⟨"ValveRiverModel", "item", "()V"⟩, 22), (⟨"ValveRiverModel", "kindHere", "()I"⟩, 22), (⟨"ValveRiverModel", "word", "()J"⟩, 22), (⟨"ValveRiverModel", "watcherItem", "(I)V"⟩, 22), (⟨"ValveRiverModel", "must", "(Z)V"⟩, 22), (⟨"ValveRiverModel", "perhaps", "(JII)V"⟩, 22)]
theorem lw_r4 : ∀ q ∈ lw_privs_4, lw_okq q := List.forall_mem_cons.mpr ⟨lw_p48, List.forall_mem_cons.mpr ⟨lw_p49, List.forall_mem_cons.mpr ⟨lw_p50, List.forall_mem_cons.mpr ⟨lw_p51, List.forall_mem_cons.mpr ⟨lw_p52, List.forall_mem_cons.mpr ⟨lw_p53, List.forall_mem_cons.mpr ⟨lw_p54, List.forall_mem_cons.mpr ⟨lw_p55, List.forall_mem_cons.mpr ⟨lw_p56, List.forall_mem_cons.mpr ⟨lw_p57, List.forall_mem_cons.mpr ⟨lw_p58, List.forall_mem_cons.mpr ⟨lw_p59, List.forall_mem_cons.mpr ⟨lw_p60, List.forall_mem_cons.mpr ⟨lw_p61, List.forall_mem_cons.mpr ⟨lw_p62, List.forall_mem_cons.mpr ⟨lw_p63, fun _ h => absurd h List.not_mem_nil⟩⟩⟩⟩⟩⟩⟩⟩⟩⟩⟩⟩⟩⟩⟩⟩
theorem lw_p64 : lw_okq (⟨"ValveRiverModel", "number", "(II)V"⟩, 22) := ⟨⟨by decide +kernel, by decide +kernel⟩, List.mem_of_getElem? (i := 759) (by decide +kernel), List.mem_of_getElem? (i := 1200) (by decide +kernel), List.mem_of_getElem? (i := 1201) (by decide +kernel)⟩
theorem lw_p65 : lw_okq (⟨"ValveRiverModel", "rowItem", "(III)V"⟩, 22) := ⟨⟨by decide +kernel, by decide +kernel⟩, List.mem_of_getElem? (i := 759) (by decide +kernel), List.mem_of_getElem? (i := 1207) (by decide +kernel), List.mem_of_getElem? (i := 1208) (by decide +kernel)⟩
theorem lw_p66 : lw_okq (⟨"ValveRiverModel", "putsBack", "()V"⟩, 22) := ⟨⟨by decide +kernel, by decide +kernel⟩, List.mem_of_getElem? (i := 759) (by decide +kernel), List.mem_of_getElem? (i := 1213) (by decide +kernel), List.mem_of_getElem? (i := 1214) (by decide +kernel)⟩
theorem lw_p67 : lw_okq (⟨"ValveRiverModel", "heldSpots", "()I"⟩, 22) := ⟨⟨by decide +kernel, by decide +kernel⟩, List.mem_of_getElem? (i := 759) (by decide +kernel), List.mem_of_getElem? (i := 1273) (by decide +kernel), List.mem_of_getElem? (i := 1274) (by decide +kernel)⟩
def lw_privs_5 : List (MethodName × Nat) := [(⟨"ValveRiverModel", "number", "(II)V"⟩, 22), (⟨"ValveRiverModel", "rowItem", "(III)V"⟩, 22), (⟨"ValveRiverModel", "putsBack", "()V"⟩, 22), (⟨"ValveRiverModel", "heldSpots", "()I"⟩, 22)]
theorem lw_r5 : ∀ q ∈ lw_privs_5, lw_okq q := List.forall_mem_cons.mpr ⟨lw_p64, List.forall_mem_cons.mpr ⟨lw_p65, List.forall_mem_cons.mpr ⟨lw_p66, List.forall_mem_cons.mpr ⟨lw_p67, fun _ h => absurd h List.not_mem_nil⟩⟩⟩⟩
def lw_privs : List (MethodName × Nat) := lw_privs_1 ++ (lw_privs_2 ++ (lw_privs_3 ++ (lw_privs_4 ++ (lw_privs_5))))
def lw_tbl : List Cond := k2_sels lw_privs ++ tables_1
theorem lw_privs_ok : ∀ q ∈ lw_privs, lw_okq q := by
  show ∀ q ∈ lw_privs_1 ++ (lw_privs_2 ++ (lw_privs_3 ++ (lw_privs_4 ++ (lw_privs_5)))), lw_okq q
  exact List.forall_mem_append.mpr ⟨lw_r1, List.forall_mem_append.mpr ⟨lw_r2, List.forall_mem_append.mpr ⟨lw_r3, List.forall_mem_append.mpr ⟨lw_r4, lw_r5⟩⟩⟩⟩
end
section

def RX0 : String := "ValveRiver$Reader"
def TX0 : u_T := fun k => match k with
  | 0 => ("ValveRiver$Reader", "tape", "[I", true)
  | 1 => ("ValveRiver$Reader", "length", "I", false)
  | 2 => ("ValveRiver$Reader", "fault", "I", false)
  | 3 => ("ValveRiver$Reader", "token", "I", false)
  | 4 => ("ValveRiver$Reader", "start", "I", false)
  | _ => ("ValveRiver$Reader", "end", "I", false)
def tyX0 : Nat → FieldType := fun k => match k with
  | 0 => .array .int
  | 1 => .int
  | 2 => .int
  | 3 => .int
  | 4 => .int
  | _ => .int
theorem nmX0 : ∀ a, a < 6 → ∀ b, b < 6 → a ≠ b → (TX0 a).2.1 ≠ (TX0 b).2.1 := by decide +kernel
theorem tyX0_ok : ∀ k, k < 6 → parseFieldDescriptor (TX0 k).2.2.1 = some (tyX0 k) := by decide +kernel
abbrev cX0_init : ByteArray := prog_2_method_1_code
def yX0_init : MethodName := ⟨RX0, "<init>", "()V"⟩
abbrev cX0_put : ByteArray := prog_2_method_2_code
def yX0_put : MethodName := ⟨RX0, "put", "(I)V"⟩
abbrev cX0_hasFault : ByteArray := prog_2_method_3_code
def yX0_hasFault : MethodName := ⟨RX0, "hasFault", "()Z"⟩
abbrev cX0_read : ByteArray := prog_2_method_4_code
def yX0_read : MethodName := ⟨RX0, "read", "(LValveRiver$Valley;)I"⟩
abbrev cX0_readItem : ByteArray := prog_2_method_5_code
def yX0_readItem : MethodName := ⟨RX0, "readItem", "(LValveRiver$Valley;)V"⟩
abbrev cX0_readWatcher : ByteArray := prog_2_method_6_code
def yX0_readWatcher : MethodName := ⟨RX0, "readWatcher", "(ILValveRiver$Valley;)V"⟩
abbrev cX0_readInto : ByteArray := prog_2_method_7_code
def yX0_readInto : MethodName := ⟨RX0, "readInto", "([II)V"⟩
abbrev cX0_readSteady : ByteArray := prog_2_method_8_code
def yX0_readSteady : MethodName := ⟨RX0, "readSteady", "(LValveRiver$Water;)V"⟩
abbrev cX0_kindNamed : ByteArray := prog_2_method_9_code
def yX0_kindNamed : MethodName := ⟨RX0, "kindNamed", "()I"⟩
abbrev cX0_nameOf : ByteArray := prog_2_method_10_code
def yX0_nameOf : MethodName := ⟨RX0, "nameOf", "(I)Ljava/lang/String;"⟩
abbrev cX0_isWord : ByteArray := prog_2_method_11_code
def yX0_isWord : MethodName := ⟨RX0, "isWord", "(Ljava/lang/String;)Z"⟩
abbrev cX0_takes : ByteArray := prog_2_method_12_code
def yX0_takes : MethodName := ⟨RX0, "takes", "(Ljava/lang/String;)Z"⟩
abbrev cX0_takeNumber : ByteArray := prog_2_method_13_code
def yX0_takeNumber : MethodName := ⟨RX0, "takeNumber", "(I)I"⟩
abbrev cX0_numberHere : ByteArray := prog_2_method_14_code
def yX0_numberHere : MethodName := ⟨RX0, "numberHere", "()I"⟩
abbrev cX0_faultHere : ByteArray := prog_2_method_15_code
def yX0_faultHere : MethodName := ⟨RX0, "faultHere", "()V"⟩
abbrev cX0_advance : ByteArray := prog_2_method_16_code
def yX0_advance : MethodName := ⟨RX0, "advance", "()V"⟩
abbrev cX0_tokenOf : ByteArray := prog_2_method_17_code
def yX0_tokenOf : MethodName := ⟨RX0, "tokenOf", "(I)I"⟩
def RX1 : String := "ValveRiver$Sheet"
def TX1 : u_T := fun k => match k with
  | 0 => ("ValveRiver$Sheet", "numbers", "[I", true)
  | 1 => ("ValveRiver$Sheet", "bits", "I", false)
  | _ => ("ValveRiver$Sheet", "size", "I", false)
def tyX1 : Nat → FieldType := fun k => match k with
  | 0 => .array .int
  | 1 => .int
  | _ => .int
theorem nmX1 : ∀ a, a < 3 → ∀ b, b < 3 → a ≠ b → (TX1 a).2.1 ≠ (TX1 b).2.1 := by decide +kernel
theorem tyX1_ok : ∀ k, k < 3 → parseFieldDescriptor (TX1 k).2.2.1 = some (tyX1 k) := by decide +kernel
abbrev cX1_init : ByteArray := prog_3_method_1_code
def yX1_init : MethodName := ⟨RX1, "<init>", "()V"⟩
abbrev cX1_isMissing : ByteArray := prog_3_method_2_code
def yX1_isMissing : MethodName := ⟨RX1, "isMissing", "()Z"⟩
abbrev cX1_lay : ByteArray := prog_3_method_3_code
def yX1_lay : MethodName := ⟨RX1, "lay", "(II)V"⟩
abbrev cX1_put : ByteArray := prog_3_method_4_code
def yX1_put : MethodName := ⟨RX1, "put", "(II)V"⟩
abbrev cX1_has : ByteArray := prog_3_method_5_code
def yX1_has : MethodName := ⟨RX1, "has", "(II)Z"⟩
abbrev cX1_allows : ByteArray := prog_3_method_6_code
def yX1_allows : MethodName := ⟨RX1, "allows", "(II)Z"⟩
def RX2 : String := "ValveRiver$Valley"
def TX2 : u_T := fun k => match k with
  | 0 => ("ValveRiver$Valley", "water", "LValveRiver$Water;", true)
  | 1 => ("ValveRiver$Valley", "watchers", "[LValveRiver$Watcher;", true)
  | 2 => ("ValveRiver$Valley", "spots", "[I", true)
  | 3 => ("ValveRiver$Valley", "settled", "I", false)
  | _ => ("ValveRiver$Valley", "z", "I", false)
def tyX2 : Nat → FieldType := fun k => match k with
  | 0 => .object "ValveRiver$Water"
  | 1 => .array (.object "ValveRiver$Watcher")
  | 2 => .array .int
  | 3 => .int
  | _ => .int
theorem nmX2 : ∀ a, a < 5 → ∀ b, b < 5 → a ≠ b → (TX2 a).2.1 ≠ (TX2 b).2.1 := by decide +kernel
theorem tyX2_ok : ∀ k, k < 5 → parseFieldDescriptor (TX2 k).2.2.1 = some (tyX2 k) := by decide +kernel
abbrev cX2_init : ByteArray := prog_4_method_1_code
def yX2_init : MethodName := ⟨RX2, "<init>", "()V"⟩
abbrev cX2_become : ByteArray := prog_4_method_2_code
def yX2_become : MethodName := ⟨RX2, "become", "(LValveRiver$Valley;)V"⟩
abbrev cX2_isFull : ByteArray := prog_4_method_3_code
def yX2_isFull : MethodName := ⟨RX2, "isFull", "()Z"⟩
abbrev cX2_settle : ByteArray := prog_4_method_4_code
def yX2_settle : MethodName := ⟨RX2, "settle", "(II)I"⟩
abbrev cX2_pass : ByteArray := prog_4_method_5_code
def yX2_pass : MethodName := ⟨RX2, "pass", "(I)V"⟩
abbrev cX2_passShut : ByteArray := prog_4_method_6_code
def yX2_passShut : MethodName := ⟨RX2, "passShut", "()V"⟩
abbrev cX2_liveAll : ByteArray := prog_4_method_7_code
def yX2_liveAll : MethodName := ⟨RX2, "liveAll", "()V"⟩
abbrev cX2_staysHidden : ByteArray := prog_4_method_8_code
def yX2_staysHidden : MethodName := ⟨RX2, "staysHidden", "(II)Z"⟩
abbrev cX2_knowing : ByteArray := prog_4_method_9_code
def yX2_knowing : MethodName := ⟨RX2, "knowing", "()I"⟩
abbrev cX2_lacking : ByteArray := prog_4_method_10_code
def yX2_lacking : MethodName := ⟨RX2, "lacking", "()I"⟩
abbrev cX2_beliefsTogether : ByteArray := prog_4_method_11_code
def yX2_beliefsTogether : MethodName := ⟨RX2, "beliefsTogether", "()I"⟩
abbrev cX2_spotsHolding : ByteArray := prog_4_method_12_code
def yX2_spotsHolding : MethodName := ⟨RX2, "spotsHolding", "()I"⟩
abbrev cX2_draw : ByteArray := prog_4_method_13_code
def yX2_draw : MethodName := ⟨RX2, "draw", "()I"⟩
def RX3 : String := "ValveRiver$Watcher"
def TX3 : u_T := fun k => match k with
  | 0 => ("ValveRiver$Watcher", "kind", "I", false)
  | 1 => ("ValveRiver$Watcher", "cell", "I", false)
  | 2 => ("ValveRiver$Watcher", "want", "I", false)
  | 3 => ("ValveRiver$Watcher", "belief", "I", false)
  | _ => ("ValveRiver$Watcher", "thirst", "I", false)
def tyX3 : Nat → FieldType := fun k => match k with
  | 0 => .int
  | 1 => .int
  | 2 => .int
  | 3 => .int
  | _ => .int
theorem nmX3 : ∀ a, a < 5 → ∀ b, b < 5 → a ≠ b → (TX3 a).2.1 ≠ (TX3 b).2.1 := by decide +kernel
theorem tyX3_ok : ∀ k, k < 5 → parseFieldDescriptor (TX3 k).2.2.1 = some (tyX3 k) := by decide +kernel
abbrev cX3_init : ByteArray := prog_5_method_1_code
def yX3_init : MethodName := ⟨RX3, "<init>", "()V"⟩
abbrev cX3_begin : ByteArray := prog_5_method_2_code
def yX3_begin : MethodName := ⟨RX3, "begin", "(II)V"⟩
abbrev cX3_become : ByteArray := prog_5_method_3_code
def yX3_become : MethodName := ⟨RX3, "become", "(LValveRiver$Watcher;)V"⟩
abbrev cX3_set : ByteArray := prog_5_method_4_code
def yX3_set : MethodName := ⟨RX3, "set", "(II)I"⟩
abbrev cX3_knows : ByteArray := prog_5_method_5_code
def yX3_knows : MethodName := ⟨RX3, "knows", "()Z"⟩
abbrev cX3_lacks : ByteArray := prog_5_method_6_code
def yX3_lacks : MethodName := ⟨RX3, "lacks", "(I)Z"⟩
abbrev cX3_live : ByteArray := prog_5_method_7_code
def yX3_live : MethodName := ⟨RX3, "live", "(II)V"⟩
abbrev cX3_bears : ByteArray := prog_5_method_8_code
def yX3_bears : MethodName := ⟨RX3, "bears", "()I"⟩
abbrev cX3_millBears : ByteArray := prog_5_method_9_code
def yX3_millBears : MethodName := ⟨RX3, "millBears", "()I"⟩
abbrev cX3_doubts : ByteArray := prog_5_method_10_code
def yX3_doubts : MethodName := ⟨RX3, "doubts", "()I"⟩
abbrev cX3_trusts : ByteArray := prog_5_method_11_code
def yX3_trusts : MethodName := ⟨RX3, "trusts", "()I"⟩
abbrev cX3_isUnder : ByteArray := prog_5_method_12_code
def yX3_isUnder : MethodName := ⟨RX3, "isUnder", "(I)Z"⟩
abbrev cX3_kindAbove : ByteArray := prog_5_method_13_code
def yX3_kindAbove : MethodName := ⟨RX3, "kindAbove", "(I)I"⟩
def RX4 : String := "ValveRiver$Water"
def TX4 : u_T := fun k => match k with
  | 0 => ("ValveRiver$Water", "levels", "[I", true)
  | 1 => ("ValveRiver$Water", "before", "[I", true)
  | 2 => ("ValveRiver$Water", "openings", "[I", true)
  | 3 => ("ValveRiver$Water", "sea", "I", false)
  | _ => ("ValveRiver$Water", "hour", "I", false)
def tyX4 : Nat → FieldType := fun k => match k with
  | 0 => .array .int
  | 1 => .array .int
  | 2 => .array .int
  | 3 => .int
  | _ => .int
theorem nmX4 : ∀ a, a < 5 → ∀ b, b < 5 → a ≠ b → (TX4 a).2.1 ≠ (TX4 b).2.1 := by decide +kernel
theorem tyX4_ok : ∀ k, k < 5 → parseFieldDescriptor (TX4 k).2.2.1 = some (tyX4 k) := by decide +kernel
abbrev cX4_init : ByteArray := prog_6_method_1_code
def yX4_init : MethodName := ⟨RX4, "<init>", "()V"⟩
abbrev cX4_become : ByteArray := prog_6_method_2_code
def yX4_become : MethodName := ⟨RX4, "become", "(LValveRiver$Water;)V"⟩
abbrev cX4_openAll : ByteArray := prog_6_method_3_code
def yX4_openAll : MethodName := ⟨RX4, "openAll", "(I)V"⟩
abbrev cX4_run : ByteArray := prog_6_method_4_code
def yX4_run : MethodName := ⟨RX4, "run", "(I)V"⟩
abbrev cX4_flow : ByteArray := prog_6_method_5_code
def yX4_flow : MethodName := ⟨RX4, "flow", "(I)V"⟩
abbrev cX4_levelsTogether : ByteArray := prog_6_method_6_code
def yX4_levelsTogether : MethodName := ⟨RX4, "levelsTogether", "()I"⟩
abbrev cX4_openingsTogether : ByteArray := prog_6_method_7_code
def yX4_openingsTogether : MethodName := ⟨RX4, "openingsTogether", "()I"⟩
abbrev cX4_hoursOpen : ByteArray := prog_6_method_8_code
def yX4_hoursOpen : MethodName := ⟨RX4, "hoursOpen", "()I"⟩
def RX5 : String := "ValveRiver"
def TX5 : u_T := fun k => match k with
  | 0 => ("ValveRiver", "valley", "LValveRiver$Valley;", true)
  | 1 => ("ValveRiver", "kept", "LValveRiver$Valley;", true)
  | 2 => ("ValveRiver", "trial", "LValveRiver$Valley;", true)
  | 3 => ("ValveRiver", "asleep", "LValveRiver$Valley;", true)
  | 4 => ("ValveRiver", "stirred", "[I", true)
  | 5 => ("ValveRiver", "sheets", "[LValveRiver$Sheet;", true)
  | 6 => ("ValveRiver", "reader", "LValveRiver$Reader;", true)
  | 7 => ("ValveRiver", "findings", "[I", true)
  | _ => ("ValveRiver", "isKept", "Z", false)
def tyX5 : Nat → FieldType := fun k => match k with
  | 0 => .object "ValveRiver$Valley"
  | 1 => .object "ValveRiver$Valley"
  | 2 => .object "ValveRiver$Valley"
  | 3 => .object "ValveRiver$Valley"
  | 4 => .array .int
  | 5 => .array (.object "ValveRiver$Sheet")
  | 6 => .object "ValveRiver$Reader"
  | 7 => .array .int
  | _ => .boolean
theorem nmX5 : ∀ a, a < 9 → ∀ b, b < 9 → a ≠ b → (TX5 a).2.1 ≠ (TX5 b).2.1 := by decide +kernel
theorem tyX5_ok : ∀ k, k < 9 → parseFieldDescriptor (TX5 k).2.2.1 = some (tyX5 k) := by decide +kernel
abbrev cX5_init : ByteArray := prog_1_method_1_code
def yX5_init : MethodName := ⟨RX5, "<init>", "()V"⟩
abbrev cX5_level : ByteArray := prog_1_method_2_code
def yX5_level : MethodName := ⟨RX5, "level", "(II)I"⟩
abbrev cX5_stands : ByteArray := prog_1_method_3_code
def yX5_stands : MethodName := ⟨RX5, "stands", "(I)I"⟩
abbrev cX5_plan : ByteArray := prog_1_method_4_code
def yX5_plan : MethodName := ⟨RX5, "plan", "(II)I"⟩
abbrev cX5_opening : ByteArray := prog_1_method_5_code
def yX5_opening : MethodName := ⟨RX5, "opening", "(I)I"⟩
abbrev cX5_steady : ByteArray := prog_1_method_6_code
def yX5_steady : MethodName := ⟨RX5, "steady", "(I)I"⟩
abbrev cX5_watcher : ByteArray := prog_1_method_7_code
def yX5_watcher : MethodName := ⟨RX5, "watcher", "(II)I"⟩
abbrev cX5_of : ByteArray := prog_1_method_8_code
def yX5_of : MethodName := ⟨RX5, "of", "(II)I"⟩
abbrev cX5_change : ByteArray := prog_1_method_9_code
def yX5_change : MethodName := ⟨RX5, "change", "(III)I"⟩
abbrev cX5_go : ByteArray := prog_1_method_10_code
def yX5_go : MethodName := ⟨RX5, "go", "(I)I"⟩
abbrev cX5_now : ByteArray := prog_1_method_11_code
def yX5_now : MethodName := ⟨RX5, "now", "(I)I"⟩
abbrev cX5_ahead : ByteArray := prog_1_method_12_code
def yX5_ahead : MethodName := ⟨RX5, "ahead", "(II)I"⟩
abbrev cX5_belief : ByteArray := prog_1_method_13_code
def yX5_belief : MethodName := ⟨RX5, "belief", "(III)I"⟩
abbrev cX5_when : ByteArray := prog_1_method_14_code
def yX5_when : MethodName := ⟨RX5, "when", "(I)I"⟩
abbrev cX5_first : ByteArray := prog_1_method_15_code
def yX5_first : MethodName := ⟨RX5, "first", "()I"⟩
abbrev cX5_reaches : ByteArray := prog_1_method_16_code
def yX5_reaches : MethodName := ⟨RX5, "reaches", "(II)I"⟩
abbrev cX5_range : ByteArray := prog_1_method_17_code
def yX5_range : MethodName := ⟨RX5, "range", "(III)I"⟩
abbrev cX5_enough : ByteArray := prog_1_method_18_code
def yX5_enough : MethodName := ⟨RX5, "enough", "(I)I"⟩
abbrev cX5_hide : ByteArray := prog_1_method_19_code
def yX5_hide : MethodName := ⟨RX5, "hide", "(II)I"⟩
abbrev cX5_safe : ByteArray := prog_1_method_20_code
def yX5_safe : MethodName := ⟨RX5, "safe", "(II)I"⟩
abbrev cX5_sleep : ByteArray := prog_1_method_21_code
def yX5_sleep : MethodName := ⟨RX5, "sleep", "(I)I"⟩
abbrev cX5_turns : ByteArray := prog_1_method_22_code
def yX5_turns : MethodName := ⟨RX5, "turns", "()I"⟩
abbrev cX5_seat : ByteArray := prog_1_method_23_code
def yX5_seat : MethodName := ⟨RX5, "seat", "(II)I"⟩
abbrev cX5_kindFor : ByteArray := prog_1_method_24_code
def yX5_kindFor : MethodName := ⟨RX5, "kindFor", "(II)I"⟩
abbrev cX5_wantFor : ByteArray := prog_1_method_25_code
def yX5_wantFor : MethodName := ⟨RX5, "wantFor", "(II)I"⟩
abbrev cX5_watch : ByteArray := prog_1_method_26_code
def yX5_watch : MethodName := ⟨RX5, "watch", "(I)I"⟩
abbrev cX5_fits : ByteArray := prog_1_method_27_code
def yX5_fits : MethodName := ⟨RX5, "fits", "(III)I"⟩
abbrev cX5_opened : ByteArray := prog_1_method_28_code
def yX5_opened : MethodName := ⟨RX5, "opened", "(III)I"⟩
abbrev cX5_kinds : ByteArray := prog_1_method_29_code
def yX5_kinds : MethodName := ⟨RX5, "kinds", "(II)I"⟩
abbrev cX5_nights : ByteArray := prog_1_method_30_code
def yX5_nights : MethodName := ⟨RX5, "nights", "(I)I"⟩
abbrev cX5_odds : ByteArray := prog_1_method_31_code
def yX5_odds : MethodName := ⟨RX5, "odds", "(II)J"⟩
abbrev cX5_seed : ByteArray := prog_1_method_32_code
def yX5_seed : MethodName := ⟨RX5, "seed", "(I)I"⟩
abbrev cX5_feed : ByteArray := prog_1_method_33_code
def yX5_feed : MethodName := ⟨RX5, "feed", "(II)I"⟩
abbrev cX5_wipe : ByteArray := prog_1_method_34_code
def yX5_wipe : MethodName := ⟨RX5, "wipe", "()I"⟩
abbrev cX5_text : ByteArray := prog_1_method_35_code
def yX5_text : MethodName := ⟨RX5, "text", "()I"⟩
abbrev cX5_hold : ByteArray := prog_1_method_36_code
def yX5_hold : MethodName := ⟨RX5, "hold", "(II)I"⟩
abbrev cX5_as : ByteArray := prog_1_method_37_code
def yX5_as : MethodName := ⟨RX5, "as", "(II)I"⟩
abbrev cX5_sheet : ByteArray := prog_1_method_38_code
def yX5_sheet : MethodName := ⟨RX5, "sheet", "(III)I"⟩
abbrev cX5_write : ByteArray := prog_1_method_39_code
def yX5_write : MethodName := ⟨RX5, "write", "(III)I"⟩
abbrev cX5_copy : ByteArray := prog_1_method_40_code
def yX5_copy : MethodName := ⟨RX5, "copy", "(IIIII)I"⟩
abbrev cX5_load : ByteArray := prog_1_method_41_code
def yX5_load : MethodName := ⟨RX5, "load", "(I)I"⟩
abbrev cX5_judge : ByteArray := prog_1_method_42_code
def yX5_judge : MethodName := ⟨RX5, "judge", "(I)I"⟩
abbrev cX5_image : ByteArray := prog_1_method_43_code
def yX5_image : MethodName := ⟨RX5, "image", "()I"⟩
abbrev cX5_undo : ByteArray := prog_1_method_44_code
def yX5_undo : MethodName := ⟨RX5, "undo", "()I"⟩
abbrev cX5_tear : ByteArray := prog_1_method_45_code
def yX5_tear : MethodName := ⟨RX5, "tear", "()I"⟩
abbrev cX5_count : ByteArray := prog_1_method_46_code
def yX5_count : MethodName := ⟨RX5, "count", "(I)I"⟩
abbrev cX5_status : ByteArray := prog_1_method_47_code
def yX5_status : MethodName := ⟨RX5, "status", "(I)I"⟩
abbrev cX5_outside : ByteArray := prog_1_method_48_code
def yX5_outside : MethodName := ⟨RX5, "outside", "(II)Z"⟩
abbrev cX5_together : ByteArray := prog_1_method_49_code
def yX5_together : MethodName := ⟨RX5, "together", "([I)I"⟩
abbrev cX5_finding : ByteArray := prog_1_method_50_code
def yX5_finding : MethodName := ⟨RX5, "finding", "(I)I"⟩
abbrev cX5_noWatcher : ByteArray := prog_1_method_51_code
def yX5_noWatcher : MethodName := ⟨RX5, "noWatcher", "(I)Z"⟩
abbrev cX5_noTrial : ByteArray := prog_1_method_52_code
def yX5_noTrial : MethodName := ⟨RX5, "noTrial", "(II)Z"⟩
abbrev cX5_mostOf : ByteArray := prog_1_method_53_code
def yX5_mostOf : MethodName := ⟨RX5, "mostOf", "(I)I"⟩
abbrev cX5_waterTried : ByteArray := prog_1_method_54_code
def yX5_waterTried : MethodName := ⟨RX5, "waterTried", "()LValveRiver$Water;"⟩
abbrev cX5_isEnough : ByteArray := prog_1_method_55_code
def yX5_isEnough : MethodName := ⟨RX5, "isEnough", "(II)Z"⟩
abbrev cX5_mostBelieving : ByteArray := prog_1_method_56_code
def yX5_mostBelieving : MethodName := ⟨RX5, "mostBelieving", "(III)I"⟩
abbrev cX5_stir : ByteArray := prog_1_method_57_code
def yX5_stir : MethodName := ⟨RX5, "stir", "(I)V"⟩
abbrev cX5_sheetTrouble : ByteArray := prog_1_method_58_code
def yX5_sheetTrouble : MethodName := ⟨RX5, "sheetTrouble", "(I)I"⟩
abbrev cX5_fittingTrouble : ByteArray := prog_1_method_59_code
def yX5_fittingTrouble : MethodName := ⟨RX5, "fittingTrouble", "(III)I"⟩
abbrev cX5_couldBeOpened : ByteArray := prog_1_method_60_code
def yX5_couldBeOpened : MethodName := ⟨RX5, "couldBeOpened", "(ILValveRiver$Sheet;II)Z"⟩
abbrev cX5_couldBeOfKind : ByteArray := prog_1_method_61_code
def yX5_couldBeOfKind : MethodName := ⟨RX5, "couldBeOfKind", "(ILValveRiver$Sheet;I)Z"⟩
abbrev cX5_commonDivisor : ByteArray := prog_1_method_62_code
def yX5_commonDivisor : MethodName := ⟨RX5, "commonDivisor", "(I)I"⟩
abbrev cX5_power : ByteArray := prog_1_method_63_code
def yX5_power : MethodName := ⟨RX5, "power", "(II)J"⟩
def RX6 : String := "ValveRiverModel"
def TX6 : u_T := fun k => match k with
  | 0 => ("ValveRiverModel", "s", "[I", true)
  | 1 => ("ValveRiverModel", "keptS", "[I", true)
  | 2 => ("ValveRiverModel", "other", "[I", true)
  | 3 => ("ValveRiverModel", "aside", "[I", true)
  | 4 => ("ValveRiverModel", "statuses", "[I", true)
  | 5 => ("ValveRiverModel", "isKept", "Z", false)
  | 6 => ("ValveRiverModel", "isShut", "Z", false)
  | 7 => ("ValveRiverModel", "was", "[I", true)
  | 8 => ("ValveRiverModel", "greatest", "I", false)
  | 9 => ("ValveRiverModel", "changes", "[I", true)
  | 10 => ("ValveRiverModel", "leastOpened", "I", false)
  | 11 => ("ValveRiverModel", "manyOpened", "I", false)
  | 12 => ("ValveRiverModel", "tape", "[I", true)
  | 13 => ("ValveRiverModel", "taped", "I", false)
  | 14 => ("ValveRiverModel", "from", "I", false)
  | 15 => ("ValveRiverModel", "to", "I", false)
  | 16 => ("ValveRiverModel", "value", "I", false)
  | 17 => ("ValveRiverModel", "isWrong", "Z", false)
  | 18 => ("ValveRiverModel", "bitsOf", "[I", true)
  | 19 => ("ValveRiverModel", "sizeOf", "[I", true)
  | 20 => ("ValveRiverModel", "numbers", "[I", true)
  | _ => ("ValveRiverModel", "moved", "[I", true)
def tyX6 : Nat → FieldType := fun k => match k with
  | 0 => .array .int
  | 1 => .array .int
  | 2 => .array .int
  | 3 => .array .int
  | 4 => .array .int
  | 5 => .boolean
  | 6 => .boolean
  | 7 => .array .int
  | 8 => .int
  | 9 => .array .int
  | 10 => .int
  | 11 => .int
  | 12 => .array .int
  | 13 => .int
  | 14 => .int
  | 15 => .int
  | 16 => .int
  | 17 => .boolean
  | 18 => .array .int
  | 19 => .array .int
  | 20 => .array .int
  | _ => .array .int
theorem nmX6 : ∀ a, a < 22 → ∀ b, b < 22 → a ≠ b → (TX6 a).2.1 ≠ (TX6 b).2.1 := by decide +kernel
theorem tyX6_ok : ∀ k, k < 22 → parseFieldDescriptor (TX6 k).2.2.1 = some (tyX6 k) := by decide +kernel
abbrev cX6_init : ByteArray := prog_8_method_1_code
def yX6_init : MethodName := ⟨RX6, "<init>", "()V"⟩
abbrev cX6_in : ByteArray := prog_8_method_2_code
def yX6_in : MethodName := ⟨RX6, "in", "(JJJ)Z"⟩
abbrev cX6_finds : ByteArray := prog_8_method_3_code
def yX6_finds : MethodName := ⟨RX6, "finds", "(I)I"⟩
abbrev cX6_saves : ByteArray := prog_8_method_4_code
def yX6_saves : MethodName := ⟨RX6, "saves", "()V"⟩
abbrev cX6_putsBack : ByteArray := prog_8_method_5_code
def yX6_putsBack : MethodName := ⟨RX6, "putsBack", "()V"⟩
abbrev cX6_laysAside : ByteArray := prog_8_method_6_code
def yX6_laysAside : MethodName := ⟨RX6, "laysAside", "()V"⟩
abbrev cX6_takesBack : ByteArray := prog_8_method_7_code
def yX6_takesBack : MethodName := ⟨RX6, "takesBack", "(I)I"⟩
abbrev cX6_becomes : ByteArray := prog_8_method_8_code
def yX6_becomes : MethodName := ⟨RX6, "becomes", "(II)I"⟩
abbrev cX6_isCell : ByteArray := prog_8_method_9_code
def yX6_isCell : MethodName := ⟨RX6, "isCell", "(I)Z"⟩
abbrev cX6_isHour : ByteArray := prog_8_method_10_code
def yX6_isHour : MethodName := ⟨RX6, "isHour", "(I)Z"⟩
abbrev cX6_isOpening : ByteArray := prog_8_method_11_code
def yX6_isOpening : MethodName := ⟨RX6, "isOpening", "(I)Z"⟩
abbrev cX6_isWatcher : ByteArray := prog_8_method_12_code
def yX6_isWatcher : MethodName := ⟨RX6, "isWatcher", "(I)Z"⟩
abbrev cX6_isKind : ByteArray := prog_8_method_13_code
def yX6_isKind : MethodName := ⟨RX6, "isKind", "(I)Z"⟩
abbrev cX6_place : ByteArray := prog_8_method_14_code
def yX6_place : MethodName := ⟨RX6, "place", "(II)I"⟩
abbrev cX6_its : ByteArray := prog_8_method_15_code
def yX6_its : MethodName := ⟨RX6, "its", "(II)I"⟩
abbrev cX6_there : ByteArray := prog_8_method_16_code
def yX6_there : MethodName := ⟨RX6, "there", "(I)I"⟩
abbrev cX6_level : ByteArray := prog_8_method_17_code
def yX6_level : MethodName := ⟨RX6, "level", "(II)I"⟩
abbrev cX6_stands : ByteArray := prog_8_method_18_code
def yX6_stands : MethodName := ⟨RX6, "stands", "(I)I"⟩
abbrev cX6_plan : ByteArray := prog_8_method_19_code
def yX6_plan : MethodName := ⟨RX6, "plan", "(II)I"⟩
abbrev cX6_opening : ByteArray := prog_8_method_20_code
def yX6_opening : MethodName := ⟨RX6, "opening", "(I)I"⟩
abbrev cX6_openings : ByteArray := prog_8_method_21_code
def yX6_openings : MethodName := ⟨RX6, "openings", "()I"⟩
abbrev cX6_opensAll : ByteArray := prog_8_method_22_code
def yX6_opensAll : MethodName := ⟨RX6, "opensAll", "(I)V"⟩
abbrev cX6_steady : ByteArray := prog_8_method_23_code
def yX6_steady : MethodName := ⟨RX6, "steady", "(I)I"⟩
abbrev cX6_adds : ByteArray := prog_8_method_24_code
def yX6_adds : MethodName := ⟨RX6, "adds", "(II)I"⟩
abbrev cX6_watcher : ByteArray := prog_8_method_25_code
def yX6_watcher : MethodName := ⟨RX6, "watcher", "(II)I"⟩
abbrev cX6_bears : ByteArray := prog_8_method_26_code
def yX6_bears : MethodName := ⟨RX6, "bears", "(I)I"⟩
abbrev cX6_doubts : ByteArray := prog_8_method_27_code
def yX6_doubts : MethodName := ⟨RX6, "doubts", "(I)I"⟩
abbrev cX6_trusts : ByteArray := prog_8_method_28_code
def yX6_trusts : MethodName := ⟨RX6, "trusts", "(I)I"⟩
abbrev cX6_of : ByteArray := prog_8_method_29_code
def yX6_of : MethodName := ⟨RX6, "of", "(II)I"⟩
abbrev cX6_most : ByteArray := prog_8_method_30_code
def yX6_most : MethodName := ⟨RX6, "most", "(I)I"⟩
abbrev cX6_change : ByteArray := prog_8_method_31_code
def yX6_change : MethodName := ⟨RX6, "change", "(III)I"⟩
abbrev cX6_flows : ByteArray := prog_8_method_32_code
def yX6_flows : MethodName := ⟨RX6, "flows", "()V"⟩
abbrev cX6_distance : ByteArray := prog_8_method_33_code
def yX6_distance : MethodName := ⟨RX6, "distance", "(II)I"⟩
abbrev cX6_sees : ByteArray := prog_8_method_34_code
def yX6_sees : MethodName := ⟨RX6, "sees", "(I)V"⟩
abbrev cX6_hour : ByteArray := prog_8_method_35_code
def yX6_hour : MethodName := ⟨RX6, "hour", "()V"⟩
abbrev cX6_goesOn : ByteArray := prog_8_method_36_code
def yX6_goesOn : MethodName := ⟨RX6, "goesOn", "(I)V"⟩
abbrev cX6_knowing : ByteArray := prog_8_method_37_code
def yX6_knowing : MethodName := ⟨RX6, "knowing", "()I"⟩
abbrev cX6_wanting : ByteArray := prog_8_method_38_code
def yX6_wanting : MethodName := ⟨RX6, "wanting", "()I"⟩
abbrev cX6_go : ByteArray := prog_8_method_39_code
def yX6_go : MethodName := ⟨RX6, "go", "(I)I"⟩
abbrev cX6_levels : ByteArray := prog_8_method_40_code
def yX6_levels : MethodName := ⟨RX6, "levels", "()I"⟩
abbrev cX6_beliefs : ByteArray := prog_8_method_41_code
def yX6_beliefs : MethodName := ⟨RX6, "beliefs", "()I"⟩
abbrev cX6_now : ByteArray := prog_8_method_42_code
def yX6_now : MethodName := ⟨RX6, "now", "(I)I"⟩
abbrev cX6_behind : ByteArray := prog_8_method_43_code
def yX6_behind : MethodName := ⟨RX6, "behind", "(II)I"⟩
abbrev cX6_ahead : ByteArray := prog_8_method_44_code
def yX6_ahead : MethodName := ⟨RX6, "ahead", "(II)I"⟩
abbrev cX6_belief : ByteArray := prog_8_method_45_code
def yX6_belief : MethodName := ⟨RX6, "belief", "(III)I"⟩
abbrev cX6_until : ByteArray := prog_8_method_46_code
def yX6_until : MethodName := ⟨RX6, "until", "(IIZ)I"⟩
abbrev cX6_orNone : ByteArray := prog_8_method_47_code
def yX6_orNone : MethodName := ⟨RX6, "orNone", "(I)I"⟩
abbrev cX6_when : ByteArray := prog_8_method_48_code
def yX6_when : MethodName := ⟨RX6, "when", "(I)I"⟩
abbrev cX6_first : ByteArray := prog_8_method_49_code
def yX6_first : MethodName := ⟨RX6, "first", "()I"⟩
abbrev cX6_reaches : ByteArray := prog_8_method_50_code
def yX6_reaches : MethodName := ⟨RX6, "reaches", "(II)I"⟩
abbrev cX6_leastOf : ByteArray := prog_8_method_51_code
def yX6_leastOf : MethodName := ⟨RX6, "leastOf", "(III)I"⟩
abbrev cX6_range : ByteArray := prog_8_method_52_code
def yX6_range : MethodName := ⟨RX6, "range", "(III)I"⟩
abbrev cX6_enough : ByteArray := prog_8_method_53_code
def yX6_enough : MethodName := ⟨RX6, "enough", "(I)I"⟩
abbrev cX6_isSoon : ByteArray := prog_8_method_54_code
def yX6_isSoon : MethodName := ⟨RX6, "isSoon", "(I)Z"⟩
abbrev cX6_ones : ByteArray := prog_8_method_55_code
def yX6_ones : MethodName := ⟨RX6, "ones", "(I)I"⟩
abbrev cX6_hide : ByteArray := prog_8_method_56_code
def yX6_hide : MethodName := ⟨RX6, "hide", "(II)I"⟩
abbrev cX6_safe : ByteArray := prog_8_method_57_code
def yX6_safe : MethodName := ⟨RX6, "safe", "(II)I"⟩
abbrev cX6_sleep : ByteArray := prog_8_method_58_code
def yX6_sleep : MethodName := ⟨RX6, "sleep", "(I)I"⟩
abbrev cX6_turns : ByteArray := prog_8_method_59_code
def yX6_turns : MethodName := ⟨RX6, "turns", "()I"⟩
abbrev cX6_mostBelief : ByteArray := prog_8_method_60_code
def yX6_mostBelief : MethodName := ⟨RX6, "mostBelief", "(III)I"⟩
abbrev cX6_seat : ByteArray := prog_8_method_61_code
def yX6_seat : MethodName := ⟨RX6, "seat", "(II)I"⟩
abbrev cX6_kindFor : ByteArray := prog_8_method_62_code
def yX6_kindFor : MethodName := ⟨RX6, "kindFor", "(II)I"⟩
abbrev cX6_wantFor : ByteArray := prog_8_method_63_code
def yX6_wantFor : MethodName := ⟨RX6, "wantFor", "(II)I"⟩
abbrev cX6_watch : ByteArray := prog_8_method_64_code
def yX6_watch : MethodName := ⟨RX6, "watch", "(I)I"⟩
abbrev cX6_isTold : ByteArray := prog_8_method_65_code
def yX6_isTold : MethodName := ⟨RX6, "isTold", "(II)Z"⟩
abbrev cX6_findOpened : ByteArray := prog_8_method_66_code
def yX6_findOpened : MethodName := ⟨RX6, "findOpened", "(III)V"⟩
abbrev cX6_wrongOpened : ByteArray := prog_8_method_67_code
def yX6_wrongOpened : MethodName := ⟨RX6, "wrongOpened", "(III)I"⟩
abbrev cX6_fits : ByteArray := prog_8_method_68_code
def yX6_fits : MethodName := ⟨RX6, "fits", "(III)I"⟩
abbrev cX6_opened : ByteArray := prog_8_method_69_code
def yX6_opened : MethodName := ⟨RX6, "opened", "(III)I"⟩
abbrev cX6_kinds : ByteArray := prog_8_method_70_code
def yX6_kinds : MethodName := ⟨RX6, "kinds", "(II)I"⟩
abbrev cX6_draw : ByteArray := prog_8_method_71_code
def yX6_draw : MethodName := ⟨RX6, "draw", "()I"⟩
abbrev cX6_nights : ByteArray := prog_8_method_72_code
def yX6_nights : MethodName := ⟨RX6, "nights", "(I)I"⟩
abbrev cX6_odds : ByteArray := prog_8_method_73_code
def yX6_odds : MethodName := ⟨RX6, "odds", "(II)J"⟩
abbrev cX6_seed : ByteArray := prog_8_method_74_code
def yX6_seed : MethodName := ⟨RX6, "seed", "(I)I"⟩
abbrev cX6_feed : ByteArray := prog_8_method_75_code
def yX6_feed : MethodName := ⟨RX6, "feed", "(II)I"⟩
abbrev cX6_wipe : ByteArray := prog_8_method_76_code
def yX6_wipe : MethodName := ⟨RX6, "wipe", "()I"⟩
abbrev cX6_byteAt : ByteArray := prog_8_method_77_code
def yX6_byteAt : MethodName := ⟨RX6, "byteAt", "(I)I"⟩
abbrev cX6_isLetter : ByteArray := prog_8_method_78_code
def yX6_isLetter : MethodName := ⟨RX6, "isLetter", "(I)Z"⟩
abbrev cX6_isDigit : ByteArray := prog_8_method_79_code
def yX6_isDigit : MethodName := ⟨RX6, "isDigit", "(I)Z"⟩
abbrev cX6_token : ByteArray := prog_8_method_80_code
def yX6_token : MethodName := ⟨RX6, "token", "()V"⟩
abbrev cX6_must : ByteArray := prog_8_method_81_code
def yX6_must : MethodName := ⟨RX6, "must", "(Z)V"⟩
abbrev cX6_word : ByteArray := prog_8_method_82_code
def yX6_word : MethodName := ⟨RX6, "word", "()J"⟩
abbrev cX6_number : ByteArray := prog_8_method_83_code
def yX6_number : MethodName := ⟨RX6, "number", "(II)V"⟩
abbrev cX6_kindHere : ByteArray := prog_8_method_84_code
def yX6_kindHere : MethodName := ⟨RX6, "kindHere", "()I"⟩
abbrev cX6_perhaps : ByteArray := prog_8_method_85_code
def yX6_perhaps : MethodName := ⟨RX6, "perhaps", "(JII)V"⟩
abbrev cX6_watcherItem : ByteArray := prog_8_method_86_code
def yX6_watcherItem : MethodName := ⟨RX6, "watcherItem", "(I)V"⟩
abbrev cX6_rowItem : ByteArray := prog_8_method_87_code
def yX6_rowItem : MethodName := ⟨RX6, "rowItem", "(III)V"⟩
abbrev cX6_item : ByteArray := prog_8_method_88_code
def yX6_item : MethodName := ⟨RX6, "item", "()V"⟩
abbrev cX6_text : ByteArray := prog_8_method_89_code
def yX6_text : MethodName := ⟨RX6, "text", "()I"⟩
abbrev cX6_isSpot : ByteArray := prog_8_method_90_code
def yX6_isSpot : MethodName := ⟨RX6, "isSpot", "(I)Z"⟩
abbrev cX6_hold : ByteArray := prog_8_method_91_code
def yX6_hold : MethodName := ⟨RX6, "hold", "(II)I"⟩
abbrev cX6_above : ByteArray := prog_8_method_92_code
def yX6_above : MethodName := ⟨RX6, "above", "(I)I"⟩
abbrev cX6_as : ByteArray := prog_8_method_93_code
def yX6_as : MethodName := ⟨RX6, "as", "(II)I"⟩
abbrev cX6_isOne : ByteArray := prog_8_method_94_code
def yX6_isOne : MethodName := ⟨RX6, "isOne", "(I)Z"⟩
abbrev cX6_sheet : ByteArray := prog_8_method_95_code
def yX6_sheet : MethodName := ⟨RX6, "sheet", "(III)I"⟩
abbrev cX6_narrowed : ByteArray := prog_8_method_96_code
def yX6_narrowed : MethodName := ⟨RX6, "narrowed", "(II)I"⟩
abbrev cX6_wrong : ByteArray := prog_8_method_97_code
def yX6_wrong : MethodName := ⟨RX6, "wrong", "(I)I"⟩
abbrev cX6_write : ByteArray := prog_8_method_98_code
def yX6_write : MethodName := ⟨RX6, "write", "(III)I"⟩
abbrev cX6_copy : ByteArray := prog_8_method_99_code
def yX6_copy : MethodName := ⟨RX6, "copy", "(IIIII)I"⟩
abbrev cX6_load : ByteArray := prog_8_method_100_code
def yX6_load : MethodName := ⟨RX6, "load", "(I)I"⟩
abbrev cX6_judge : ByteArray := prog_8_method_101_code
def yX6_judge : MethodName := ⟨RX6, "judge", "(I)I"⟩
abbrev cX6_image : ByteArray := prog_8_method_102_code
def yX6_image : MethodName := ⟨RX6, "image", "()I"⟩
abbrev cX6_undo : ByteArray := prog_8_method_103_code
def yX6_undo : MethodName := ⟨RX6, "undo", "()I"⟩
abbrev cX6_tear : ByteArray := prog_8_method_104_code
def yX6_tear : MethodName := ⟨RX6, "tear", "()I"⟩
abbrev cX6_heldSpots : ByteArray := prog_8_method_105_code
def yX6_heldSpots : MethodName := ⟨RX6, "heldSpots", "()I"⟩
abbrev cX6_count : ByteArray := prog_8_method_106_code
def yX6_count : MethodName := ⟨RX6, "count", "(I)I"⟩
abbrev cX6_status : ByteArray := prog_8_method_107_code
def yX6_status : MethodName := ⟨RX6, "status", "(I)I"⟩
def RJ6 : String := "java/lang/Integer"
def TJ6 : u_T := fun k => match k with
  | _ => ("", "", "", false)
def tyJ6 : Nat → FieldType := fun k => match k with
  | _ => .int
theorem nmJ6 : ∀ a, a < 0 → ∀ b, b < 0 → a ≠ b → (TJ6 a).2.1 ≠ (TJ6 b).2.1 := by decide +kernel
theorem tyJ6_ok : ∀ k, k < 0 → parseFieldDescriptor (TJ6 k).2.2.1 = some (tyJ6 k) := by decide +kernel
abbrev cJ6_numberOfTrailingZeros_0f7a4 : ByteArray := prog_9_method_48_code
def yJ6_numberOfTrailingZeros_0f7a4 : MethodName := ⟨RJ6, "numberOfTrailingZeros", "(I)I"⟩
abbrev cJ6_bitCount_0f7a4 : ByteArray := prog_9_method_49_code
def yJ6_bitCount_0f7a4 : MethodName := ⟨RJ6, "bitCount", "(I)I"⟩
def RJ9 : String := "java/lang/Math"
def TJ9 : u_T := fun k => match k with
  | _ => ("", "", "", false)
def tyJ9 : Nat → FieldType := fun k => match k with
  | _ => .int
theorem nmJ9 : ∀ a, a < 0 → ∀ b, b < 0 → a ≠ b → (TJ9 a).2.1 ≠ (TJ9 b).2.1 := by decide +kernel
theorem tyJ9_ok : ∀ k, k < 0 → parseFieldDescriptor (TJ9 k).2.2.1 = some (tyJ9 k) := by decide +kernel
abbrev cJ9_abs_0f7a4 : ByteArray := prog_10_method_59_code
def yJ9_abs_0f7a4 : MethodName := ⟨RJ9, "abs", "(I)I"⟩
abbrev cJ9_max_7cf53 : ByteArray := prog_10_method_65_code
def yJ9_max_7cf53 : MethodName := ⟨RJ9, "max", "(II)I"⟩
abbrev cJ9_min_7cf53 : ByteArray := prog_10_method_69_code
def yJ9_min_7cf53 : MethodName := ⟨RJ9, "min", "(II)I"⟩
def RJ0 : String := "java/lang/String"
def TJ0 : u_T := fun k => match k with
  | _ => ("", "", "", false)
def tyJ0 : Nat → FieldType := fun k => match k with
  | _ => .int
theorem nmJ0 : ∀ a, a < 0 → ∀ b, b < 0 → a ≠ b → (TJ0 a).2.1 ≠ (TJ0 b).2.1 := by decide +kernel
theorem tyJ0_ok : ∀ k, k < 0 → parseFieldDescriptor (TJ0 k).2.2.1 = some (tyJ0 k) := by decide +kernel
abbrev cJ0_length_8abf5 : ByteArray := prog_11_method_54_code
def yJ0_length_8abf5 : MethodName := ⟨RJ0, "length", "()I"⟩
abbrev cJ0_charAt_5068e : ByteArray := prog_11_method_56_code
def yJ0_charAt_5068e : MethodName := ⟨RJ0, "charAt", "(I)C"⟩
abbrev cJ0_coder_7d493 : ByteArray := prog_11_method_152_code
def yJ0_coder_7d493 : MethodName := ⟨RJ0, "coder", "()B"⟩
abbrev cJ0_isLatin1_aae02 : ByteArray := prog_11_method_154_code
def yJ0_isLatin1_aae02 : MethodName := ⟨RJ0, "isLatin1", "()Z"⟩
abbrev cJ0_checkIndex_df160 : ByteArray := prog_11_method_155_code
def yJ0_checkIndex_df160 : MethodName := ⟨RJ0, "checkIndex", "(II)V"⟩
def RJ1 : String := "java/lang/StringLatin1"
def TJ1 : u_T := fun k => match k with
  | _ => ("", "", "", false)
def tyJ1 : Nat → FieldType := fun k => match k with
  | _ => .int
theorem nmJ1 : ∀ a, a < 0 → ∀ b, b < 0 → a ≠ b → (TJ1 a).2.1 ≠ (TJ1 b).2.1 := by decide +kernel
theorem tyJ1_ok : ∀ k, k < 0 → parseFieldDescriptor (TJ1 k).2.2.1 = some (tyJ1 k) := by decide +kernel
abbrev cJ1_charAt_3b067 : ByteArray := prog_12_method_2_code
def yJ1_charAt_3b067 : MethodName := ⟨RJ1, "charAt", "([BI)C"⟩
def RJ2 : String := "java/lang/StringUTF16"
def TJ2 : u_T := fun k => match k with
  | _ => ("", "", "", false)
def tyJ2 : Nat → FieldType := fun k => match k with
  | _ => .int
theorem nmJ2 : ∀ a, a < 0 → ∀ b, b < 0 → a ≠ b → (TJ2 a).2.1 ≠ (TJ2 b).2.1 := by decide +kernel
theorem tyJ2_ok : ∀ k, k < 0 → parseFieldDescriptor (TJ2 k).2.2.1 = some (tyJ2 k) := by decide +kernel
abbrev cJ2_getChar_3b067 : ByteArray := prog_13_method_5_code
def yJ2_getChar_3b067 : MethodName := ⟨RJ2, "getChar", "([BI)C"⟩
abbrev cJ2_length_9d52b : ByteArray := prog_13_method_6_code
def yJ2_length_9d52b : MethodName := ⟨RJ2, "length", "([B)I"⟩
abbrev cJ2_charAt_3b067 : ByteArray := prog_13_method_83_code
def yJ2_charAt_3b067 : MethodName := ⟨RJ2, "charAt", "([BI)C"⟩
abbrev cJ2_checkIndex_2214a : ByteArray := prog_13_method_91_code
def yJ2_checkIndex_2214a : MethodName := ⟨RJ2, "checkIndex", "(I[B)V"⟩
def RJ10 : String := "java/lang/System"
def TJ10 : u_T := fun k => match k with
  | _ => ("", "", "", false)
def tyJ10 : Nat → FieldType := fun k => match k with
  | _ => .int
theorem nmJ10 : ∀ a, a < 0 → ∀ b, b < 0 → a ≠ b → (TJ10 a).2.1 ≠ (TJ10 b).2.1 := by decide +kernel
theorem tyJ10_ok : ∀ k, k < 0 → parseFieldDescriptor (TJ10 k).2.2.1 = some (tyJ10 k) := by decide +kernel
def RJ3 : String := "jdk/internal/util/Preconditions"
def TJ3 : u_T := fun k => match k with
  | _ => ("", "", "", false)
def tyJ3 : Nat → FieldType := fun k => match k with
  | _ => .int
theorem nmJ3 : ∀ a, a < 0 → ∀ b, b < 0 → a ≠ b → (TJ3 a).2.1 ≠ (TJ3 b).2.1 := by decide +kernel
theorem tyJ3_ok : ∀ k, k < 0 → parseFieldDescriptor (TJ3 k).2.2.1 = some (tyJ3 k) := by decide +kernel
abbrev cJ3_checkIndex_8e157 : ByteArray := prog_15_method_11_code
def yJ3_checkIndex_8e157 : MethodName := ⟨RJ3, "checkIndex", "(IILjava/util/function/BiFunction;)I"⟩
def RL : String := "ValveRiverLaw"
abbrev cL_law : ByteArray := code
def yL_law : MethodName := ⟨RL, "law", "([I)Z"⟩
abbrev vwCl : List vw_C := [(RX0, TX0, 6), (RX1, TX1, 3), (RX2, TX2, 5), (RX3, TX3, 5), (RX4, TX4, 5), (RX5, TX5, 9), (RX6, TX6, 22)]
end
section
def TB : List Cond := lw_tbl.filter goodWord
theorem TB_of {w : Cond} (h : w ∈ lw_tbl) (g : goodWord w = true) : w ∈ TB := List.mem_filter.mpr ⟨h, g⟩
theorem TB_in {w : Cond} (h : w ∈ TB) : w ∈ lw_tbl := (List.mem_filter.mp h).1
theorem TB_good {w : Cond} (h : w ∈ TB) : goodWord w = true := (List.mem_filter.mp h).2
theorem TB_sel {w : Cond} (h : w ∈ k2_sels lw_privs) (g : goodWord w = true) : w ∈ TB := TB_of (List.mem_append_left _ h) g
theorem TT_1 {w : Cond} (h : w ∈ tables_1_1) : w ∈ lw_tbl := List.mem_append_right _ (List.mem_append_left _ h)
theorem TB_1 {w : Cond} (h : w ∈ tables_1_1) (g : goodWord w = true) : w ∈ TB := TB_of (List.mem_append_right _ (List.mem_append_left _ h)) g
theorem TT_2 {w : Cond} (h : w ∈ tables_1_2) : w ∈ lw_tbl := List.mem_append_right _ (List.mem_append_right _ (List.mem_append_left _ h))
theorem TB_2 {w : Cond} (h : w ∈ tables_1_2) (g : goodWord w = true) : w ∈ TB := TB_of (List.mem_append_right _ (List.mem_append_right _ (List.mem_append_left _ h))) g
theorem TT_3 {w : Cond} (h : w ∈ tables_1_3) : w ∈ lw_tbl := List.mem_append_right _ (List.mem_append_right _ (List.mem_append_right _ (List.mem_append_left _ h)))
theorem TB_3 {w : Cond} (h : w ∈ tables_1_3) (g : goodWord w = true) : w ∈ TB := TB_of (List.mem_append_right _ (List.mem_append_right _ (List.mem_append_right _ (List.mem_append_left _ h)))) g
theorem TT_4 {w : Cond} (h : w ∈ tables_1_4) : w ∈ lw_tbl := List.mem_append_right _ (List.mem_append_right _ (List.mem_append_right _ (List.mem_append_right _ (List.mem_append_left _ h))))
theorem TB_4 {w : Cond} (h : w ∈ tables_1_4) (g : goodWord w = true) : w ∈ TB := TB_of (List.mem_append_right _ (List.mem_append_right _ (List.mem_append_right _ (List.mem_append_right _ (List.mem_append_left _ h))))) g
theorem TT_5 {w : Cond} (h : w ∈ tables_1_5) : w ∈ lw_tbl := List.mem_append_right _ (List.mem_append_right _ (List.mem_append_right _ (List.mem_append_right _ (List.mem_append_right _ (List.mem_append_left _ h)))))
theorem TB_5 {w : Cond} (h : w ∈ tables_1_5) (g : goodWord w = true) : w ∈ TB := TB_of (List.mem_append_right _ (List.mem_append_right _ (List.mem_append_right _ (List.mem_append_right _ (List.mem_append_right _ (List.mem_append_left _ h)))))) g
theorem TT_6 {w : Cond} (h : w ∈ tables_1_6) : w ∈ lw_tbl := List.mem_append_right _ (List.mem_append_right _ (List.mem_append_right _ (List.mem_append_right _ (List.mem_append_right _ (List.mem_append_right _ (h))))))
theorem TB_6 {w : Cond} (h : w ∈ tables_1_6) (g : goodWord w = true) : w ∈ TB := TB_of (List.mem_append_right _ (List.mem_append_right _ (List.mem_append_right _ (List.mem_append_right _ (List.mem_append_right _ (List.mem_append_right _ (h))))))) g
theorem TB_GG : GoodIn TB TB := fun _ h => ⟨h, good_of_word (TB_good h)⟩
theorem win_L : Cond.initialized RL ∈ TB := TB_1 (List.mem_of_getElem? (i := 0) rfl) rfl
theorem win_X5 : Cond.initialized RX5 ∈ TB := TB_1 (List.mem_of_getElem? (i := 1) rfl) rfl
theorem win_X2 : Cond.initialized RX2 ∈ TB := TB_1 (List.mem_of_getElem? (i := 2) rfl) rfl
theorem win_X4 : Cond.initialized RX4 ∈ TB := TB_1 (List.mem_of_getElem? (i := 3) rfl) rfl
theorem win_X3 : Cond.initialized RX3 ∈ TB := TB_1 (List.mem_of_getElem? (i := 4) rfl) rfl
theorem win_X1 : Cond.initialized RX1 ∈ TB := TB_1 (List.mem_of_getElem? (i := 5) rfl) rfl
theorem win_X0 : Cond.initialized RX0 ∈ TB := TB_1 (List.mem_of_getElem? (i := 6) rfl) rfl
theorem win_X6 : Cond.initialized RX6 ∈ TB := TB_1 (List.mem_of_getElem? (i := 7) rfl) rfl
theorem win_J10 : Cond.initialized RJ10 ∈ TB := TB_1 (List.mem_of_getElem? (i := 8) rfl) rfl
theorem win_J9 : Cond.initialized RJ9 ∈ TB := TB_1 (List.mem_of_getElem? (i := 9) rfl) rfl
theorem win_J6 : Cond.initialized RJ6 ∈ TB := TB_1 (List.mem_of_getElem? (i := 10) rfl) rfl
theorem win_J0 : Cond.initialized RJ0 ∈ TB := TB_1 (List.mem_of_getElem? (i := 11) rfl) rfl
theorem win_J1 : Cond.initialized RJ1 ∈ TB := TB_1 (List.mem_of_getElem? (i := 12) rfl) rfl
theorem win_J3 : Cond.initialized RJ3 ∈ TB := TB_1 (List.mem_of_getElem? (i := 13) rfl) rfl
theorem win_J2 : Cond.initialized RJ2 ∈ TB := TB_1 (List.mem_of_getElem? (i := 14) rfl) rfl
theorem wcl_L_7 : Cond.classLink RL 7 RX5 ∈ TB := TB_1 (List.mem_of_getElem? (i := 15) rfl) rfl
theorem wn_X5 : Cond.instantiable RX5 9 ∈ TB := TB_1 (List.mem_of_getElem? (i := 16) rfl) rfl
theorem wm_L_9 : Cond.methodLink RL 9 yX5_init ∈ TB := TB_1 (List.mem_of_getElem? (i := 17) rfl) rfl
theorem wi_X5_init : Cond.instanceMethod yX5_init ∈ TB := TB_1 (List.mem_of_getElem? (i := 18) rfl) rfl
theorem wc_X5_init : Cond.code yX5_init cX5_init 1 none ∈ TB := TB_1 (List.mem_of_getElem? (i := 19) rfl) rfl
theorem wm_X5_3 : Cond.methodLink RX5 3 objectInit ∈ TB := TB_1 (List.mem_of_getElem? (i := 20) rfl) rfl
theorem wi_objectInit : Cond.instanceMethod objectInit ∈ TB := TB_1 (List.mem_of_getElem? (i := 21) rfl) rfl
theorem wc_objectInit : Cond.code objectInit ⟨#[0xb1]⟩ 1 none ∈ TB := TB_1 (List.mem_of_getElem? (i := 22) rfl) rfl
theorem wcl_X5_9 : Cond.classLink RX5 9 RX2 ∈ TB := TB_1 (List.mem_of_getElem? (i := 23) rfl) rfl
theorem wn_X2 : Cond.instantiable RX2 5 ∈ TB := TB_1 (List.mem_of_getElem? (i := 24) rfl) rfl
theorem wm_X5_11 : Cond.methodLink RX5 11 yX2_init ∈ TB := TB_1 (List.mem_of_getElem? (i := 25) rfl) rfl
theorem wi_X2_init : Cond.instanceMethod yX2_init ∈ TB := TB_1 (List.mem_of_getElem? (i := 26) rfl) rfl
theorem wc_X2_init : Cond.code yX2_init cX2_init 2 none ∈ TB := TB_1 (List.mem_of_getElem? (i := 27) rfl) rfl
theorem wm_X2_3 : Cond.methodLink RX2 3 objectInit ∈ TB := TB_1 (List.mem_of_getElem? (i := 28) rfl) rfl
theorem wcl_X2_9 : Cond.classLink RX2 9 RX4 ∈ TB := TB_1 (List.mem_of_getElem? (i := 29) rfl) rfl
theorem wn_X4 : Cond.instantiable RX4 5 ∈ TB := TB_1 (List.mem_of_getElem? (i := 30) rfl) rfl
theorem wm_X2_11 : Cond.methodLink RX2 11 yX4_init ∈ TB := TB_1 (List.mem_of_getElem? (i := 31) rfl) rfl
theorem wi_X4_init : Cond.instanceMethod yX4_init ∈ TB := TB_1 (List.mem_of_getElem? (i := 32) rfl) rfl
theorem wc_X4_init : Cond.code yX4_init cX4_init 2 none ∈ TB := TB_1 (List.mem_of_getElem? (i := 33) rfl) rfl
theorem wm_X4_3 : Cond.methodLink RX4 3 objectInit ∈ TB := TB_1 (List.mem_of_getElem? (i := 34) rfl) rfl
theorem wf_X4_9 : Cond.fieldLink RX4 9 "ValveRiver$Water" "levels" "[I" ∈ TB := TB_1 (List.mem_of_getElem? (i := 35) rfl) rfl
theorem wf_X5_63 : Cond.fieldLink RX5 63 "ValveRiver$Water" "levels" "[I" ∈ TB := TB_1 (List.mem_of_getElem? (i := 36) rfl) rfl
theorem wf_X0_65 : Cond.fieldLink RX0 65 "ValveRiver$Water" "levels" "[I" ∈ TB := TB_1 (List.mem_of_getElem? (i := 37) rfl) rfl
theorem wf_X2_69 : Cond.fieldLink RX2 69 "ValveRiver$Water" "levels" "[I" ∈ TB := TB_1 (List.mem_of_getElem? (i := 38) rfl) rfl
theorem wf_X4_15 : Cond.fieldLink RX4 15 "ValveRiver$Water" "before" "[I" ∈ TB := TB_1 (List.mem_of_getElem? (i := 39) rfl) rfl
theorem wf_X2_63 : Cond.fieldLink RX2 63 "ValveRiver$Water" "before" "[I" ∈ TB := TB_1 (List.mem_of_getElem? (i := 40) rfl) rfl
theorem wf_X5_297 : Cond.fieldLink RX5 297 "ValveRiver$Water" "before" "[I" ∈ TB := TB_1 (List.mem_of_getElem? (i := 41) rfl) rfl
theorem wf_X4_18 : Cond.fieldLink RX4 18 "ValveRiver$Water" "openings" "[I" ∈ TB := TB_1 (List.mem_of_getElem? (i := 42) rfl) rfl
theorem wf_X5_68 : Cond.fieldLink RX5 68 "ValveRiver$Water" "openings" "[I" ∈ TB := TB_1 (List.mem_of_getElem? (i := 43) rfl) rfl
theorem wf_X0_76 : Cond.fieldLink RX0 76 "ValveRiver$Water" "openings" "[I" ∈ TB := TB_1 (List.mem_of_getElem? (i := 44) rfl) rfl
theorem wf_X4_21 : Cond.fieldLink RX4 21 "ValveRiver$Water" "sea" "I" ∈ TB := TB_1 (List.mem_of_getElem? (i := 45) rfl) rfl
theorem wf_X5_143 : Cond.fieldLink RX5 143 "ValveRiver$Water" "sea" "I" ∈ TB := TB_1 (List.mem_of_getElem? (i := 46) rfl) rfl
theorem wf_X4_25 : Cond.fieldLink RX4 25 "ValveRiver$Water" "hour" "I" ∈ TB := TB_1 (List.mem_of_getElem? (i := 47) rfl) rfl
theorem wf_X5_129 : Cond.fieldLink RX5 129 "ValveRiver$Water" "hour" "I" ∈ TB := TB_1 (List.mem_of_getElem? (i := 48) rfl) rfl
theorem wl_X4_levels : Cond.laysFinal RX4 "ValveRiver$Water" "levels" "[I" ∈ TB := TB_1 (List.mem_of_getElem? (i := 49) rfl) rfl
theorem wl_X4_before : Cond.laysFinal RX4 "ValveRiver$Water" "before" "[I" ∈ TB := TB_1 (List.mem_of_getElem? (i := 51) rfl) rfl
theorem wl_X4_openings : Cond.laysFinal RX4 "ValveRiver$Water" "openings" "[I" ∈ TB := TB_1 (List.mem_of_getElem? (i := 53) rfl) rfl
theorem wl_X4_sea : Cond.lays RX4 "ValveRiver$Water" "sea" "I" ∈ TB := TB_1 (List.mem_of_getElem? (i := 55) rfl) rfl
theorem wl_X4_hour : Cond.lays RX4 "ValveRiver$Water" "hour" "I" ∈ TB := TB_1 (List.mem_of_getElem? (i := 57) rfl) rfl
theorem wa_arrayClass_int : Cond.arrayClass .int ∈ TB := TB_1 (List.mem_of_getElem? (i := 60) rfl) rfl
theorem wcl_X2_18 : Cond.classLink RX2 18 RX3 ∈ TB := TB_1 (List.mem_of_getElem? (i := 61) rfl) rfl
theorem wa_arrayOver_objectValveRiverWatcher : Cond.arrayOver (.object "ValveRiver$Watcher") ∈ lw_tbl := TT_1 (List.mem_of_getElem? (i := 62) rfl)
theorem wn_X3 : Cond.instantiable RX3 5 ∈ TB := TB_1 (List.mem_of_getElem? (i := 63) rfl) rfl
theorem wmn_X2_35 : Cond.methodLinkNest RX2 35 yX3_init "ValveRiver" ∈ lw_tbl := TT_1 (List.mem_of_getElem? (i := 64) rfl)
theorem wi_X3_init : Cond.instanceMethod yX3_init ∈ TB := TB_1 (List.mem_of_getElem? (i := 65) rfl) rfl
theorem wc_X3_init : Cond.code yX3_init cX3_init 1 none ∈ TB := TB_1 (List.mem_of_getElem? (i := 66) rfl) rfl
theorem wm_X3_5 : Cond.methodLink RX3 5 objectInit ∈ TB := TB_1 (List.mem_of_getElem? (i := 67) rfl) rfl
theorem wf_X3_11 : Cond.fieldLink RX3 11 "ValveRiver$Watcher" "kind" "I" ∈ TB := TB_1 (List.mem_of_getElem? (i := 68) rfl) rfl
theorem wf_X5_96 : Cond.fieldLink RX5 96 "ValveRiver$Watcher" "kind" "I" ∈ TB := TB_1 (List.mem_of_getElem? (i := 69) rfl) rfl
theorem wf_X3_15 : Cond.fieldLink RX3 15 "ValveRiver$Watcher" "cell" "I" ∈ TB := TB_1 (List.mem_of_getElem? (i := 70) rfl) rfl
theorem wf_X0_102 : Cond.fieldLink RX0 102 "ValveRiver$Watcher" "cell" "I" ∈ TB := TB_1 (List.mem_of_getElem? (i := 71) rfl) rfl
theorem wf_X2_66 : Cond.fieldLink RX2 66 "ValveRiver$Watcher" "cell" "I" ∈ TB := TB_1 (List.mem_of_getElem? (i := 72) rfl) rfl
theorem wf_X5_102 : Cond.fieldLink RX5 102 "ValveRiver$Watcher" "cell" "I" ∈ TB := TB_1 (List.mem_of_getElem? (i := 73) rfl) rfl
theorem wf_X3_18 : Cond.fieldLink RX3 18 "ValveRiver$Watcher" "want" "I" ∈ TB := TB_1 (List.mem_of_getElem? (i := 74) rfl) rfl
theorem wf_X0_109 : Cond.fieldLink RX0 109 "ValveRiver$Watcher" "want" "I" ∈ TB := TB_1 (List.mem_of_getElem? (i := 75) rfl) rfl
theorem wf_X5_105 : Cond.fieldLink RX5 105 "ValveRiver$Watcher" "want" "I" ∈ TB := TB_1 (List.mem_of_getElem? (i := 76) rfl) rfl
theorem wf_X3_21 : Cond.fieldLink RX3 21 "ValveRiver$Watcher" "belief" "I" ∈ TB := TB_1 (List.mem_of_getElem? (i := 77) rfl) rfl
theorem wf_X0_114 : Cond.fieldLink RX0 114 "ValveRiver$Watcher" "belief" "I" ∈ TB := TB_1 (List.mem_of_getElem? (i := 78) rfl) rfl
theorem wf_X5_108 : Cond.fieldLink RX5 108 "ValveRiver$Watcher" "belief" "I" ∈ TB := TB_1 (List.mem_of_getElem? (i := 79) rfl) rfl
theorem wf_X2_90 : Cond.fieldLink RX2 90 "ValveRiver$Watcher" "belief" "I" ∈ TB := TB_1 (List.mem_of_getElem? (i := 80) rfl) rfl
theorem wf_X3_24 : Cond.fieldLink RX3 24 "ValveRiver$Watcher" "thirst" "I" ∈ TB := TB_1 (List.mem_of_getElem? (i := 81) rfl) rfl
theorem wf_X5_111 : Cond.fieldLink RX5 111 "ValveRiver$Watcher" "thirst" "I" ∈ TB := TB_1 (List.mem_of_getElem? (i := 82) rfl) rfl
theorem wl_X3_kind : Cond.lays RX3 "ValveRiver$Watcher" "kind" "I" ∈ TB := TB_1 (List.mem_of_getElem? (i := 83) rfl) rfl
theorem wl_X3_cell : Cond.lays RX3 "ValveRiver$Watcher" "cell" "I" ∈ TB := TB_1 (List.mem_of_getElem? (i := 85) rfl) rfl
theorem wl_X3_want : Cond.lays RX3 "ValveRiver$Watcher" "want" "I" ∈ TB := TB_1 (List.mem_of_getElem? (i := 87) rfl) rfl
theorem wl_X3_belief : Cond.lays RX3 "ValveRiver$Watcher" "belief" "I" ∈ TB := TB_1 (List.mem_of_getElem? (i := 89) rfl) rfl
theorem wl_X3_thirst : Cond.lays RX3 "ValveRiver$Watcher" "thirst" "I" ∈ TB := TB_1 (List.mem_of_getElem? (i := 91) rfl) rfl
theorem wf_X2_12 : Cond.fieldLink RX2 12 "ValveRiver$Valley" "water" "LValveRiver$Water;" ∈ TB := TB_1 (List.mem_of_getElem? (i := 94) rfl) rfl
theorem wf_X5_59 : Cond.fieldLink RX5 59 "ValveRiver$Valley" "water" "LValveRiver$Water;" ∈ TB := TB_1 (List.mem_of_getElem? (i := 95) rfl) rfl
theorem wf_X0_59 : Cond.fieldLink RX0 59 "ValveRiver$Valley" "water" "LValveRiver$Water;" ∈ TB := TB_1 (List.mem_of_getElem? (i := 96) rfl) rfl
theorem wf_X2_20 : Cond.fieldLink RX2 20 "ValveRiver$Valley" "watchers" "[LValveRiver$Watcher;" ∈ TB := TB_1 (List.mem_of_getElem? (i := 97) rfl) rfl
theorem wf_X0_88 : Cond.fieldLink RX0 88 "ValveRiver$Valley" "watchers" "[LValveRiver$Watcher;" ∈ TB := TB_1 (List.mem_of_getElem? (i := 98) rfl) rfl
theorem wf_X5_92 : Cond.fieldLink RX5 92 "ValveRiver$Valley" "watchers" "[LValveRiver$Watcher;" ∈ TB := TB_1 (List.mem_of_getElem? (i := 99) rfl) rfl
theorem wf_X2_24 : Cond.fieldLink RX2 24 "ValveRiver$Valley" "spots" "[I" ∈ TB := TB_1 (List.mem_of_getElem? (i := 100) rfl) rfl
theorem wf_X5_248 : Cond.fieldLink RX5 248 "ValveRiver$Valley" "spots" "[I" ∈ TB := TB_1 (List.mem_of_getElem? (i := 101) rfl) rfl
theorem wf_X2_28 : Cond.fieldLink RX2 28 "ValveRiver$Valley" "settled" "I" ∈ TB := TB_1 (List.mem_of_getElem? (i := 102) rfl) rfl
theorem wf_X5_284 : Cond.fieldLink RX5 284 "ValveRiver$Valley" "settled" "I" ∈ TB := TB_1 (List.mem_of_getElem? (i := 103) rfl) rfl
theorem wf_X2_32 : Cond.fieldLink RX2 32 "ValveRiver$Valley" "z" "I" ∈ TB := TB_1 (List.mem_of_getElem? (i := 104) rfl) rfl
theorem wf_X5_229 : Cond.fieldLink RX5 229 "ValveRiver$Valley" "z" "I" ∈ TB := TB_1 (List.mem_of_getElem? (i := 105) rfl) rfl
theorem wl_X2_water : Cond.laysFinal RX2 "ValveRiver$Valley" "water" "LValveRiver$Water;" ∈ TB := TB_1 (List.mem_of_getElem? (i := 106) rfl) rfl
theorem wl_X2_watchers : Cond.laysFinal RX2 "ValveRiver$Valley" "watchers" "[LValveRiver$Watcher;" ∈ TB := TB_1 (List.mem_of_getElem? (i := 108) rfl) rfl
theorem wl_X2_spots : Cond.laysFinal RX2 "ValveRiver$Valley" "spots" "[I" ∈ TB := TB_1 (List.mem_of_getElem? (i := 110) rfl) rfl
theorem wl_X2_settled : Cond.lays RX2 "ValveRiver$Valley" "settled" "I" ∈ TB := TB_1 (List.mem_of_getElem? (i := 112) rfl) rfl
theorem wl_X2_z : Cond.lays RX2 "ValveRiver$Valley" "z" "I" ∈ TB := TB_1 (List.mem_of_getElem? (i := 114) rfl) rfl
theorem wcl_X5_29 : Cond.classLink RX5 29 RX1 ∈ TB := TB_1 (List.mem_of_getElem? (i := 117) rfl) rfl
theorem wa_arrayOver_objectValveRiverSheet : Cond.arrayOver (.object "ValveRiver$Sheet") ∈ lw_tbl := TT_1 (List.mem_of_getElem? (i := 118) rfl)
theorem wn_X1 : Cond.instantiable RX1 3 ∈ TB := TB_1 (List.mem_of_getElem? (i := 119) rfl) rfl
theorem wmn_X5_31 : Cond.methodLinkNest RX5 31 yX1_init "ValveRiver" ∈ lw_tbl := TT_1 (List.mem_of_getElem? (i := 120) rfl)
theorem wi_X1_init : Cond.instanceMethod yX1_init ∈ TB := TB_1 (List.mem_of_getElem? (i := 121) rfl) rfl
theorem wc_X1_init : Cond.code yX1_init cX1_init 1 none ∈ TB := TB_1 (List.mem_of_getElem? (i := 122) rfl) rfl
theorem wm_X1_3 : Cond.methodLink RX1 3 objectInit ∈ TB := TB_1 (List.mem_of_getElem? (i := 123) rfl) rfl
theorem wf_X1_9 : Cond.fieldLink RX1 9 "ValveRiver$Sheet" "numbers" "[I" ∈ TB := TB_1 (List.mem_of_getElem? (i := 124) rfl) rfl
theorem wf_X5_275 : Cond.fieldLink RX5 275 "ValveRiver$Sheet" "numbers" "[I" ∈ TB := TB_1 (List.mem_of_getElem? (i := 125) rfl) rfl
theorem wf_X1_15 : Cond.fieldLink RX1 15 "ValveRiver$Sheet" "bits" "I" ∈ TB := TB_1 (List.mem_of_getElem? (i := 126) rfl) rfl
theorem wf_X5_269 : Cond.fieldLink RX5 269 "ValveRiver$Sheet" "bits" "I" ∈ TB := TB_1 (List.mem_of_getElem? (i := 127) rfl) rfl
theorem wf_X1_19 : Cond.fieldLink RX1 19 "ValveRiver$Sheet" "size" "I" ∈ TB := TB_1 (List.mem_of_getElem? (i := 128) rfl) rfl
theorem wf_X5_261 : Cond.fieldLink RX5 261 "ValveRiver$Sheet" "size" "I" ∈ TB := TB_1 (List.mem_of_getElem? (i := 129) rfl) rfl
theorem wl_X1_numbers : Cond.laysFinal RX1 "ValveRiver$Sheet" "numbers" "[I" ∈ TB := TB_1 (List.mem_of_getElem? (i := 130) rfl) rfl
theorem wl_X1_bits : Cond.lays RX1 "ValveRiver$Sheet" "bits" "I" ∈ TB := TB_1 (List.mem_of_getElem? (i := 132) rfl) rfl
theorem wl_X1_size : Cond.lays RX1 "ValveRiver$Sheet" "size" "I" ∈ TB := TB_1 (List.mem_of_getElem? (i := 134) rfl) rfl
theorem wcl_X5_36 : Cond.classLink RX5 36 RX0 ∈ TB := TB_1 (List.mem_of_getElem? (i := 137) rfl) rfl
theorem wn_X0 : Cond.instantiable RX0 6 ∈ TB := TB_1 (List.mem_of_getElem? (i := 138) rfl) rfl
theorem wmn_X5_38 : Cond.methodLinkNest RX5 38 yX0_init "ValveRiver" ∈ lw_tbl := TT_1 (List.mem_of_getElem? (i := 139) rfl)
theorem wi_X0_init : Cond.instanceMethod yX0_init ∈ TB := TB_1 (List.mem_of_getElem? (i := 140) rfl) rfl
theorem wc_X0_init : Cond.code yX0_init cX0_init 1 none ∈ TB := TB_1 (List.mem_of_getElem? (i := 141) rfl) rfl
theorem wm_X0_3 : Cond.methodLink RX0 3 objectInit ∈ TB := TB_1 (List.mem_of_getElem? (i := 142) rfl) rfl
theorem wf_X0_9 : Cond.fieldLink RX0 9 "ValveRiver$Reader" "tape" "[I" ∈ TB := TB_1 (List.mem_of_getElem? (i := 143) rfl) rfl
theorem wf_X0_15 : Cond.fieldLink RX0 15 "ValveRiver$Reader" "length" "I" ∈ TB := TB_1 (List.mem_of_getElem? (i := 144) rfl) rfl
theorem wf_X5_232 : Cond.fieldLink RX5 232 "ValveRiver$Reader" "length" "I" ∈ TB := TB_1 (List.mem_of_getElem? (i := 145) rfl) rfl
theorem wf_X0_19 : Cond.fieldLink RX0 19 "ValveRiver$Reader" "fault" "I" ∈ TB := TB_1 (List.mem_of_getElem? (i := 146) rfl) rfl
theorem wf_X5_245 : Cond.fieldLink RX5 245 "ValveRiver$Reader" "fault" "I" ∈ TB := TB_1 (List.mem_of_getElem? (i := 147) rfl) rfl
theorem wf_X0_22 : Cond.fieldLink RX0 22 "ValveRiver$Reader" "token" "I" ∈ TB := TB_1 (List.mem_of_getElem? (i := 148) rfl) rfl
theorem wf_X0_25 : Cond.fieldLink RX0 25 "ValveRiver$Reader" "start" "I" ∈ TB := TB_1 (List.mem_of_getElem? (i := 149) rfl) rfl
theorem wf_X0_28 : Cond.fieldLink RX0 28 "ValveRiver$Reader" "end" "I" ∈ TB := TB_1 (List.mem_of_getElem? (i := 150) rfl) rfl
theorem wl_X0_tape : Cond.laysFinal RX0 "ValveRiver$Reader" "tape" "[I" ∈ TB := TB_1 (List.mem_of_getElem? (i := 151) rfl) rfl
theorem wl_X0_length : Cond.lays RX0 "ValveRiver$Reader" "length" "I" ∈ TB := TB_1 (List.mem_of_getElem? (i := 153) rfl) rfl
theorem wl_X0_fault : Cond.lays RX0 "ValveRiver$Reader" "fault" "I" ∈ TB := TB_1 (List.mem_of_getElem? (i := 155) rfl) rfl
theorem wl_X0_token : Cond.lays RX0 "ValveRiver$Reader" "token" "I" ∈ TB := TB_1 (List.mem_of_getElem? (i := 157) rfl) rfl
theorem wl_X0_start : Cond.lays RX0 "ValveRiver$Reader" "start" "I" ∈ TB := TB_1 (List.mem_of_getElem? (i := 159) rfl) rfl
theorem wl_X0_end : Cond.lays RX0 "ValveRiver$Reader" "end" "I" ∈ TB := TB_1 (List.mem_of_getElem? (i := 161) rfl) rfl
theorem wf_X5_12 : Cond.fieldLink RX5 12 "ValveRiver" "valley" "LValveRiver$Valley;" ∈ TB := TB_1 (List.mem_of_getElem? (i := 164) rfl) rfl
theorem wf_X5_16 : Cond.fieldLink RX5 16 "ValveRiver" "kept" "LValveRiver$Valley;" ∈ TB := TB_1 (List.mem_of_getElem? (i := 165) rfl) rfl
theorem wf_X5_19 : Cond.fieldLink RX5 19 "ValveRiver" "trial" "LValveRiver$Valley;" ∈ TB := TB_1 (List.mem_of_getElem? (i := 166) rfl) rfl
theorem wf_X5_22 : Cond.fieldLink RX5 22 "ValveRiver" "asleep" "LValveRiver$Valley;" ∈ TB := TB_1 (List.mem_of_getElem? (i := 167) rfl) rfl
theorem wf_X5_25 : Cond.fieldLink RX5 25 "ValveRiver" "stirred" "[I" ∈ TB := TB_1 (List.mem_of_getElem? (i := 168) rfl) rfl
theorem wf_X5_32 : Cond.fieldLink RX5 32 "ValveRiver" "sheets" "[LValveRiver$Sheet;" ∈ TB := TB_1 (List.mem_of_getElem? (i := 169) rfl) rfl
theorem wf_X5_39 : Cond.fieldLink RX5 39 "ValveRiver" "reader" "LValveRiver$Reader;" ∈ TB := TB_1 (List.mem_of_getElem? (i := 170) rfl) rfl
theorem wf_X5_43 : Cond.fieldLink RX5 43 "ValveRiver" "findings" "[I" ∈ TB := TB_1 (List.mem_of_getElem? (i := 171) rfl) rfl
theorem wf_X5_46 : Cond.fieldLink RX5 46 "ValveRiver" "isKept" "Z" ∈ TB := TB_1 (List.mem_of_getElem? (i := 172) rfl) rfl
theorem wl_X5_valley : Cond.laysFinal RX5 "ValveRiver" "valley" "LValveRiver$Valley;" ∈ TB := TB_1 (List.mem_of_getElem? (i := 173) rfl) rfl
theorem wl_X5_kept : Cond.laysFinal RX5 "ValveRiver" "kept" "LValveRiver$Valley;" ∈ TB := TB_1 (List.mem_of_getElem? (i := 175) rfl) rfl
theorem wl_X5_trial : Cond.laysFinal RX5 "ValveRiver" "trial" "LValveRiver$Valley;" ∈ TB := TB_1 (List.mem_of_getElem? (i := 177) rfl) rfl
theorem wl_X5_asleep : Cond.laysFinal RX5 "ValveRiver" "asleep" "LValveRiver$Valley;" ∈ TB := TB_1 (List.mem_of_getElem? (i := 179) rfl) rfl
theorem wl_X5_stirred : Cond.laysFinal RX5 "ValveRiver" "stirred" "[I" ∈ TB := TB_1 (List.mem_of_getElem? (i := 181) rfl) rfl
theorem wl_X5_sheets : Cond.laysFinal RX5 "ValveRiver" "sheets" "[LValveRiver$Sheet;" ∈ TB := TB_1 (List.mem_of_getElem? (i := 183) rfl) rfl
theorem wl_X5_reader : Cond.laysFinal RX5 "ValveRiver" "reader" "LValveRiver$Reader;" ∈ TB := TB_1 (List.mem_of_getElem? (i := 185) rfl) rfl
theorem wl_X5_findings : Cond.laysFinal RX5 "ValveRiver" "findings" "[I" ∈ TB := TB_1 (List.mem_of_getElem? (i := 187) rfl) rfl
theorem wl_X5_isKept : Cond.lays RX5 "ValveRiver" "isKept" "Z" ∈ TB := TB_1 (List.mem_of_getElem? (i := 189) rfl) rfl
theorem wm_L_13 : Cond.methodLink RL 13 yX5_level ∈ TB := TB_1 (List.mem_of_getElem? (i := 192) rfl) rfl
theorem wi_X5_level : Cond.instanceMethod yX5_level ∈ TB := TB_1 (List.mem_of_getElem? (i := 193) rfl) rfl
theorem wsel_X5_level : Cond.selects RX5 yX5_level yX5_level ∈ TB := TB_1 (List.mem_of_getElem? (i := 194) rfl) rfl
theorem wc_X5_level : Cond.code yX5_level cX5_level 4 (some .int) ∈ TB := TB_1 (List.mem_of_getElem? (i := 195) rfl) rfl
theorem wm_X5_50 : Cond.methodLink RX5 50 yX5_outside ∈ TB := TB_1 (List.mem_of_getElem? (i := 196) rfl) rfl
theorem wst_X5_outside : Cond.static yX5_outside ∈ TB := TB_1 (List.mem_of_getElem? (i := 197) rfl) rfl
theorem wc_X5_outside : Cond.code yX5_outside cX5_outside 2 (some .boolean) ∈ TB := TB_1 (List.mem_of_getElem? (i := 198) rfl) rfl
theorem wk_X5_54 : Cond.constant RX5 54 (-1000001) ∈ TB := TB_1 (List.mem_of_getElem? (i := 199) rfl) rfl
theorem wm_X5_55 : Cond.methodLink RX5 55 yX5_finding ∈ TB := TB_1 (List.mem_of_getElem? (i := 200) rfl) rfl
theorem wp_X5_finding : Cond.privateMethod yX5_finding ∈ lw_tbl := TT_1 (List.mem_of_getElem? (i := 201) rfl)
theorem wi_X5_finding : Cond.instanceMethod yX5_finding ∈ TB := TB_1 (List.mem_of_getElem? (i := 202) rfl) rfl
theorem wc_X5_finding : Cond.code yX5_finding cX5_finding 3 (some .int) ∈ TB := TB_1 (List.mem_of_getElem? (i := 203) rfl) rfl
theorem wm_L_18 : Cond.methodLink RL 18 yX5_stands ∈ TB := TB_1 (List.mem_of_getElem? (i := 204) rfl) rfl
theorem wi_X5_stands : Cond.instanceMethod yX5_stands ∈ TB := TB_1 (List.mem_of_getElem? (i := 205) rfl) rfl
theorem wsel_X5_stands : Cond.selects RX5 yX5_stands yX5_stands ∈ TB := TB_1 (List.mem_of_getElem? (i := 206) rfl) rfl
theorem wc_X5_stands : Cond.code yX5_stands cX5_stands 2 (some .int) ∈ TB := TB_1 (List.mem_of_getElem? (i := 207) rfl) rfl
theorem wm_L_23 : Cond.methodLink RL 23 yX5_plan ∈ TB := TB_1 (List.mem_of_getElem? (i := 208) rfl) rfl
theorem wi_X5_plan : Cond.instanceMethod yX5_plan ∈ TB := TB_1 (List.mem_of_getElem? (i := 209) rfl) rfl
theorem wsel_X5_plan : Cond.selects RX5 yX5_plan yX5_plan ∈ TB := TB_1 (List.mem_of_getElem? (i := 210) rfl) rfl
theorem wc_X5_plan : Cond.code yX5_plan cX5_plan 4 (some .int) ∈ TB := TB_1 (List.mem_of_getElem? (i := 211) rfl) rfl
theorem wm_L_27 : Cond.methodLink RL 27 yX5_opening ∈ TB := TB_1 (List.mem_of_getElem? (i := 212) rfl) rfl
theorem wi_X5_opening : Cond.instanceMethod yX5_opening ∈ TB := TB_1 (List.mem_of_getElem? (i := 213) rfl) rfl
theorem wsel_X5_opening : Cond.selects RX5 yX5_opening yX5_opening ∈ TB := TB_1 (List.mem_of_getElem? (i := 214) rfl) rfl
theorem wc_X5_opening : Cond.code yX5_opening cX5_opening 2 (some .int) ∈ TB := TB_1 (List.mem_of_getElem? (i := 215) rfl) rfl
theorem wm_L_31 : Cond.methodLink RL 31 yX5_steady ∈ TB := TB_1 (List.mem_of_getElem? (i := 216) rfl) rfl
theorem wi_X5_steady : Cond.instanceMethod yX5_steady ∈ TB := TB_1 (List.mem_of_getElem? (i := 217) rfl) rfl
theorem wsel_X5_steady : Cond.selects RX5 yX5_steady yX5_steady ∈ TB := TB_1 (List.mem_of_getElem? (i := 218) rfl) rfl
theorem wc_X5_steady : Cond.code yX5_steady cX5_steady 3 (some .int) ∈ TB := TB_1 (List.mem_of_getElem? (i := 219) rfl) rfl
theorem wm_X5_71 : Cond.methodLink RX5 71 yX4_openingsTogether ∈ TB := TB_1 (List.mem_of_getElem? (i := 220) rfl) rfl
theorem wi_X4_openingsTogether : Cond.instanceMethod yX4_openingsTogether ∈ TB := TB_1 (List.mem_of_getElem? (i := 221) rfl) rfl
theorem wsel_X4_openingsTogether : Cond.selects RX4 yX4_openingsTogether yX4_openingsTogether ∈ TB := TB_1 (List.mem_of_getElem? (i := 222) rfl) rfl
theorem wc_X4_openingsTogether : Cond.code yX4_openingsTogether cX4_openingsTogether 1 (some .int) ∈ TB := TB_1 (List.mem_of_getElem? (i := 223) rfl) rfl
theorem wmn_X4_46 : Cond.methodLinkNest RX4 46 yX5_together "ValveRiver" ∈ lw_tbl := TT_1 (List.mem_of_getElem? (i := 224) rfl)
theorem wst_X5_together : Cond.static yX5_together ∈ TB := TB_1 (List.mem_of_getElem? (i := 225) rfl) rfl
theorem wc_X5_together : Cond.code yX5_together cX5_together 3 (some .int) ∈ TB := TB_1 (List.mem_of_getElem? (i := 226) rfl) rfl
theorem wm_X5_75 : Cond.methodLink RX5 75 yX4_openAll ∈ TB := TB_1 (List.mem_of_getElem? (i := 227) rfl) rfl
theorem wi_X4_openAll : Cond.instanceMethod yX4_openAll ∈ TB := TB_1 (List.mem_of_getElem? (i := 228) rfl) rfl
theorem wsel_X4_openAll : Cond.selects RX4 yX4_openAll yX4_openAll ∈ TB := TB_1 (List.mem_of_getElem? (i := 229) rfl) rfl
theorem wc_X4_openAll : Cond.code yX4_openAll cX4_openAll 3 none ∈ TB := TB_1 (List.mem_of_getElem? (i := 230) rfl) rfl
theorem wm_L_35 : Cond.methodLink RL 35 yX5_watcher ∈ TB := TB_1 (List.mem_of_getElem? (i := 231) rfl) rfl
theorem wi_X5_watcher : Cond.instanceMethod yX5_watcher ∈ TB := TB_1 (List.mem_of_getElem? (i := 232) rfl) rfl
theorem wsel_X5_watcher : Cond.selects RX5 yX5_watcher yX5_watcher ∈ TB := TB_1 (List.mem_of_getElem? (i := 233) rfl) rfl
theorem wc_X5_watcher : Cond.code yX5_watcher cX5_watcher 3 (some .int) ∈ TB := TB_1 (List.mem_of_getElem? (i := 234) rfl) rfl
theorem wm_X5_79 : Cond.methodLink RX5 79 yX2_isFull ∈ TB := TB_1 (List.mem_of_getElem? (i := 235) rfl) rfl
theorem wi_X2_isFull : Cond.instanceMethod yX2_isFull ∈ TB := TB_1 (List.mem_of_getElem? (i := 236) rfl) rfl
theorem wsel_X2_isFull : Cond.selects RX2 yX2_isFull yX2_isFull ∈ TB := TB_1 (List.mem_of_getElem? (i := 237) rfl) rfl
theorem wc_X2_isFull : Cond.code yX2_isFull cX2_isFull 1 (some .boolean) ∈ TB := TB_1 (List.mem_of_getElem? (i := 238) rfl) rfl
theorem wk_X5_83 : Cond.constant RX5 83 (-1000002) ∈ TB := TB_1 (List.mem_of_getElem? (i := 239) rfl) rfl
theorem wm_X5_84 : Cond.methodLink RX5 84 yX2_settle ∈ TB := TB_2 (List.mem_of_getElem? (i := 0) rfl) rfl
theorem wi_X2_settle : Cond.instanceMethod yX2_settle ∈ TB := TB_2 (List.mem_of_getElem? (i := 1) rfl) rfl
theorem wsel_X2_settle : Cond.selects RX2 yX2_settle yX2_settle ∈ TB := TB_2 (List.mem_of_getElem? (i := 2) rfl) rfl
theorem wc_X2_settle : Cond.code yX2_settle cX2_settle 4 (some .int) ∈ TB := TB_2 (List.mem_of_getElem? (i := 3) rfl) rfl
theorem wm_X2_49 : Cond.methodLink RX2 49 yX3_begin ∈ TB := TB_2 (List.mem_of_getElem? (i := 4) rfl) rfl
theorem wi_X3_begin : Cond.instanceMethod yX3_begin ∈ TB := TB_2 (List.mem_of_getElem? (i := 5) rfl) rfl
theorem wsel_X3_begin : Cond.selects RX3 yX3_begin yX3_begin ∈ TB := TB_2 (List.mem_of_getElem? (i := 6) rfl) rfl
theorem wc_X3_begin : Cond.code yX3_begin cX3_begin 3 none ∈ TB := TB_2 (List.mem_of_getElem? (i := 7) rfl) rfl
theorem wm_L_39 : Cond.methodLink RL 39 yX5_of ∈ TB := TB_2 (List.mem_of_getElem? (i := 8) rfl) rfl
theorem wi_X5_of : Cond.instanceMethod yX5_of ∈ TB := TB_2 (List.mem_of_getElem? (i := 9) rfl) rfl
theorem wsel_X5_of : Cond.selects RX5 yX5_of yX5_of ∈ TB := TB_2 (List.mem_of_getElem? (i := 10) rfl) rfl
theorem wc_X5_of : Cond.code yX5_of cX5_of 4 (some .int) ∈ TB := TB_2 (List.mem_of_getElem? (i := 11) rfl) rfl
theorem wm_X5_88 : Cond.methodLink RX5 88 yX5_noWatcher ∈ TB := TB_2 (List.mem_of_getElem? (i := 12) rfl) rfl
theorem wp_X5_noWatcher : Cond.privateMethod yX5_noWatcher ∈ lw_tbl := TT_2 (List.mem_of_getElem? (i := 13) rfl)
theorem wi_X5_noWatcher : Cond.instanceMethod yX5_noWatcher ∈ TB := TB_2 (List.mem_of_getElem? (i := 14) rfl) rfl
theorem wc_X5_noWatcher : Cond.code yX5_noWatcher cX5_noWatcher 2 (some .boolean) ∈ TB := TB_2 (List.mem_of_getElem? (i := 15) rfl) rfl
theorem wm_X5_114 : Cond.methodLink RX5 114 yX3_bears ∈ TB := TB_2 (List.mem_of_getElem? (i := 16) rfl) rfl
theorem wi_X3_bears : Cond.instanceMethod yX3_bears ∈ TB := TB_2 (List.mem_of_getElem? (i := 17) rfl) rfl
theorem wsel_X3_bears : Cond.selects RX3 yX3_bears yX3_bears ∈ TB := TB_2 (List.mem_of_getElem? (i := 18) rfl) rfl
theorem wc_X3_bears : Cond.code yX3_bears cX3_bears 1 (some .int) ∈ TB := TB_2 (List.mem_of_getElem? (i := 19) rfl) rfl
theorem wm_X3_58 : Cond.methodLink RX3 58 yX3_millBears ∈ TB := TB_2 (List.mem_of_getElem? (i := 20) rfl) rfl
theorem wp_X3_millBears : Cond.privateMethod yX3_millBears ∈ lw_tbl := TT_2 (List.mem_of_getElem? (i := 21) rfl)
theorem wi_X3_millBears : Cond.instanceMethod yX3_millBears ∈ TB := TB_2 (List.mem_of_getElem? (i := 22) rfl) rfl
theorem wc_X3_millBears : Cond.code yX3_millBears cX3_millBears 1 (some .int) ∈ TB := TB_2 (List.mem_of_getElem? (i := 23) rfl) rfl
theorem wm_X5_117 : Cond.methodLink RX5 117 yX3_doubts ∈ TB := TB_2 (List.mem_of_getElem? (i := 24) rfl) rfl
theorem wi_X3_doubts : Cond.instanceMethod yX3_doubts ∈ TB := TB_2 (List.mem_of_getElem? (i := 25) rfl) rfl
theorem wsel_X3_doubts : Cond.selects RX3 yX3_doubts yX3_doubts ∈ TB := TB_2 (List.mem_of_getElem? (i := 26) rfl) rfl
theorem wc_X3_doubts : Cond.code yX3_doubts cX3_doubts 1 (some .int) ∈ TB := TB_2 (List.mem_of_getElem? (i := 27) rfl) rfl
theorem wm_X5_120 : Cond.methodLink RX5 120 yX3_trusts ∈ TB := TB_2 (List.mem_of_getElem? (i := 28) rfl) rfl
theorem wi_X3_trusts : Cond.instanceMethod yX3_trusts ∈ TB := TB_2 (List.mem_of_getElem? (i := 29) rfl) rfl
theorem wsel_X3_trusts : Cond.selects RX3 yX3_trusts yX3_trusts ∈ TB := TB_2 (List.mem_of_getElem? (i := 30) rfl) rfl
theorem wc_X3_trusts : Cond.code yX3_trusts cX3_trusts 1 (some .int) ∈ TB := TB_2 (List.mem_of_getElem? (i := 31) rfl) rfl
theorem wm_L_43 : Cond.methodLink RL 43 yX5_change ∈ TB := TB_2 (List.mem_of_getElem? (i := 32) rfl) rfl
theorem wi_X5_change : Cond.instanceMethod yX5_change ∈ TB := TB_2 (List.mem_of_getElem? (i := 33) rfl) rfl
theorem wsel_X5_change : Cond.selects RX5 yX5_change yX5_change ∈ TB := TB_2 (List.mem_of_getElem? (i := 34) rfl) rfl
theorem wc_X5_change : Cond.code yX5_change cX5_change 4 (some .int) ∈ TB := TB_2 (List.mem_of_getElem? (i := 35) rfl) rfl
theorem wm_X5_123 : Cond.methodLink RX5 123 yX5_mostOf ∈ TB := TB_2 (List.mem_of_getElem? (i := 36) rfl) rfl
theorem wst_X5_mostOf : Cond.static yX5_mostOf ∈ TB := TB_2 (List.mem_of_getElem? (i := 37) rfl) rfl
theorem wc_X5_mostOf : Cond.code yX5_mostOf cX5_mostOf 1 (some .int) ∈ TB := TB_2 (List.mem_of_getElem? (i := 38) rfl) rfl
theorem wm_X5_126 : Cond.methodLink RX5 126 yX3_set ∈ TB := TB_2 (List.mem_of_getElem? (i := 39) rfl) rfl
theorem wi_X3_set : Cond.instanceMethod yX3_set ∈ TB := TB_2 (List.mem_of_getElem? (i := 40) rfl) rfl
theorem wsel_X3_set : Cond.selects RX3 yX3_set yX3_set ∈ TB := TB_2 (List.mem_of_getElem? (i := 41) rfl) rfl
theorem wc_X3_set : Cond.code yX3_set cX3_set 4 (some .int) ∈ TB := TB_2 (List.mem_of_getElem? (i := 42) rfl) rfl
theorem wm_L_48 : Cond.methodLink RL 48 yX5_go ∈ TB := TB_2 (List.mem_of_getElem? (i := 43) rfl) rfl
theorem wi_X5_go : Cond.instanceMethod yX5_go ∈ TB := TB_2 (List.mem_of_getElem? (i := 44) rfl) rfl
theorem wsel_X5_go : Cond.selects RX5 yX5_go yX5_go ∈ TB := TB_2 (List.mem_of_getElem? (i := 45) rfl) rfl
theorem wc_X5_go : Cond.code yX5_go cX5_go 2 (some .int) ∈ TB := TB_2 (List.mem_of_getElem? (i := 46) rfl) rfl
theorem wk_X5_132 : Cond.constant RX5 132 (99999) ∈ TB := TB_2 (List.mem_of_getElem? (i := 47) rfl) rfl
theorem wk_X5_133 : Cond.constant RX5 133 (-1000005) ∈ TB := TB_2 (List.mem_of_getElem? (i := 48) rfl) rfl
theorem wm_X5_134 : Cond.methodLink RX5 134 yX2_pass ∈ TB := TB_2 (List.mem_of_getElem? (i := 49) rfl) rfl
theorem wi_X2_pass : Cond.instanceMethod yX2_pass ∈ TB := TB_2 (List.mem_of_getElem? (i := 50) rfl) rfl
theorem wsel_X2_pass : Cond.selects RX2 yX2_pass yX2_pass ∈ TB := TB_2 (List.mem_of_getElem? (i := 51) rfl) rfl
theorem wc_X2_pass : Cond.code yX2_pass cX2_pass 3 none ∈ TB := TB_2 (List.mem_of_getElem? (i := 52) rfl) rfl
theorem wm_X2_53 : Cond.methodLink RX2 53 yX4_run ∈ TB := TB_2 (List.mem_of_getElem? (i := 53) rfl) rfl
theorem wi_X4_run : Cond.instanceMethod yX4_run ∈ TB := TB_2 (List.mem_of_getElem? (i := 54) rfl) rfl
theorem wsel_X4_run : Cond.selects RX4 yX4_run yX4_run ∈ TB := TB_2 (List.mem_of_getElem? (i := 55) rfl) rfl
theorem wc_X4_run : Cond.code yX4_run cX4_run 3 none ∈ TB := TB_2 (List.mem_of_getElem? (i := 56) rfl) rfl
theorem wm_X4_34 : Cond.methodLink RX4 34 yX4_flow ∈ TB := TB_2 (List.mem_of_getElem? (i := 57) rfl) rfl
theorem wi_X4_flow : Cond.instanceMethod yX4_flow ∈ TB := TB_2 (List.mem_of_getElem? (i := 58) rfl) rfl
theorem wsel_X4_flow : Cond.selects RX4 yX4_flow yX4_flow ∈ TB := TB_2 (List.mem_of_getElem? (i := 59) rfl) rfl
theorem wc_X4_flow : Cond.code yX4_flow cX4_flow 4 none ∈ TB := TB_2 (List.mem_of_getElem? (i := 60) rfl) rfl
theorem wm_X4_28 : Cond.methodLink RX4 28 arraycopyName ∈ TB := TB_2 (List.mem_of_getElem? (i := 61) rfl) rfl
theorem wst_arraycopy : Cond.static arraycopyName ∈ TB := TB_2 (List.mem_of_getElem? (i := 62) rfl) rfl
theorem wnat_arraycopy : Cond.native arraycopyName ∈ TB := TB_2 (List.mem_of_getElem? (i := 63) rfl) rfl
theorem wk_X4_38 : Cond.constant RX4 38 (999999) ∈ TB := TB_2 (List.mem_of_getElem? (i := 64) rfl) rfl
theorem wm_X4_39 : Cond.methodLink RX4 39 Lib.Math.min.name ∈ TB := TB_2 (List.mem_of_getElem? (i := 65) rfl) rfl
theorem wst_min : Cond.static Lib.Math.min.name ∈ TB := TB_2 (List.mem_of_getElem? (i := 66) rfl) rfl
theorem wc_min : Cond.code Lib.Math.min.name Lib.Math.min.code 2 (some .int) ∈ TB := TB_2 (List.mem_of_getElem? (i := 67) rfl) rfl
theorem wk_X4_45 : Cond.constant RX4 45 (99999) ∈ TB := TB_2 (List.mem_of_getElem? (i := 68) rfl) rfl
theorem wm_X2_57 : Cond.methodLink RX2 57 yX2_liveAll ∈ TB := TB_2 (List.mem_of_getElem? (i := 69) rfl) rfl
theorem wp_X2_liveAll : Cond.privateMethod yX2_liveAll ∈ lw_tbl := TT_2 (List.mem_of_getElem? (i := 70) rfl)
theorem wi_X2_liveAll : Cond.instanceMethod yX2_liveAll ∈ TB := TB_2 (List.mem_of_getElem? (i := 71) rfl) rfl
theorem wc_X2_liveAll : Cond.code yX2_liveAll cX2_liveAll 3 none ∈ TB := TB_2 (List.mem_of_getElem? (i := 72) rfl) rfl
theorem wm_X2_72 : Cond.methodLink RX2 72 yX3_live ∈ TB := TB_2 (List.mem_of_getElem? (i := 73) rfl) rfl
theorem wi_X3_live : Cond.instanceMethod yX3_live ∈ TB := TB_2 (List.mem_of_getElem? (i := 74) rfl) rfl
theorem wsel_X3_live : Cond.selects RX3 yX3_live yX3_live ∈ TB := TB_2 (List.mem_of_getElem? (i := 75) rfl) rfl
theorem wc_X3_live : Cond.code yX3_live cX3_live 3 none ∈ TB := TB_2 (List.mem_of_getElem? (i := 76) rfl) rfl
theorem wm_X3_27 : Cond.methodLink RX3 27 yX3_knows ∈ TB := TB_2 (List.mem_of_getElem? (i := 77) rfl) rfl
theorem wi_X3_knows : Cond.instanceMethod yX3_knows ∈ TB := TB_2 (List.mem_of_getElem? (i := 78) rfl) rfl
theorem wsel_X3_knows : Cond.selects RX3 yX3_knows yX3_knows ∈ TB := TB_2 (List.mem_of_getElem? (i := 79) rfl) rfl
theorem wc_X3_knows : Cond.code yX3_knows cX3_knows 1 (some .boolean) ∈ TB := TB_2 (List.mem_of_getElem? (i := 80) rfl) rfl
theorem wm_X3_31 : Cond.methodLink RX3 31 Lib.Math.abs.name ∈ TB := TB_2 (List.mem_of_getElem? (i := 81) rfl) rfl
theorem wst_abs : Cond.static Lib.Math.abs.name ∈ TB := TB_2 (List.mem_of_getElem? (i := 82) rfl) rfl
theorem wc_abs : Cond.code Lib.Math.abs.name Lib.Math.abs.code 1 (some .int) ∈ TB := TB_2 (List.mem_of_getElem? (i := 83) rfl) rfl
theorem wm_X3_37 : Cond.methodLink RX3 37 yX3_bears ∈ TB := TB_2 (List.mem_of_getElem? (i := 84) rfl) rfl
theorem wm_X3_41 : Cond.methodLink RX3 41 yX3_doubts ∈ TB := TB_2 (List.mem_of_getElem? (i := 85) rfl) rfl
theorem wm_X3_44 : Cond.methodLink RX3 44 Lib.Math.max.name ∈ TB := TB_2 (List.mem_of_getElem? (i := 86) rfl) rfl
theorem wst_max : Cond.static Lib.Math.max.name ∈ TB := TB_2 (List.mem_of_getElem? (i := 87) rfl) rfl
theorem wc_max : Cond.code Lib.Math.max.name Lib.Math.max.code 2 (some .int) ∈ TB := TB_2 (List.mem_of_getElem? (i := 88) rfl) rfl
theorem wm_X3_48 : Cond.methodLink RX3 48 yX3_lacks ∈ TB := TB_2 (List.mem_of_getElem? (i := 89) rfl) rfl
theorem wi_X3_lacks : Cond.instanceMethod yX3_lacks ∈ TB := TB_2 (List.mem_of_getElem? (i := 90) rfl) rfl
theorem wsel_X3_lacks : Cond.selects RX3 yX3_lacks yX3_lacks ∈ TB := TB_2 (List.mem_of_getElem? (i := 91) rfl) rfl
theorem wc_X3_lacks : Cond.code yX3_lacks cX3_lacks 2 (some .boolean) ∈ TB := TB_2 (List.mem_of_getElem? (i := 92) rfl) rfl
theorem wm_X3_52 : Cond.methodLink RX3 52 yX3_trusts ∈ TB := TB_2 (List.mem_of_getElem? (i := 93) rfl) rfl
theorem wm_X3_55 : Cond.methodLink RX3 55 Lib.Math.min.name ∈ TB := TB_2 (List.mem_of_getElem? (i := 94) rfl) rfl
theorem wm_X5_137 : Cond.methodLink RX5 137 yX2_knowing ∈ TB := TB_2 (List.mem_of_getElem? (i := 95) rfl) rfl
theorem wi_X2_knowing : Cond.instanceMethod yX2_knowing ∈ TB := TB_2 (List.mem_of_getElem? (i := 96) rfl) rfl
theorem wsel_X2_knowing : Cond.selects RX2 yX2_knowing yX2_knowing ∈ TB := TB_2 (List.mem_of_getElem? (i := 97) rfl) rfl
theorem wc_X2_knowing : Cond.code yX2_knowing cX2_knowing 3 (some .int) ∈ TB := TB_2 (List.mem_of_getElem? (i := 98) rfl) rfl
theorem wm_X2_82 : Cond.methodLink RX2 82 yX3_knows ∈ TB := TB_2 (List.mem_of_getElem? (i := 99) rfl) rfl
theorem wm_L_52 : Cond.methodLink RL 52 yX5_now ∈ TB := TB_2 (List.mem_of_getElem? (i := 100) rfl) rfl
theorem wi_X5_now : Cond.instanceMethod yX5_now ∈ TB := TB_2 (List.mem_of_getElem? (i := 101) rfl) rfl
theorem wsel_X5_now : Cond.selects RX5 yX5_now yX5_now ∈ TB := TB_2 (List.mem_of_getElem? (i := 102) rfl) rfl
theorem wc_X5_now : Cond.code yX5_now cX5_now 2 (some .int) ∈ TB := TB_2 (List.mem_of_getElem? (i := 103) rfl) rfl
theorem wm_X5_140 : Cond.methodLink RX5 140 yX4_levelsTogether ∈ TB := TB_2 (List.mem_of_getElem? (i := 104) rfl) rfl
theorem wi_X4_levelsTogether : Cond.instanceMethod yX4_levelsTogether ∈ TB := TB_2 (List.mem_of_getElem? (i := 105) rfl) rfl
theorem wsel_X4_levelsTogether : Cond.selects RX4 yX4_levelsTogether yX4_levelsTogether ∈ TB := TB_2 (List.mem_of_getElem? (i := 106) rfl) rfl
theorem wc_X4_levelsTogether : Cond.code yX4_levelsTogether cX4_levelsTogether 1 (some .int) ∈ TB := TB_2 (List.mem_of_getElem? (i := 107) rfl) rfl
theorem wm_X5_146 : Cond.methodLink RX5 146 yX2_lacking ∈ TB := TB_2 (List.mem_of_getElem? (i := 108) rfl) rfl
theorem wi_X2_lacking : Cond.instanceMethod yX2_lacking ∈ TB := TB_2 (List.mem_of_getElem? (i := 109) rfl) rfl
theorem wsel_X2_lacking : Cond.selects RX2 yX2_lacking yX2_lacking ∈ TB := TB_2 (List.mem_of_getElem? (i := 110) rfl) rfl
theorem wc_X2_lacking : Cond.code yX2_lacking cX2_lacking 3 (some .int) ∈ TB := TB_2 (List.mem_of_getElem? (i := 111) rfl) rfl
theorem wm_X2_86 : Cond.methodLink RX2 86 yX3_lacks ∈ TB := TB_2 (List.mem_of_getElem? (i := 112) rfl) rfl
theorem wm_X5_149 : Cond.methodLink RX5 149 yX2_beliefsTogether ∈ TB := TB_2 (List.mem_of_getElem? (i := 113) rfl) rfl
theorem wi_X2_beliefsTogether : Cond.instanceMethod yX2_beliefsTogether ∈ TB := TB_2 (List.mem_of_getElem? (i := 114) rfl) rfl
theorem wsel_X2_beliefsTogether : Cond.selects RX2 yX2_beliefsTogether yX2_beliefsTogether ∈ TB := TB_2 (List.mem_of_getElem? (i := 115) rfl) rfl
theorem wc_X2_beliefsTogether : Cond.code yX2_beliefsTogether cX2_beliefsTogether 3 (some .int) ∈ TB := TB_2 (List.mem_of_getElem? (i := 116) rfl) rfl
theorem wm_L_56 : Cond.methodLink RL 56 yX5_ahead ∈ TB := TB_2 (List.mem_of_getElem? (i := 117) rfl) rfl
theorem wi_X5_ahead : Cond.instanceMethod yX5_ahead ∈ TB := TB_2 (List.mem_of_getElem? (i := 118) rfl) rfl
theorem wsel_X5_ahead : Cond.selects RX5 yX5_ahead yX5_ahead ∈ TB := TB_2 (List.mem_of_getElem? (i := 119) rfl) rfl
theorem wc_X5_ahead : Cond.code yX5_ahead cX5_ahead 4 (some .int) ∈ TB := TB_2 (List.mem_of_getElem? (i := 120) rfl) rfl
theorem wm_X5_152 : Cond.methodLink RX5 152 yX5_waterTried ∈ TB := TB_2 (List.mem_of_getElem? (i := 121) rfl) rfl
theorem wp_X5_waterTried : Cond.privateMethod yX5_waterTried ∈ lw_tbl := TT_2 (List.mem_of_getElem? (i := 122) rfl)
theorem wi_X5_waterTried : Cond.instanceMethod yX5_waterTried ∈ TB := TB_2 (List.mem_of_getElem? (i := 123) rfl) rfl
theorem wc_X5_waterTried : Cond.code yX5_waterTried cX5_waterTried 1 (some (.object "ValveRiver$Water")) ∈ TB := TB_2 (List.mem_of_getElem? (i := 124) rfl) rfl
theorem wm_X5_294 : Cond.methodLink RX5 294 yX4_become ∈ TB := TB_2 (List.mem_of_getElem? (i := 125) rfl) rfl
theorem wi_X4_become : Cond.instanceMethod yX4_become ∈ TB := TB_2 (List.mem_of_getElem? (i := 126) rfl) rfl
theorem wsel_X4_become : Cond.selects RX4 yX4_become yX4_become ∈ TB := TB_2 (List.mem_of_getElem? (i := 127) rfl) rfl
theorem wc_X4_become : Cond.code yX4_become cX4_become 2 none ∈ TB := TB_2 (List.mem_of_getElem? (i := 128) rfl) rfl
theorem wm_X5_156 : Cond.methodLink RX5 156 yX4_run ∈ TB := TB_2 (List.mem_of_getElem? (i := 129) rfl) rfl
theorem wm_L_60 : Cond.methodLink RL 60 yX5_belief ∈ TB := TB_2 (List.mem_of_getElem? (i := 130) rfl) rfl
theorem wi_X5_belief : Cond.instanceMethod yX5_belief ∈ TB := TB_2 (List.mem_of_getElem? (i := 131) rfl) rfl
theorem wsel_X5_belief : Cond.selects RX5 yX5_belief yX5_belief ∈ TB := TB_2 (List.mem_of_getElem? (i := 132) rfl) rfl
theorem wc_X5_belief : Cond.code yX5_belief cX5_belief 5 (some .int) ∈ TB := TB_2 (List.mem_of_getElem? (i := 133) rfl) rfl
theorem wm_X5_159 : Cond.methodLink RX5 159 yX2_become ∈ TB := TB_2 (List.mem_of_getElem? (i := 134) rfl) rfl
theorem wi_X2_become : Cond.instanceMethod yX2_become ∈ TB := TB_2 (List.mem_of_getElem? (i := 135) rfl) rfl
theorem wsel_X2_become : Cond.selects RX2 yX2_become yX2_become ∈ TB := TB_2 (List.mem_of_getElem? (i := 136) rfl) rfl
theorem wc_X2_become : Cond.code yX2_become cX2_become 3 none ∈ TB := TB_2 (List.mem_of_getElem? (i := 137) rfl) rfl
theorem wm_X2_36 : Cond.methodLink RX2 36 yX4_become ∈ TB := TB_2 (List.mem_of_getElem? (i := 138) rfl) rfl
theorem wm_X2_40 : Cond.methodLink RX2 40 yX3_become ∈ TB := TB_2 (List.mem_of_getElem? (i := 139) rfl) rfl
theorem wi_X3_become : Cond.instanceMethod yX3_become ∈ TB := TB_2 (List.mem_of_getElem? (i := 140) rfl) rfl
theorem wsel_X3_become : Cond.selects RX3 yX3_become yX3_become ∈ TB := TB_2 (List.mem_of_getElem? (i := 141) rfl) rfl
theorem wc_X3_become : Cond.code yX3_become cX3_become 2 none ∈ TB := TB_2 (List.mem_of_getElem? (i := 142) rfl) rfl
theorem wm_X2_43 : Cond.methodLink RX2 43 arraycopyName ∈ TB := TB_2 (List.mem_of_getElem? (i := 143) rfl) rfl
theorem wm_L_64 : Cond.methodLink RL 64 yX5_when ∈ TB := TB_2 (List.mem_of_getElem? (i := 144) rfl) rfl
theorem wi_X5_when : Cond.instanceMethod yX5_when ∈ TB := TB_2 (List.mem_of_getElem? (i := 145) rfl) rfl
theorem wsel_X5_when : Cond.selects RX5 yX5_when yX5_when ∈ TB := TB_2 (List.mem_of_getElem? (i := 146) rfl) rfl
theorem wc_X5_when : Cond.code yX5_when cX5_when 3 (some .int) ∈ TB := TB_2 (List.mem_of_getElem? (i := 147) rfl) rfl
theorem wm_X5_163 : Cond.methodLink RX5 163 yX3_knows ∈ TB := TB_2 (List.mem_of_getElem? (i := 148) rfl) rfl
theorem wk_X5_166 : Cond.constant RX5 166 (-1000004) ∈ TB := TB_2 (List.mem_of_getElem? (i := 149) rfl) rfl
theorem wm_L_68 : Cond.methodLink RL 68 yX5_first ∈ TB := TB_2 (List.mem_of_getElem? (i := 150) rfl) rfl
theorem wi_X5_first : Cond.instanceMethod yX5_first ∈ TB := TB_2 (List.mem_of_getElem? (i := 151) rfl) rfl
theorem wsel_X5_first : Cond.selects RX5 yX5_first yX5_first ∈ TB := TB_2 (List.mem_of_getElem? (i := 152) rfl) rfl
theorem wc_X5_first : Cond.code yX5_first cX5_first 3 (some .int) ∈ TB := TB_2 (List.mem_of_getElem? (i := 153) rfl) rfl
theorem wm_X5_167 : Cond.methodLink RX5 167 yJ6_numberOfTrailingZeros_0f7a4 ∈ TB := TB_2 (List.mem_of_getElem? (i := 154) rfl) rfl
theorem wst_J6_numberOfTrailingZeros_0f7a4 : Cond.static yJ6_numberOfTrailingZeros_0f7a4 ∈ TB := TB_2 (List.mem_of_getElem? (i := 155) rfl) rfl
theorem wc_J6_numberOfTrailingZeros_0f7a4 : Cond.code yJ6_numberOfTrailingZeros_0f7a4 cJ6_numberOfTrailingZeros_0f7a4 2 (some .int) ∈ TB := TB_2 (List.mem_of_getElem? (i := 156) rfl) rfl
theorem wk_J6_264 : Cond.constant RJ6 264 (65536) ∈ TB := TB_2 (List.mem_of_getElem? (i := 157) rfl) rfl
theorem wm_L_73 : Cond.methodLink RL 73 yX5_reaches ∈ TB := TB_2 (List.mem_of_getElem? (i := 158) rfl) rfl
theorem wi_X5_reaches : Cond.instanceMethod yX5_reaches ∈ TB := TB_2 (List.mem_of_getElem? (i := 159) rfl) rfl
theorem wsel_X5_reaches : Cond.selects RX5 yX5_reaches yX5_reaches ∈ TB := TB_2 (List.mem_of_getElem? (i := 160) rfl) rfl
theorem wc_X5_reaches : Cond.code yX5_reaches cX5_reaches 5 (some .int) ∈ TB := TB_2 (List.mem_of_getElem? (i := 161) rfl) rfl
theorem wm_L_77 : Cond.methodLink RL 77 yX5_range ∈ TB := TB_2 (List.mem_of_getElem? (i := 162) rfl) rfl
theorem wi_X5_range : Cond.instanceMethod yX5_range ∈ TB := TB_2 (List.mem_of_getElem? (i := 163) rfl) rfl
theorem wsel_X5_range : Cond.selects RX5 yX5_range yX5_range ∈ TB := TB_2 (List.mem_of_getElem? (i := 164) rfl) rfl
theorem wc_X5_range : Cond.code yX5_range cX5_range 8 (some .int) ∈ TB := TB_2 (List.mem_of_getElem? (i := 165) rfl) rfl
theorem wm_X5_172 : Cond.methodLink RX5 172 Lib.Math.min.name ∈ TB := TB_2 (List.mem_of_getElem? (i := 166) rfl) rfl
theorem wm_X5_177 : Cond.methodLink RX5 177 Lib.Math.max.name ∈ TB := TB_2 (List.mem_of_getElem? (i := 167) rfl) rfl
theorem wm_L_81 : Cond.methodLink RL 81 yX5_enough ∈ TB := TB_2 (List.mem_of_getElem? (i := 168) rfl) rfl
theorem wi_X5_enough : Cond.instanceMethod yX5_enough ∈ TB := TB_2 (List.mem_of_getElem? (i := 169) rfl) rfl
theorem wsel_X5_enough : Cond.selects RX5 yX5_enough yX5_enough ∈ TB := TB_2 (List.mem_of_getElem? (i := 170) rfl) rfl
theorem wc_X5_enough : Cond.code yX5_enough cX5_enough 5 (some .int) ∈ TB := TB_2 (List.mem_of_getElem? (i := 171) rfl) rfl
theorem wm_X5_180 : Cond.methodLink RX5 180 yX5_isEnough ∈ TB := TB_2 (List.mem_of_getElem? (i := 172) rfl) rfl
theorem wp_X5_isEnough : Cond.privateMethod yX5_isEnough ∈ lw_tbl := TT_2 (List.mem_of_getElem? (i := 173) rfl)
theorem wi_X5_isEnough : Cond.instanceMethod yX5_isEnough ∈ TB := TB_2 (List.mem_of_getElem? (i := 174) rfl) rfl
theorem wc_X5_isEnough : Cond.code yX5_isEnough cX5_isEnough 3 (some .boolean) ∈ TB := TB_2 (List.mem_of_getElem? (i := 175) rfl) rfl
theorem wm_L_85 : Cond.methodLink RL 85 yX5_hide ∈ TB := TB_2 (List.mem_of_getElem? (i := 176) rfl) rfl
theorem wi_X5_hide : Cond.instanceMethod yX5_hide ∈ TB := TB_2 (List.mem_of_getElem? (i := 177) rfl) rfl
theorem wsel_X5_hide : Cond.selects RX5 yX5_hide yX5_hide ∈ TB := TB_2 (List.mem_of_getElem? (i := 178) rfl) rfl
theorem wc_X5_hide : Cond.code yX5_hide cX5_hide 7 (some .int) ∈ TB := TB_2 (List.mem_of_getElem? (i := 179) rfl) rfl
theorem wm_X5_183 : Cond.methodLink RX5 183 yJ6_bitCount_0f7a4 ∈ TB := TB_2 (List.mem_of_getElem? (i := 180) rfl) rfl
theorem wst_J6_bitCount_0f7a4 : Cond.static yJ6_bitCount_0f7a4 ∈ TB := TB_2 (List.mem_of_getElem? (i := 181) rfl) rfl
theorem wc_J6_bitCount_0f7a4 : Cond.code yJ6_bitCount_0f7a4 cJ6_bitCount_0f7a4 1 (some .int) ∈ TB := TB_2 (List.mem_of_getElem? (i := 182) rfl) rfl
theorem wk_J6_265 : Cond.constant RJ6 265 (1431655765) ∈ TB := TB_2 (List.mem_of_getElem? (i := 183) rfl) rfl
theorem wk_J6_266 : Cond.constant RJ6 266 (858993459) ∈ TB := TB_2 (List.mem_of_getElem? (i := 184) rfl) rfl
theorem wk_J6_267 : Cond.constant RJ6 267 (252645135) ∈ TB := TB_2 (List.mem_of_getElem? (i := 185) rfl) rfl
theorem wm_L_89 : Cond.methodLink RL 89 yX5_safe ∈ TB := TB_2 (List.mem_of_getElem? (i := 186) rfl) rfl
theorem wi_X5_safe : Cond.instanceMethod yX5_safe ∈ TB := TB_2 (List.mem_of_getElem? (i := 187) rfl) rfl
theorem wsel_X5_safe : Cond.selects RX5 yX5_safe yX5_safe ∈ TB := TB_2 (List.mem_of_getElem? (i := 188) rfl) rfl
theorem wc_X5_safe : Cond.code yX5_safe cX5_safe 5 (some .int) ∈ TB := TB_2 (List.mem_of_getElem? (i := 189) rfl) rfl
theorem wm_X5_186 : Cond.methodLink RX5 186 yX2_staysHidden ∈ TB := TB_2 (List.mem_of_getElem? (i := 190) rfl) rfl
theorem wi_X2_staysHidden : Cond.instanceMethod yX2_staysHidden ∈ TB := TB_2 (List.mem_of_getElem? (i := 191) rfl) rfl
theorem wsel_X2_staysHidden : Cond.selects RX2 yX2_staysHidden yX2_staysHidden ∈ TB := TB_2 (List.mem_of_getElem? (i := 192) rfl) rfl
theorem wc_X2_staysHidden : Cond.code yX2_staysHidden cX2_staysHidden 4 (some .boolean) ∈ TB := TB_2 (List.mem_of_getElem? (i := 193) rfl) rfl
theorem wm_X2_75 : Cond.methodLink RX2 75 yX2_pass ∈ TB := TB_2 (List.mem_of_getElem? (i := 194) rfl) rfl
theorem wm_X2_78 : Cond.methodLink RX2 78 yX2_knowing ∈ TB := TB_2 (List.mem_of_getElem? (i := 195) rfl) rfl
theorem wm_L_93 : Cond.methodLink RL 93 yX5_sleep ∈ TB := TB_2 (List.mem_of_getElem? (i := 196) rfl) rfl
theorem wi_X5_sleep : Cond.instanceMethod yX5_sleep ∈ TB := TB_2 (List.mem_of_getElem? (i := 197) rfl) rfl
theorem wsel_X5_sleep : Cond.selects RX5 yX5_sleep yX5_sleep ∈ TB := TB_2 (List.mem_of_getElem? (i := 198) rfl) rfl
theorem wc_X5_sleep : Cond.code yX5_sleep cX5_sleep 5 (some .int) ∈ TB := TB_2 (List.mem_of_getElem? (i := 199) rfl) rfl
theorem wm_X5_189 : Cond.methodLink RX5 189 yX2_passShut ∈ TB := TB_2 (List.mem_of_getElem? (i := 200) rfl) rfl
theorem wi_X2_passShut : Cond.instanceMethod yX2_passShut ∈ TB := TB_2 (List.mem_of_getElem? (i := 201) rfl) rfl
theorem wsel_X2_passShut : Cond.selects RX2 yX2_passShut yX2_passShut ∈ TB := TB_2 (List.mem_of_getElem? (i := 202) rfl) rfl
theorem wc_X2_passShut : Cond.code yX2_passShut cX2_passShut 1 none ∈ TB := TB_2 (List.mem_of_getElem? (i := 203) rfl) rfl
theorem wm_X2_60 : Cond.methodLink RX2 60 yX4_flow ∈ TB := TB_2 (List.mem_of_getElem? (i := 204) rfl) rfl
theorem wm_L_97 : Cond.methodLink RL 97 yX5_turns ∈ TB := TB_2 (List.mem_of_getElem? (i := 205) rfl) rfl
theorem wi_X5_turns : Cond.instanceMethod yX5_turns ∈ TB := TB_2 (List.mem_of_getElem? (i := 206) rfl) rfl
theorem wsel_X5_turns : Cond.selects RX5 yX5_turns yX5_turns ∈ TB := TB_2 (List.mem_of_getElem? (i := 207) rfl) rfl
theorem wc_X5_turns : Cond.code yX5_turns cX5_turns 4 (some .int) ∈ TB := TB_2 (List.mem_of_getElem? (i := 208) rfl) rfl
theorem wm_L_101 : Cond.methodLink RL 101 yX5_seat ∈ TB := TB_2 (List.mem_of_getElem? (i := 209) rfl) rfl
theorem wi_X5_seat : Cond.instanceMethod yX5_seat ∈ TB := TB_2 (List.mem_of_getElem? (i := 210) rfl) rfl
theorem wsel_X5_seat : Cond.selects RX5 yX5_seat yX5_seat ∈ TB := TB_2 (List.mem_of_getElem? (i := 211) rfl) rfl
theorem wc_X5_seat : Cond.code yX5_seat cX5_seat 3 (some .int) ∈ TB := TB_2 (List.mem_of_getElem? (i := 212) rfl) rfl
theorem wm_X5_192 : Cond.methodLink RX5 192 yX5_noTrial ∈ TB := TB_2 (List.mem_of_getElem? (i := 213) rfl) rfl
theorem wp_X5_noTrial : Cond.privateMethod yX5_noTrial ∈ lw_tbl := TT_2 (List.mem_of_getElem? (i := 214) rfl)
theorem wi_X5_noTrial : Cond.instanceMethod yX5_noTrial ∈ TB := TB_2 (List.mem_of_getElem? (i := 215) rfl) rfl
theorem wc_X5_noTrial : Cond.code yX5_noTrial cX5_noTrial 3 (some .boolean) ∈ TB := TB_2 (List.mem_of_getElem? (i := 216) rfl) rfl
theorem wm_X5_195 : Cond.methodLink RX5 195 yX5_mostBelieving ∈ TB := TB_2 (List.mem_of_getElem? (i := 217) rfl) rfl
theorem wp_X5_mostBelieving : Cond.privateMethod yX5_mostBelieving ∈ lw_tbl := TT_2 (List.mem_of_getElem? (i := 218) rfl)
theorem wi_X5_mostBelieving : Cond.instanceMethod yX5_mostBelieving ∈ TB := TB_2 (List.mem_of_getElem? (i := 219) rfl) rfl
theorem wc_X5_mostBelieving : Cond.code yX5_mostBelieving cX5_mostBelieving 8 (some .int) ∈ TB := TB_2 (List.mem_of_getElem? (i := 220) rfl) rfl
theorem wm_L_105 : Cond.methodLink RL 105 yX5_kindFor ∈ TB := TB_2 (List.mem_of_getElem? (i := 221) rfl) rfl
theorem wi_X5_kindFor : Cond.instanceMethod yX5_kindFor ∈ TB := TB_2 (List.mem_of_getElem? (i := 222) rfl) rfl
theorem wsel_X5_kindFor : Cond.selects RX5 yX5_kindFor yX5_kindFor ∈ TB := TB_2 (List.mem_of_getElem? (i := 223) rfl) rfl
theorem wc_X5_kindFor : Cond.code yX5_kindFor cX5_kindFor 3 (some .int) ∈ TB := TB_2 (List.mem_of_getElem? (i := 224) rfl) rfl
theorem wm_L_109 : Cond.methodLink RL 109 yX5_wantFor ∈ TB := TB_2 (List.mem_of_getElem? (i := 225) rfl) rfl
theorem wi_X5_wantFor : Cond.instanceMethod yX5_wantFor ∈ TB := TB_2 (List.mem_of_getElem? (i := 226) rfl) rfl
theorem wsel_X5_wantFor : Cond.selects RX5 yX5_wantFor yX5_wantFor ∈ TB := TB_2 (List.mem_of_getElem? (i := 227) rfl) rfl
theorem wc_X5_wantFor : Cond.code yX5_wantFor cX5_wantFor 7 (some .int) ∈ TB := TB_2 (List.mem_of_getElem? (i := 228) rfl) rfl
theorem wm_L_113 : Cond.methodLink RL 113 yX5_watch ∈ TB := TB_2 (List.mem_of_getElem? (i := 229) rfl) rfl
theorem wi_X5_watch : Cond.instanceMethod yX5_watch ∈ TB := TB_2 (List.mem_of_getElem? (i := 230) rfl) rfl
theorem wsel_X5_watch : Cond.selects RX5 yX5_watch yX5_watch ∈ TB := TB_2 (List.mem_of_getElem? (i := 231) rfl) rfl
theorem wc_X5_watch : Cond.code yX5_watch cX5_watch 4 (some .int) ∈ TB := TB_2 (List.mem_of_getElem? (i := 232) rfl) rfl
theorem wm_X5_199 : Cond.methodLink RX5 199 yX5_stir ∈ TB := TB_2 (List.mem_of_getElem? (i := 233) rfl) rfl
theorem wp_X5_stir : Cond.privateMethod yX5_stir ∈ lw_tbl := TT_2 (List.mem_of_getElem? (i := 234) rfl)
theorem wi_X5_stir : Cond.instanceMethod yX5_stir ∈ TB := TB_2 (List.mem_of_getElem? (i := 235) rfl) rfl
theorem wc_X5_stir : Cond.code yX5_stir cX5_stir 5 none ∈ TB := TB_2 (List.mem_of_getElem? (i := 236) rfl) rfl
theorem wm_X5_300 : Cond.methodLink RX5 300 Lib.Math.abs.name ∈ TB := TB_2 (List.mem_of_getElem? (i := 237) rfl) rfl
theorem wm_L_117 : Cond.methodLink RL 117 yX5_fits ∈ TB := TB_2 (List.mem_of_getElem? (i := 238) rfl) rfl
theorem wi_X5_fits : Cond.instanceMethod yX5_fits ∈ TB := TB_2 (List.mem_of_getElem? (i := 239) rfl) rfl
theorem wsel_X5_fits : Cond.selects RX5 yX5_fits yX5_fits ∈ TB := TB_3 (List.mem_of_getElem? (i := 0) rfl) rfl
theorem wc_X5_fits : Cond.code yX5_fits cX5_fits 7 (some .int) ∈ TB := TB_3 (List.mem_of_getElem? (i := 1) rfl) rfl
theorem wm_X5_202 : Cond.methodLink RX5 202 yX5_fittingTrouble ∈ TB := TB_3 (List.mem_of_getElem? (i := 2) rfl) rfl
theorem wp_X5_fittingTrouble : Cond.privateMethod yX5_fittingTrouble ∈ lw_tbl := TT_3 (List.mem_of_getElem? (i := 3) rfl)
theorem wi_X5_fittingTrouble : Cond.instanceMethod yX5_fittingTrouble ∈ TB := TB_3 (List.mem_of_getElem? (i := 4) rfl) rfl
theorem wc_X5_fittingTrouble : Cond.code yX5_fittingTrouble cX5_fittingTrouble 5 (some .int) ∈ TB := TB_3 (List.mem_of_getElem? (i := 5) rfl) rfl
theorem wm_X5_209 : Cond.methodLink RX5 209 yX5_sheetTrouble ∈ TB := TB_3 (List.mem_of_getElem? (i := 6) rfl) rfl
theorem wp_X5_sheetTrouble : Cond.privateMethod yX5_sheetTrouble ∈ lw_tbl := TT_3 (List.mem_of_getElem? (i := 7) rfl)
theorem wi_X5_sheetTrouble : Cond.instanceMethod yX5_sheetTrouble ∈ TB := TB_3 (List.mem_of_getElem? (i := 8) rfl) rfl
theorem wc_X5_sheetTrouble : Cond.code yX5_sheetTrouble cX5_sheetTrouble 2 (some .int) ∈ TB := TB_3 (List.mem_of_getElem? (i := 9) rfl) rfl
theorem wm_X5_266 : Cond.methodLink RX5 266 yX1_isMissing ∈ TB := TB_3 (List.mem_of_getElem? (i := 10) rfl) rfl
theorem wi_X1_isMissing : Cond.instanceMethod yX1_isMissing ∈ TB := TB_3 (List.mem_of_getElem? (i := 11) rfl) rfl
theorem wsel_X1_isMissing : Cond.selects RX1 yX1_isMissing yX1_isMissing ∈ TB := TB_3 (List.mem_of_getElem? (i := 12) rfl) rfl
theorem wc_X1_isMissing : Cond.code yX1_isMissing cX1_isMissing 1 (some .boolean) ∈ TB := TB_3 (List.mem_of_getElem? (i := 13) rfl) rfl
theorem wk_X5_251 : Cond.constant RX5 251 (-1000006) ∈ TB := TB_3 (List.mem_of_getElem? (i := 14) rfl) rfl
theorem wm_X5_205 : Cond.methodLink RX5 205 yX5_couldBeOpened ∈ TB := TB_3 (List.mem_of_getElem? (i := 15) rfl) rfl
theorem wp_X5_couldBeOpened : Cond.privateMethod yX5_couldBeOpened ∈ lw_tbl := TT_3 (List.mem_of_getElem? (i := 16) rfl)
theorem wi_X5_couldBeOpened : Cond.instanceMethod yX5_couldBeOpened ∈ TB := TB_3 (List.mem_of_getElem? (i := 17) rfl) rfl
theorem wc_X5_couldBeOpened : Cond.code yX5_couldBeOpened cX5_couldBeOpened 7 (some .boolean) ∈ TB := TB_3 (List.mem_of_getElem? (i := 18) rfl) rfl
theorem wm_X5_303 : Cond.methodLink RX5 303 yX1_allows ∈ TB := TB_3 (List.mem_of_getElem? (i := 19) rfl) rfl
theorem wi_X1_allows : Cond.instanceMethod yX1_allows ∈ TB := TB_3 (List.mem_of_getElem? (i := 20) rfl) rfl
theorem wsel_X1_allows : Cond.selects RX1 yX1_allows yX1_allows ∈ TB := TB_3 (List.mem_of_getElem? (i := 21) rfl) rfl
theorem wc_X1_allows : Cond.code yX1_allows cX1_allows 3 (some .boolean) ∈ TB := TB_3 (List.mem_of_getElem? (i := 22) rfl) rfl
theorem wm_L_121 : Cond.methodLink RL 121 yX5_opened ∈ TB := TB_3 (List.mem_of_getElem? (i := 23) rfl) rfl
theorem wi_X5_opened : Cond.instanceMethod yX5_opened ∈ TB := TB_3 (List.mem_of_getElem? (i := 24) rfl) rfl
theorem wsel_X5_opened : Cond.selects RX5 yX5_opened yX5_opened ∈ TB := TB_3 (List.mem_of_getElem? (i := 25) rfl) rfl
theorem wc_X5_opened : Cond.code yX5_opened cX5_opened 6 (some .int) ∈ TB := TB_3 (List.mem_of_getElem? (i := 26) rfl) rfl
theorem wm_L_125 : Cond.methodLink RL 125 yX5_kinds ∈ TB := TB_3 (List.mem_of_getElem? (i := 27) rfl) rfl
theorem wi_X5_kinds : Cond.instanceMethod yX5_kinds ∈ TB := TB_3 (List.mem_of_getElem? (i := 28) rfl) rfl
theorem wsel_X5_kinds : Cond.selects RX5 yX5_kinds yX5_kinds ∈ TB := TB_3 (List.mem_of_getElem? (i := 29) rfl) rfl
theorem wc_X5_kinds : Cond.code yX5_kinds cX5_kinds 6 (some .int) ∈ TB := TB_3 (List.mem_of_getElem? (i := 30) rfl) rfl
theorem wm_X5_212 : Cond.methodLink RX5 212 yX5_couldBeOfKind ∈ TB := TB_3 (List.mem_of_getElem? (i := 31) rfl) rfl
theorem wp_X5_couldBeOfKind : Cond.privateMethod yX5_couldBeOfKind ∈ lw_tbl := TT_3 (List.mem_of_getElem? (i := 32) rfl)
theorem wi_X5_couldBeOfKind : Cond.instanceMethod yX5_couldBeOfKind ∈ TB := TB_3 (List.mem_of_getElem? (i := 33) rfl) rfl
theorem wc_X5_couldBeOfKind : Cond.code yX5_couldBeOfKind cX5_couldBeOfKind 5 (some .boolean) ∈ TB := TB_3 (List.mem_of_getElem? (i := 34) rfl) rfl
theorem wm_L_129 : Cond.methodLink RL 129 yX5_nights ∈ TB := TB_3 (List.mem_of_getElem? (i := 35) rfl) rfl
theorem wi_X5_nights : Cond.instanceMethod yX5_nights ∈ TB := TB_3 (List.mem_of_getElem? (i := 36) rfl) rfl
theorem wsel_X5_nights : Cond.selects RX5 yX5_nights yX5_nights ∈ TB := TB_3 (List.mem_of_getElem? (i := 37) rfl) rfl
theorem wc_X5_nights : Cond.code yX5_nights cX5_nights 4 (some .int) ∈ TB := TB_3 (List.mem_of_getElem? (i := 38) rfl) rfl
theorem wm_X5_216 : Cond.methodLink RX5 216 yX2_draw ∈ TB := TB_3 (List.mem_of_getElem? (i := 39) rfl) rfl
theorem wi_X2_draw : Cond.instanceMethod yX2_draw ∈ TB := TB_3 (List.mem_of_getElem? (i := 40) rfl) rfl
theorem wsel_X2_draw : Cond.selects RX2 yX2_draw yX2_draw ∈ TB := TB_3 (List.mem_of_getElem? (i := 41) rfl) rfl
theorem wc_X2_draw : Cond.code yX2_draw cX2_draw 1 (some .int) ∈ TB := TB_3 (List.mem_of_getElem? (i := 42) rfl) rfl
theorem wk_X2_93 : Cond.constant RX2 93 (1103515245) ∈ TB := TB_3 (List.mem_of_getElem? (i := 43) rfl) rfl
theorem wm_L_133 : Cond.methodLink RL 133 yX5_odds ∈ TB := TB_3 (List.mem_of_getElem? (i := 44) rfl) rfl
theorem wi_X5_odds : Cond.instanceMethod yX5_odds ∈ TB := TB_3 (List.mem_of_getElem? (i := 45) rfl) rfl
theorem wsel_X5_odds : Cond.selects RX5 yX5_odds yX5_odds ∈ TB := TB_3 (List.mem_of_getElem? (i := 46) rfl) rfl
theorem wc_X5_odds : Cond.code yX5_odds cX5_odds 5 (some .long) ∈ TB := TB_3 (List.mem_of_getElem? (i := 47) rfl) rfl
theorem wm_X5_219 : Cond.methodLink RX5 219 yX4_hoursOpen ∈ TB := TB_3 (List.mem_of_getElem? (i := 48) rfl) rfl
theorem wi_X4_hoursOpen : Cond.instanceMethod yX4_hoursOpen ∈ TB := TB_3 (List.mem_of_getElem? (i := 49) rfl) rfl
theorem wsel_X4_hoursOpen : Cond.selects RX4 yX4_hoursOpen yX4_hoursOpen ∈ TB := TB_3 (List.mem_of_getElem? (i := 50) rfl) rfl
theorem wc_X4_hoursOpen : Cond.code yX4_hoursOpen cX4_hoursOpen 3 (some .int) ∈ TB := TB_3 (List.mem_of_getElem? (i := 51) rfl) rfl
theorem wm_X5_222 : Cond.methodLink RX5 222 yX5_commonDivisor ∈ TB := TB_3 (List.mem_of_getElem? (i := 52) rfl) rfl
theorem wst_X5_commonDivisor : Cond.static yX5_commonDivisor ∈ TB := TB_3 (List.mem_of_getElem? (i := 53) rfl) rfl
theorem wc_X5_commonDivisor : Cond.code yX5_commonDivisor cX5_commonDivisor 3 (some .int) ∈ TB := TB_3 (List.mem_of_getElem? (i := 54) rfl) rfl
theorem wm_X5_225 : Cond.methodLink RX5 225 yX5_power ∈ TB := TB_3 (List.mem_of_getElem? (i := 55) rfl) rfl
theorem wst_X5_power : Cond.static yX5_power ∈ TB := TB_3 (List.mem_of_getElem? (i := 56) rfl) rfl
theorem wc_X5_power : Cond.code yX5_power cX5_power 5 (some .long) ∈ TB := TB_3 (List.mem_of_getElem? (i := 57) rfl) rfl
theorem wm_L_138 : Cond.methodLink RL 138 yX5_seed ∈ TB := TB_3 (List.mem_of_getElem? (i := 58) rfl) rfl
theorem wi_X5_seed : Cond.instanceMethod yX5_seed ∈ TB := TB_3 (List.mem_of_getElem? (i := 59) rfl) rfl
theorem wsel_X5_seed : Cond.selects RX5 yX5_seed yX5_seed ∈ TB := TB_3 (List.mem_of_getElem? (i := 60) rfl) rfl
theorem wc_X5_seed : Cond.code yX5_seed cX5_seed 3 (some .int) ∈ TB := TB_3 (List.mem_of_getElem? (i := 61) rfl) rfl
theorem wm_L_142 : Cond.methodLink RL 142 yX5_feed ∈ TB := TB_3 (List.mem_of_getElem? (i := 62) rfl) rfl
theorem wi_X5_feed : Cond.instanceMethod yX5_feed ∈ TB := TB_3 (List.mem_of_getElem? (i := 63) rfl) rfl
theorem wsel_X5_feed : Cond.selects RX5 yX5_feed yX5_feed ∈ TB := TB_3 (List.mem_of_getElem? (i := 64) rfl) rfl
theorem wc_X5_feed : Cond.code yX5_feed cX5_feed 4 (some .int) ∈ TB := TB_3 (List.mem_of_getElem? (i := 65) rfl) rfl
theorem wm_X5_235 : Cond.methodLink RX5 235 yX0_put ∈ TB := TB_3 (List.mem_of_getElem? (i := 66) rfl) rfl
theorem wi_X0_put : Cond.instanceMethod yX0_put ∈ TB := TB_3 (List.mem_of_getElem? (i := 67) rfl) rfl
theorem wsel_X0_put : Cond.selects RX0 yX0_put yX0_put ∈ TB := TB_3 (List.mem_of_getElem? (i := 68) rfl) rfl
theorem wc_X0_put : Cond.code yX0_put cX0_put 2 none ∈ TB := TB_3 (List.mem_of_getElem? (i := 69) rfl) rfl
theorem wm_L_146 : Cond.methodLink RL 146 yX5_wipe ∈ TB := TB_3 (List.mem_of_getElem? (i := 70) rfl) rfl
theorem wi_X5_wipe : Cond.instanceMethod yX5_wipe ∈ TB := TB_3 (List.mem_of_getElem? (i := 71) rfl) rfl
theorem wsel_X5_wipe : Cond.selects RX5 yX5_wipe yX5_wipe ∈ TB := TB_3 (List.mem_of_getElem? (i := 72) rfl) rfl
theorem wc_X5_wipe : Cond.code yX5_wipe cX5_wipe 2 (some .int) ∈ TB := TB_3 (List.mem_of_getElem? (i := 73) rfl) rfl
theorem wm_L_150 : Cond.methodLink RL 150 yX5_text ∈ TB := TB_3 (List.mem_of_getElem? (i := 74) rfl) rfl
theorem wi_X5_text : Cond.instanceMethod yX5_text ∈ TB := TB_3 (List.mem_of_getElem? (i := 75) rfl) rfl
theorem wsel_X5_text : Cond.selects RX5 yX5_text yX5_text ∈ TB := TB_3 (List.mem_of_getElem? (i := 76) rfl) rfl
theorem wc_X5_text : Cond.code yX5_text cX5_text 2 (some .int) ∈ TB := TB_3 (List.mem_of_getElem? (i := 77) rfl) rfl
theorem wm_X5_238 : Cond.methodLink RX5 238 yX0_read ∈ TB := TB_3 (List.mem_of_getElem? (i := 78) rfl) rfl
theorem wi_X0_read : Cond.instanceMethod yX0_read ∈ TB := TB_3 (List.mem_of_getElem? (i := 79) rfl) rfl
theorem wsel_X0_read : Cond.selects RX0 yX0_read yX0_read ∈ TB := TB_3 (List.mem_of_getElem? (i := 80) rfl) rfl
theorem wc_X0_read : Cond.code yX0_read cX0_read 3 (some .int) ∈ TB := TB_3 (List.mem_of_getElem? (i := 81) rfl) rfl
theorem wm_X0_31 : Cond.methodLink RX0 31 yX0_advance ∈ TB := TB_3 (List.mem_of_getElem? (i := 82) rfl) rfl
theorem wp_X0_advance : Cond.privateMethod yX0_advance ∈ lw_tbl := TT_3 (List.mem_of_getElem? (i := 83) rfl)
theorem wi_X0_advance : Cond.instanceMethod yX0_advance ∈ TB := TB_3 (List.mem_of_getElem? (i := 84) rfl) rfl
theorem wc_X0_advance : Cond.code yX0_advance cX0_advance 1 none ∈ TB := TB_3 (List.mem_of_getElem? (i := 85) rfl) rfl
theorem wm_X0_158 : Cond.methodLink RX0 158 yX0_tokenOf ∈ TB := TB_3 (List.mem_of_getElem? (i := 86) rfl) rfl
theorem wst_X0_tokenOf : Cond.static yX0_tokenOf ∈ TB := TB_3 (List.mem_of_getElem? (i := 87) rfl) rfl
theorem wc_X0_tokenOf : Cond.code yX0_tokenOf cX0_tokenOf 1 (some .int) ∈ TB := TB_3 (List.mem_of_getElem? (i := 88) rfl) rfl
theorem wm_X0_34 : Cond.methodLink RX0 34 yX0_readItem ∈ TB := TB_3 (List.mem_of_getElem? (i := 89) rfl) rfl
theorem wp_X0_readItem : Cond.privateMethod yX0_readItem ∈ lw_tbl := TT_3 (List.mem_of_getElem? (i := 90) rfl)
theorem wi_X0_readItem : Cond.instanceMethod yX0_readItem ∈ TB := TB_3 (List.mem_of_getElem? (i := 91) rfl) rfl
theorem wc_X0_readItem : Cond.code yX0_readItem cX0_readItem 3 none ∈ TB := TB_3 (List.mem_of_getElem? (i := 92) rfl) rfl
theorem wm_X0_45 : Cond.methodLink RX0 45 yX0_kindNamed ∈ TB := TB_3 (List.mem_of_getElem? (i := 93) rfl) rfl
theorem wp_X0_kindNamed : Cond.privateMethod yX0_kindNamed ∈ lw_tbl := TT_3 (List.mem_of_getElem? (i := 94) rfl)
theorem wi_X0_kindNamed : Cond.instanceMethod yX0_kindNamed ∈ TB := TB_3 (List.mem_of_getElem? (i := 95) rfl) rfl
theorem wc_X0_kindNamed : Cond.code yX0_kindNamed cX0_kindNamed 2 (some .int) ∈ TB := TB_3 (List.mem_of_getElem? (i := 96) rfl) rfl
theorem wm_X0_121 : Cond.methodLink RX0 121 yX0_nameOf ∈ TB := TB_3 (List.mem_of_getElem? (i := 97) rfl) rfl
theorem wst_X0_nameOf : Cond.static yX0_nameOf ∈ TB := TB_3 (List.mem_of_getElem? (i := 98) rfl) rfl
theorem wc_X0_nameOf : Cond.code yX0_nameOf cX0_nameOf 1 (some (.object "java/lang/String")) ∈ TB := TB_3 (List.mem_of_getElem? (i := 99) rfl) rfl
theorem wstr_X0_128 : Cond.stringRef RX0 128 "mill" ∈ lw_tbl := TT_3 (List.mem_of_getElem? (i := 100) rfl)
theorem wstr_X0_130 : Cond.stringRef RX0 130 "poet" ∈ lw_tbl := TT_3 (List.mem_of_getElem? (i := 101) rfl)
theorem wstr_X0_132 : Cond.stringRef RX0 132 "professor" ∈ lw_tbl := TT_3 (List.mem_of_getElem? (i := 102) rfl)
theorem wstr_X0_134 : Cond.stringRef RX0 134 "doubter" ∈ lw_tbl := TT_3 (List.mem_of_getElem? (i := 103) rfl)
theorem wstr_X0_136 : Cond.stringRef RX0 136 "fish" ∈ lw_tbl := TT_3 (List.mem_of_getElem? (i := 104) rfl)
theorem wstr_X0_138 : Cond.stringRef RX0 138 "bridge" ∈ lw_tbl := TT_3 (List.mem_of_getElem? (i := 105) rfl)
theorem wstr_X0_140 : Cond.stringRef RX0 140 "watcher" ∈ lw_tbl := TT_3 (List.mem_of_getElem? (i := 106) rfl)
theorem wm_X0_125 : Cond.methodLink RX0 125 yX0_isWord ∈ TB := TB_3 (List.mem_of_getElem? (i := 107) rfl) rfl
theorem wp_X0_isWord : Cond.privateMethod yX0_isWord ∈ lw_tbl := TT_3 (List.mem_of_getElem? (i := 108) rfl)
theorem wi_X0_isWord : Cond.instanceMethod yX0_isWord ∈ TB := TB_3 (List.mem_of_getElem? (i := 109) rfl) rfl
theorem wc_X0_isWord : Cond.code yX0_isWord cX0_isWord 3 (some .boolean) ∈ TB := TB_3 (List.mem_of_getElem? (i := 110) rfl) rfl
theorem wm_X0_142 : Cond.methodLink RX0 142 yJ0_length_8abf5 ∈ TB := TB_3 (List.mem_of_getElem? (i := 111) rfl) rfl
theorem wi_J0_length_8abf5 : Cond.instanceMethod yJ0_length_8abf5 ∈ TB := TB_3 (List.mem_of_getElem? (i := 112) rfl) rfl
theorem wsel_J0_length_8abf5 : Cond.selects RJ0 yJ0_length_8abf5 yJ0_length_8abf5 ∈ TB := TB_3 (List.mem_of_getElem? (i := 113) rfl) rfl
theorem wc_J0_length_8abf5 : Cond.code yJ0_length_8abf5 cJ0_length_8abf5 1 (some .int) ∈ TB := TB_3 (List.mem_of_getElem? (i := 114) rfl) rfl
theorem wm_J0_335 : Cond.methodLink RJ0 335 yJ0_coder_7d493 ∈ TB := TB_3 (List.mem_of_getElem? (i := 115) rfl) rfl
theorem wi_J0_coder_7d493 : Cond.instanceMethod yJ0_coder_7d493 ∈ TB := TB_3 (List.mem_of_getElem? (i := 116) rfl) rfl
theorem wsel_J0_coder_7d493 : Cond.selects RJ0 yJ0_coder_7d493 yJ0_coder_7d493 ∈ TB := TB_3 (List.mem_of_getElem? (i := 117) rfl) rfl
theorem wc_J0_coder_7d493 : Cond.code yJ0_coder_7d493 cJ0_coder_7d493 1 (some .byte) ∈ TB := TB_3 (List.mem_of_getElem? (i := 118) rfl) rfl
theorem wf_J0_38 : Cond.fieldLink RJ0 38 "java/lang/String" "COMPACT_STRINGS" "Z" ∈ TB := TB_3 (List.mem_of_getElem? (i := 119) rfl) rfl
theorem wm_X0_146 : Cond.methodLink RX0 146 yJ0_charAt_5068e ∈ TB := TB_3 (List.mem_of_getElem? (i := 121) rfl) rfl
theorem wi_J0_charAt_5068e : Cond.instanceMethod yJ0_charAt_5068e ∈ TB := TB_3 (List.mem_of_getElem? (i := 122) rfl) rfl
theorem wsel_J0_charAt_5068e : Cond.selects RJ0 yJ0_charAt_5068e yJ0_charAt_5068e ∈ TB := TB_3 (List.mem_of_getElem? (i := 123) rfl) rfl
theorem wc_J0_charAt_5068e : Cond.code yJ0_charAt_5068e cJ0_charAt_5068e 2 (some .char) ∈ TB := TB_3 (List.mem_of_getElem? (i := 124) rfl) rfl
theorem wm_J0_492 : Cond.methodLink RJ0 492 yJ0_isLatin1_aae02 ∈ TB := TB_3 (List.mem_of_getElem? (i := 125) rfl) rfl
theorem wi_J0_isLatin1_aae02 : Cond.instanceMethod yJ0_isLatin1_aae02 ∈ TB := TB_3 (List.mem_of_getElem? (i := 126) rfl) rfl
theorem wsel_J0_isLatin1_aae02 : Cond.selects RJ0 yJ0_isLatin1_aae02 yJ0_isLatin1_aae02 ∈ TB := TB_3 (List.mem_of_getElem? (i := 127) rfl) rfl
theorem wc_J0_isLatin1_aae02 : Cond.code yJ0_isLatin1_aae02 cJ0_isLatin1_aae02 1 (some .boolean) ∈ TB := TB_3 (List.mem_of_getElem? (i := 128) rfl) rfl
theorem wm_J0_495 : Cond.methodLink RJ0 495 yJ1_charAt_3b067 ∈ TB := TB_3 (List.mem_of_getElem? (i := 129) rfl) rfl
theorem wst_J1_charAt_3b067 : Cond.static yJ1_charAt_3b067 ∈ TB := TB_3 (List.mem_of_getElem? (i := 130) rfl) rfl
theorem wc_J1_charAt_3b067 : Cond.code yJ1_charAt_3b067 cJ1_charAt_3b067 2 (some .char) ∈ TB := TB_3 (List.mem_of_getElem? (i := 131) rfl) rfl
theorem wm_J1_9 : Cond.methodLink RJ1 9 yJ0_checkIndex_df160 ∈ TB := TB_3 (List.mem_of_getElem? (i := 132) rfl) rfl
theorem wst_J0_checkIndex_df160 : Cond.static yJ0_checkIndex_df160 ∈ TB := TB_3 (List.mem_of_getElem? (i := 133) rfl) rfl
theorem wc_J0_checkIndex_df160 : Cond.code yJ0_checkIndex_df160 cJ0_checkIndex_df160 2 none ∈ TB := TB_3 (List.mem_of_getElem? (i := 134) rfl) rfl
theorem wf_J0_1053 : Cond.fieldLink RJ0 1053 "jdk/internal/util/Preconditions" "SIOOBE_FORMATTER" "Ljava/util/function/BiFunction;" ∈ TB := TB_3 (List.mem_of_getElem? (i := 135) rfl) rfl
theorem wm_J0_1059 : Cond.methodLink RJ0 1059 yJ3_checkIndex_8e157 ∈ TB := TB_3 (List.mem_of_getElem? (i := 137) rfl) rfl
theorem wst_J3_checkIndex_8e157 : Cond.static yJ3_checkIndex_8e157 ∈ TB := TB_3 (List.mem_of_getElem? (i := 138) rfl) rfl
theorem wc_J3_checkIndex_8e157 : Cond.code yJ3_checkIndex_8e157 cJ3_checkIndex_8e157 3 (some .int) ∈ TB := TB_3 (List.mem_of_getElem? (i := 139) rfl) rfl
theorem wm_J0_498 : Cond.methodLink RJ0 498 yJ2_charAt_3b067 ∈ TB := TB_3 (List.mem_of_getElem? (i := 140) rfl) rfl
theorem wst_J2_charAt_3b067 : Cond.static yJ2_charAt_3b067 ∈ TB := TB_3 (List.mem_of_getElem? (i := 141) rfl) rfl
theorem wc_J2_charAt_3b067 : Cond.code yJ2_charAt_3b067 cJ2_charAt_3b067 2 (some .char) ∈ TB := TB_3 (List.mem_of_getElem? (i := 142) rfl) rfl
theorem wm_J2_67 : Cond.methodLink RJ2 67 yJ2_checkIndex_2214a ∈ TB := TB_3 (List.mem_of_getElem? (i := 143) rfl) rfl
theorem wst_J2_checkIndex_2214a : Cond.static yJ2_checkIndex_2214a ∈ TB := TB_3 (List.mem_of_getElem? (i := 144) rfl) rfl
theorem wc_J2_checkIndex_2214a : Cond.code yJ2_checkIndex_2214a cJ2_checkIndex_2214a 2 none ∈ TB := TB_3 (List.mem_of_getElem? (i := 145) rfl) rfl
theorem wm_J2_48 : Cond.methodLink RJ2 48 yJ2_length_9d52b ∈ TB := TB_3 (List.mem_of_getElem? (i := 146) rfl) rfl
theorem wst_J2_length_9d52b : Cond.static yJ2_length_9d52b ∈ TB := TB_3 (List.mem_of_getElem? (i := 147) rfl) rfl
theorem wc_J2_length_9d52b : Cond.code yJ2_length_9d52b cJ2_length_9d52b 1 (some .int) ∈ TB := TB_3 (List.mem_of_getElem? (i := 148) rfl) rfl
theorem wm_J2_414 : Cond.methodLink RJ2 414 yJ0_checkIndex_df160 ∈ TB := TB_3 (List.mem_of_getElem? (i := 149) rfl) rfl
theorem wm_J2_71 : Cond.methodLink RJ2 71 yJ2_getChar_3b067 ∈ TB := TB_3 (List.mem_of_getElem? (i := 150) rfl) rfl
theorem wst_J2_getChar_3b067 : Cond.static yJ2_getChar_3b067 ∈ TB := TB_3 (List.mem_of_getElem? (i := 151) rfl) rfl
theorem wc_J2_getChar_3b067 : Cond.code yJ2_getChar_3b067 cJ2_getChar_3b067 2 (some .char) ∈ TB := TB_3 (List.mem_of_getElem? (i := 152) rfl) rfl
theorem wf_J2_44 : Cond.fieldLink RJ2 44 "java/lang/StringUTF16" "$assertionsDisabled" "Z" ∈ TB := TB_3 (List.mem_of_getElem? (i := 153) rfl) rfl
theorem wf_J2_59 : Cond.fieldLink RJ2 59 "java/lang/StringUTF16" "HI_BYTE_SHIFT" "I" ∈ TB := TB_3 (List.mem_of_getElem? (i := 155) rfl) rfl
theorem wf_J2_63 : Cond.fieldLink RJ2 63 "java/lang/StringUTF16" "LO_BYTE_SHIFT" "I" ∈ TB := TB_3 (List.mem_of_getElem? (i := 157) rfl) rfl
theorem wm_X0_49 : Cond.methodLink RX0 49 yX0_readWatcher ∈ TB := TB_3 (List.mem_of_getElem? (i := 159) rfl) rfl
theorem wp_X0_readWatcher : Cond.privateMethod yX0_readWatcher ∈ lw_tbl := TT_3 (List.mem_of_getElem? (i := 160) rfl)
theorem wi_X0_readWatcher : Cond.instanceMethod yX0_readWatcher ∈ TB := TB_3 (List.mem_of_getElem? (i := 161) rfl) rfl
theorem wc_X0_readWatcher : Cond.code yX0_readWatcher cX0_readWatcher 4 none ∈ TB := TB_3 (List.mem_of_getElem? (i := 162) rfl) rfl
theorem wm_X0_85 : Cond.methodLink RX0 85 yX2_isFull ∈ TB := TB_3 (List.mem_of_getElem? (i := 163) rfl) rfl
theorem wm_X0_42 : Cond.methodLink RX0 42 yX0_faultHere ∈ TB := TB_3 (List.mem_of_getElem? (i := 164) rfl) rfl
theorem wp_X0_faultHere : Cond.privateMethod yX0_faultHere ∈ lw_tbl := TT_3 (List.mem_of_getElem? (i := 165) rfl)
theorem wi_X0_faultHere : Cond.instanceMethod yX0_faultHere ∈ TB := TB_3 (List.mem_of_getElem? (i := 166) rfl) rfl
theorem wc_X0_faultHere : Cond.code yX0_faultHere cX0_faultHere 1 none ∈ TB := TB_3 (List.mem_of_getElem? (i := 167) rfl) rfl
theorem wm_X0_92 : Cond.methodLink RX0 92 yX2_settle ∈ TB := TB_3 (List.mem_of_getElem? (i := 168) rfl) rfl
theorem wstr_X0_96 : Cond.stringRef RX0 96 "at" ∈ lw_tbl := TT_3 (List.mem_of_getElem? (i := 169) rfl)
theorem wm_X0_55 : Cond.methodLink RX0 55 yX0_takes ∈ TB := TB_3 (List.mem_of_getElem? (i := 170) rfl) rfl
theorem wp_X0_takes : Cond.privateMethod yX0_takes ∈ lw_tbl := TT_3 (List.mem_of_getElem? (i := 171) rfl)
theorem wi_X0_takes : Cond.instanceMethod yX0_takes ∈ TB := TB_3 (List.mem_of_getElem? (i := 172) rfl) rfl
theorem wc_X0_takes : Cond.code yX0_takes cX0_takes 3 (some .boolean) ∈ TB := TB_3 (List.mem_of_getElem? (i := 173) rfl) rfl
theorem wm_X0_98 : Cond.methodLink RX0 98 yX0_takeNumber ∈ TB := TB_3 (List.mem_of_getElem? (i := 174) rfl) rfl
theorem wp_X0_takeNumber : Cond.privateMethod yX0_takeNumber ∈ lw_tbl := TT_3 (List.mem_of_getElem? (i := 175) rfl)
theorem wi_X0_takeNumber : Cond.instanceMethod yX0_takeNumber ∈ TB := TB_3 (List.mem_of_getElem? (i := 176) rfl) rfl
theorem wc_X0_takeNumber : Cond.code yX0_takeNumber cX0_takeNumber 3 (some .int) ∈ TB := TB_3 (List.mem_of_getElem? (i := 177) rfl) rfl
theorem wm_X0_150 : Cond.methodLink RX0 150 yX0_numberHere ∈ TB := TB_3 (List.mem_of_getElem? (i := 178) rfl) rfl
theorem wp_X0_numberHere : Cond.privateMethod yX0_numberHere ∈ lw_tbl := TT_3 (List.mem_of_getElem? (i := 179) rfl)
theorem wi_X0_numberHere : Cond.instanceMethod yX0_numberHere ∈ TB := TB_3 (List.mem_of_getElem? (i := 180) rfl) rfl
theorem wc_X0_numberHere : Cond.code yX0_numberHere cX0_numberHere 3 (some .int) ∈ TB := TB_3 (List.mem_of_getElem? (i := 181) rfl) rfl
theorem wm_X0_153 : Cond.methodLink RX0 153 Lib.Math.min.name ∈ TB := TB_3 (List.mem_of_getElem? (i := 182) rfl) rfl
theorem wm_X0_38 : Cond.methodLink RX0 38 yX0_hasFault ∈ TB := TB_3 (List.mem_of_getElem? (i := 183) rfl) rfl
theorem wi_X0_hasFault : Cond.instanceMethod yX0_hasFault ∈ TB := TB_3 (List.mem_of_getElem? (i := 184) rfl) rfl
theorem wsel_X0_hasFault : Cond.selects RX0 yX0_hasFault yX0_hasFault ∈ TB := TB_3 (List.mem_of_getElem? (i := 185) rfl) rfl
theorem wc_X0_hasFault : Cond.code yX0_hasFault cX0_hasFault 1 (some .boolean) ∈ TB := TB_3 (List.mem_of_getElem? (i := 186) rfl) rfl
theorem wstr_X0_107 : Cond.stringRef RX0 107 "wants" ∈ lw_tbl := TT_3 (List.mem_of_getElem? (i := 187) rfl)
theorem wstr_X0_112 : Cond.stringRef RX0 112 "believes" ∈ lw_tbl := TT_3 (List.mem_of_getElem? (i := 188) rfl)
theorem wstr_X0_53 : Cond.stringRef RX0 53 "level" ∈ lw_tbl := TT_3 (List.mem_of_getElem? (i := 189) rfl)
theorem wm_X0_70 : Cond.methodLink RX0 70 yX0_readInto ∈ TB := TB_3 (List.mem_of_getElem? (i := 190) rfl) rfl
theorem wp_X0_readInto : Cond.privateMethod yX0_readInto ∈ lw_tbl := TT_3 (List.mem_of_getElem? (i := 191) rfl)
theorem wi_X0_readInto : Cond.instanceMethod yX0_readInto ∈ TB := TB_3 (List.mem_of_getElem? (i := 192) rfl) rfl
theorem wc_X0_readInto : Cond.code yX0_readInto cX0_readInto 5 none ∈ TB := TB_3 (List.mem_of_getElem? (i := 193) rfl) rfl
theorem wstr_X0_74 : Cond.stringRef RX0 74 "plan" ∈ lw_tbl := TT_3 (List.mem_of_getElem? (i := 194) rfl)
theorem wstr_X0_79 : Cond.stringRef RX0 79 "steady" ∈ lw_tbl := TT_3 (List.mem_of_getElem? (i := 195) rfl)
theorem wm_X0_81 : Cond.methodLink RX0 81 yX0_readSteady ∈ TB := TB_3 (List.mem_of_getElem? (i := 196) rfl) rfl
theorem wp_X0_readSteady : Cond.privateMethod yX0_readSteady ∈ lw_tbl := TT_3 (List.mem_of_getElem? (i := 197) rfl)
theorem wi_X0_readSteady : Cond.instanceMethod yX0_readSteady ∈ TB := TB_3 (List.mem_of_getElem? (i := 198) rfl) rfl
theorem wc_X0_readSteady : Cond.code yX0_readSteady cX0_readSteady 3 none ∈ TB := TB_3 (List.mem_of_getElem? (i := 199) rfl) rfl
theorem wm_X0_117 : Cond.methodLink RX0 117 yX4_openAll ∈ TB := TB_3 (List.mem_of_getElem? (i := 200) rfl) rfl
theorem wm_X5_242 : Cond.methodLink RX5 242 yX0_hasFault ∈ TB := TB_3 (List.mem_of_getElem? (i := 201) rfl) rfl
theorem wa_arrayClass_byte : Cond.arrayClass .byte ∈ TB := TB_3 (List.mem_of_getElem? (i := 202) rfl) rfl
theorem wm_L_154 : Cond.methodLink RL 154 yX5_hold ∈ TB := TB_3 (List.mem_of_getElem? (i := 203) rfl) rfl
theorem wi_X5_hold : Cond.instanceMethod yX5_hold ∈ TB := TB_3 (List.mem_of_getElem? (i := 204) rfl) rfl
theorem wsel_X5_hold : Cond.selects RX5 yX5_hold yX5_hold ∈ TB := TB_3 (List.mem_of_getElem? (i := 205) rfl) rfl
theorem wc_X5_hold : Cond.code yX5_hold cX5_hold 3 (some .int) ∈ TB := TB_3 (List.mem_of_getElem? (i := 206) rfl) rfl
theorem wm_L_158 : Cond.methodLink RL 158 yX5_as ∈ TB := TB_3 (List.mem_of_getElem? (i := 207) rfl) rfl
theorem wi_X5_as : Cond.instanceMethod yX5_as ∈ TB := TB_3 (List.mem_of_getElem? (i := 208) rfl) rfl
theorem wsel_X5_as : Cond.selects RX5 yX5_as yX5_as ∈ TB := TB_3 (List.mem_of_getElem? (i := 209) rfl) rfl
theorem wc_X5_as : Cond.code yX5_as cX5_as 4 (some .int) ∈ TB := TB_3 (List.mem_of_getElem? (i := 210) rfl) rfl
theorem wm_X5_252 : Cond.methodLink RX5 252 yX3_isUnder ∈ TB := TB_3 (List.mem_of_getElem? (i := 211) rfl) rfl
theorem wi_X3_isUnder : Cond.instanceMethod yX3_isUnder ∈ TB := TB_3 (List.mem_of_getElem? (i := 212) rfl) rfl
theorem wsel_X3_isUnder : Cond.selects RX3 yX3_isUnder yX3_isUnder ∈ TB := TB_3 (List.mem_of_getElem? (i := 213) rfl) rfl
theorem wc_X3_isUnder : Cond.code yX3_isUnder cX3_isUnder 4 (some .boolean) ∈ TB := TB_3 (List.mem_of_getElem? (i := 214) rfl) rfl
theorem wm_X3_61 : Cond.methodLink RX3 61 yX3_kindAbove ∈ TB := TB_3 (List.mem_of_getElem? (i := 215) rfl) rfl
theorem wst_X3_kindAbove : Cond.static yX3_kindAbove ∈ TB := TB_3 (List.mem_of_getElem? (i := 216) rfl) rfl
theorem wc_X3_kindAbove : Cond.code yX3_kindAbove cX3_kindAbove 1 (some .int) ∈ TB := TB_3 (List.mem_of_getElem? (i := 217) rfl) rfl
theorem wk_X5_255 : Cond.constant RX5 255 (-1000003) ∈ TB := TB_3 (List.mem_of_getElem? (i := 218) rfl) rfl
theorem wm_L_162 : Cond.methodLink RL 162 yX5_sheet ∈ TB := TB_3 (List.mem_of_getElem? (i := 219) rfl) rfl
theorem wi_X5_sheet : Cond.instanceMethod yX5_sheet ∈ TB := TB_3 (List.mem_of_getElem? (i := 220) rfl) rfl
theorem wsel_X5_sheet : Cond.selects RX5 yX5_sheet yX5_sheet ∈ TB := TB_3 (List.mem_of_getElem? (i := 221) rfl) rfl
theorem wc_X5_sheet : Cond.code yX5_sheet cX5_sheet 4 (some .int) ∈ TB := TB_3 (List.mem_of_getElem? (i := 222) rfl) rfl
theorem wk_X5_256 : Cond.constant RX5 256 (-1000007) ∈ TB := TB_3 (List.mem_of_getElem? (i := 223) rfl) rfl
theorem wm_X5_257 : Cond.methodLink RX5 257 yX1_lay ∈ TB := TB_3 (List.mem_of_getElem? (i := 224) rfl) rfl
theorem wi_X1_lay : Cond.instanceMethod yX1_lay ∈ TB := TB_3 (List.mem_of_getElem? (i := 225) rfl) rfl
theorem wsel_X1_lay : Cond.selects RX1 yX1_lay yX1_lay ∈ TB := TB_3 (List.mem_of_getElem? (i := 226) rfl) rfl
theorem wc_X1_lay : Cond.code yX1_lay cX1_lay 4 none ∈ TB := TB_3 (List.mem_of_getElem? (i := 227) rfl) rfl
theorem wm_L_166 : Cond.methodLink RL 166 yX5_write ∈ TB := TB_3 (List.mem_of_getElem? (i := 228) rfl) rfl
theorem wi_X5_write : Cond.instanceMethod yX5_write ∈ TB := TB_3 (List.mem_of_getElem? (i := 229) rfl) rfl
theorem wsel_X5_write : Cond.selects RX5 yX5_write yX5_write ∈ TB := TB_3 (List.mem_of_getElem? (i := 230) rfl) rfl
theorem wc_X5_write : Cond.code yX5_write cX5_write 5 (some .int) ∈ TB := TB_3 (List.mem_of_getElem? (i := 231) rfl) rfl
theorem wm_X5_264 : Cond.methodLink RX5 264 yX1_put ∈ TB := TB_3 (List.mem_of_getElem? (i := 232) rfl) rfl
theorem wi_X1_put : Cond.instanceMethod yX1_put ∈ TB := TB_3 (List.mem_of_getElem? (i := 233) rfl) rfl
theorem wsel_X1_put : Cond.selects RX1 yX1_put yX1_put ∈ TB := TB_3 (List.mem_of_getElem? (i := 234) rfl) rfl
theorem wc_X1_put : Cond.code yX1_put cX1_put 3 none ∈ TB := TB_3 (List.mem_of_getElem? (i := 235) rfl) rfl
theorem wm_L_170 : Cond.methodLink RL 170 yX5_copy ∈ TB := TB_3 (List.mem_of_getElem? (i := 236) rfl) rfl
theorem wi_X5_copy : Cond.instanceMethod yX5_copy ∈ TB := TB_3 (List.mem_of_getElem? (i := 237) rfl) rfl
theorem wsel_X5_copy : Cond.selects RX5 yX5_copy yX5_copy ∈ TB := TB_3 (List.mem_of_getElem? (i := 238) rfl) rfl
theorem wc_X5_copy : Cond.code yX5_copy cX5_copy 8 (some .int) ∈ TB := TB_3 (List.mem_of_getElem? (i := 239) rfl) rfl
theorem wm_X5_272 : Cond.methodLink RX5 272 yX1_has ∈ TB := TB_4 (List.mem_of_getElem? (i := 0) rfl) rfl
theorem wi_X1_has : Cond.instanceMethod yX1_has ∈ TB := TB_4 (List.mem_of_getElem? (i := 1) rfl) rfl
theorem wsel_X1_has : Cond.selects RX1 yX1_has yX1_has ∈ TB := TB_4 (List.mem_of_getElem? (i := 2) rfl) rfl
theorem wc_X1_has : Cond.code yX1_has cX1_has 3 (some .boolean) ∈ TB := TB_4 (List.mem_of_getElem? (i := 3) rfl) rfl
theorem wm_X5_278 : Cond.methodLink RX5 278 arraycopyName ∈ TB := TB_4 (List.mem_of_getElem? (i := 4) rfl) rfl
theorem wm_L_175 : Cond.methodLink RL 175 yX5_load ∈ TB := TB_4 (List.mem_of_getElem? (i := 5) rfl) rfl
theorem wi_X5_load : Cond.instanceMethod yX5_load ∈ TB := TB_4 (List.mem_of_getElem? (i := 6) rfl) rfl
theorem wsel_X5_load : Cond.selects RX5 yX5_load yX5_load ∈ TB := TB_4 (List.mem_of_getElem? (i := 7) rfl) rfl
theorem wc_X5_load : Cond.code yX5_load cX5_load 5 (some .int) ∈ TB := TB_4 (List.mem_of_getElem? (i := 8) rfl) rfl
theorem wm_L_179 : Cond.methodLink RL 179 yX5_judge ∈ TB := TB_4 (List.mem_of_getElem? (i := 9) rfl) rfl
theorem wi_X5_judge : Cond.instanceMethod yX5_judge ∈ TB := TB_4 (List.mem_of_getElem? (i := 10) rfl) rfl
theorem wsel_X5_judge : Cond.selects RX5 yX5_judge yX5_judge ∈ TB := TB_4 (List.mem_of_getElem? (i := 11) rfl) rfl
theorem wc_X5_judge : Cond.code yX5_judge cX5_judge 5 (some .int) ∈ TB := TB_4 (List.mem_of_getElem? (i := 12) rfl) rfl
theorem wm_L_183 : Cond.methodLink RL 183 yX5_image ∈ TB := TB_4 (List.mem_of_getElem? (i := 13) rfl) rfl
theorem wi_X5_image : Cond.instanceMethod yX5_image ∈ TB := TB_4 (List.mem_of_getElem? (i := 14) rfl) rfl
theorem wsel_X5_image : Cond.selects RX5 yX5_image yX5_image ∈ TB := TB_4 (List.mem_of_getElem? (i := 15) rfl) rfl
theorem wc_X5_image : Cond.code yX5_image cX5_image 1 (some .int) ∈ TB := TB_4 (List.mem_of_getElem? (i := 16) rfl) rfl
theorem wm_L_187 : Cond.methodLink RL 187 yX5_undo ∈ TB := TB_4 (List.mem_of_getElem? (i := 17) rfl) rfl
theorem wi_X5_undo : Cond.instanceMethod yX5_undo ∈ TB := TB_4 (List.mem_of_getElem? (i := 18) rfl) rfl
theorem wsel_X5_undo : Cond.selects RX5 yX5_undo yX5_undo ∈ TB := TB_4 (List.mem_of_getElem? (i := 19) rfl) rfl
theorem wc_X5_undo : Cond.code yX5_undo cX5_undo 1 (some .int) ∈ TB := TB_4 (List.mem_of_getElem? (i := 20) rfl) rfl
theorem wm_L_191 : Cond.methodLink RL 191 yX5_tear ∈ TB := TB_4 (List.mem_of_getElem? (i := 21) rfl) rfl
theorem wi_X5_tear : Cond.instanceMethod yX5_tear ∈ TB := TB_4 (List.mem_of_getElem? (i := 22) rfl) rfl
theorem wsel_X5_tear : Cond.selects RX5 yX5_tear yX5_tear ∈ TB := TB_4 (List.mem_of_getElem? (i := 23) rfl) rfl
theorem wc_X5_tear : Cond.code yX5_tear cX5_tear 2 (some .int) ∈ TB := TB_4 (List.mem_of_getElem? (i := 24) rfl) rfl
theorem wm_L_195 : Cond.methodLink RL 195 yX5_count ∈ TB := TB_4 (List.mem_of_getElem? (i := 25) rfl) rfl
theorem wi_X5_count : Cond.instanceMethod yX5_count ∈ TB := TB_4 (List.mem_of_getElem? (i := 26) rfl) rfl
theorem wsel_X5_count : Cond.selects RX5 yX5_count yX5_count ∈ TB := TB_4 (List.mem_of_getElem? (i := 27) rfl) rfl
theorem wc_X5_count : Cond.code yX5_count cX5_count 2 (some .int) ∈ TB := TB_4 (List.mem_of_getElem? (i := 28) rfl) rfl
theorem wm_X5_287 : Cond.methodLink RX5 287 yX2_spotsHolding ∈ TB := TB_4 (List.mem_of_getElem? (i := 29) rfl) rfl
theorem wi_X2_spotsHolding : Cond.instanceMethod yX2_spotsHolding ∈ TB := TB_4 (List.mem_of_getElem? (i := 30) rfl) rfl
theorem wsel_X2_spotsHolding : Cond.selects RX2 yX2_spotsHolding yX2_spotsHolding ∈ TB := TB_4 (List.mem_of_getElem? (i := 31) rfl) rfl
theorem wc_X2_spotsHolding : Cond.code yX2_spotsHolding cX2_spotsHolding 3 (some .int) ∈ TB := TB_4 (List.mem_of_getElem? (i := 32) rfl) rfl
theorem wm_L_199 : Cond.methodLink RL 199 yX5_status ∈ TB := TB_4 (List.mem_of_getElem? (i := 33) rfl) rfl
theorem wi_X5_status : Cond.instanceMethod yX5_status ∈ TB := TB_4 (List.mem_of_getElem? (i := 34) rfl) rfl
theorem wsel_X5_status : Cond.selects RX5 yX5_status yX5_status ∈ TB := TB_4 (List.mem_of_getElem? (i := 35) rfl) rfl
theorem wc_X5_status : Cond.code yX5_status cX5_status 2 (some .int) ∈ TB := TB_4 (List.mem_of_getElem? (i := 36) rfl) rfl
theorem wm_X5_290 : Cond.methodLink RX5 290 yX5_together ∈ TB := TB_4 (List.mem_of_getElem? (i := 37) rfl) rfl
theorem wcl_L_10 : Cond.classLink RL 10 RX6 ∈ TB := TB_4 (List.mem_of_getElem? (i := 38) rfl) rfl
theorem wn_X6 : Cond.instantiable RX6 22 ∈ TB := TB_4 (List.mem_of_getElem? (i := 39) rfl) rfl
theorem wm_L_12 : Cond.methodLink RL 12 yX6_init ∈ TB := TB_4 (List.mem_of_getElem? (i := 40) rfl) rfl
theorem wi_X6_init : Cond.instanceMethod yX6_init ∈ TB := TB_4 (List.mem_of_getElem? (i := 41) rfl) rfl
theorem wc_X6_init : Cond.code yX6_init cX6_init 2 none ∈ TB := TB_4 (List.mem_of_getElem? (i := 42) rfl) rfl
theorem wm_X6_1 : Cond.methodLink RX6 1 objectInit ∈ TB := TB_4 (List.mem_of_getElem? (i := 43) rfl) rfl
theorem wf_X6_7 : Cond.fieldLink RX6 7 "ValveRiverModel" "s" "[I" ∈ TB := TB_4 (List.mem_of_getElem? (i := 44) rfl) rfl
theorem wf_X6_13 : Cond.fieldLink RX6 13 "ValveRiverModel" "keptS" "[I" ∈ TB := TB_4 (List.mem_of_getElem? (i := 45) rfl) rfl
theorem wf_X6_16 : Cond.fieldLink RX6 16 "ValveRiverModel" "other" "[I" ∈ TB := TB_4 (List.mem_of_getElem? (i := 46) rfl) rfl
theorem wf_X6_19 : Cond.fieldLink RX6 19 "ValveRiverModel" "aside" "[I" ∈ TB := TB_4 (List.mem_of_getElem? (i := 47) rfl) rfl
theorem wf_X6_22 : Cond.fieldLink RX6 22 "ValveRiverModel" "statuses" "[I" ∈ TB := TB_4 (List.mem_of_getElem? (i := 48) rfl) rfl
theorem wf_X6_338 : Cond.fieldLink RX6 338 "ValveRiverModel" "isKept" "Z" ∈ TB := TB_4 (List.mem_of_getElem? (i := 49) rfl) rfl
theorem wf_X6_117 : Cond.fieldLink RX6 117 "ValveRiverModel" "isShut" "Z" ∈ TB := TB_4 (List.mem_of_getElem? (i := 50) rfl) rfl
theorem wf_X6_25 : Cond.fieldLink RX6 25 "ValveRiverModel" "was" "[I" ∈ TB := TB_4 (List.mem_of_getElem? (i := 51) rfl) rfl
theorem wf_X6_177 : Cond.fieldLink RX6 177 "ValveRiverModel" "greatest" "I" ∈ TB := TB_4 (List.mem_of_getElem? (i := 52) rfl) rfl
theorem wf_X6_28 : Cond.fieldLink RX6 28 "ValveRiverModel" "changes" "[I" ∈ TB := TB_4 (List.mem_of_getElem? (i := 53) rfl) rfl
theorem wf_X6_198 : Cond.fieldLink RX6 198 "ValveRiverModel" "leastOpened" "I" ∈ TB := TB_4 (List.mem_of_getElem? (i := 54) rfl) rfl
theorem wf_X6_201 : Cond.fieldLink RX6 201 "ValveRiverModel" "manyOpened" "I" ∈ TB := TB_4 (List.mem_of_getElem? (i := 55) rfl) rfl
theorem wf_X6_31 : Cond.fieldLink RX6 31 "ValveRiverModel" "tape" "[I" ∈ TB := TB_4 (List.mem_of_getElem? (i := 56) rfl) rfl
theorem wf_X6_222 : Cond.fieldLink RX6 222 "ValveRiverModel" "taped" "I" ∈ TB := TB_4 (List.mem_of_getElem? (i := 57) rfl) rfl
theorem wf_X6_236 : Cond.fieldLink RX6 236 "ValveRiverModel" "from" "I" ∈ TB := TB_4 (List.mem_of_getElem? (i := 58) rfl) rfl
theorem wf_X6_233 : Cond.fieldLink RX6 233 "ValveRiverModel" "to" "I" ∈ TB := TB_4 (List.mem_of_getElem? (i := 59) rfl) rfl
theorem wf_X6_258 : Cond.fieldLink RX6 258 "ValveRiverModel" "value" "I" ∈ TB := TB_4 (List.mem_of_getElem? (i := 60) rfl) rfl
theorem wf_X6_248 : Cond.fieldLink RX6 248 "ValveRiverModel" "isWrong" "Z" ∈ TB := TB_4 (List.mem_of_getElem? (i := 61) rfl) rfl
theorem wf_X6_34 : Cond.fieldLink RX6 34 "ValveRiverModel" "bitsOf" "[I" ∈ TB := TB_4 (List.mem_of_getElem? (i := 62) rfl) rfl
theorem wf_X6_37 : Cond.fieldLink RX6 37 "ValveRiverModel" "sizeOf" "[I" ∈ TB := TB_4 (List.mem_of_getElem? (i := 63) rfl) rfl
theorem wf_X6_40 : Cond.fieldLink RX6 40 "ValveRiverModel" "numbers" "[I" ∈ TB := TB_4 (List.mem_of_getElem? (i := 64) rfl) rfl
theorem wf_X6_43 : Cond.fieldLink RX6 43 "ValveRiverModel" "moved" "[I" ∈ TB := TB_4 (List.mem_of_getElem? (i := 65) rfl) rfl
theorem wl_X6_s : Cond.laysFinal RX6 "ValveRiverModel" "s" "[I" ∈ TB := TB_4 (List.mem_of_getElem? (i := 66) rfl) rfl
theorem wl_X6_keptS : Cond.laysFinal RX6 "ValveRiverModel" "keptS" "[I" ∈ TB := TB_4 (List.mem_of_getElem? (i := 68) rfl) rfl
theorem wl_X6_other : Cond.laysFinal RX6 "ValveRiverModel" "other" "[I" ∈ TB := TB_4 (List.mem_of_getElem? (i := 70) rfl) rfl
theorem wl_X6_aside : Cond.laysFinal RX6 "ValveRiverModel" "aside" "[I" ∈ TB := TB_4 (List.mem_of_getElem? (i := 72) rfl) rfl
theorem wl_X6_statuses : Cond.laysFinal RX6 "ValveRiverModel" "statuses" "[I" ∈ TB := TB_4 (List.mem_of_getElem? (i := 74) rfl) rfl
theorem wl_X6_isKept : Cond.lays RX6 "ValveRiverModel" "isKept" "Z" ∈ TB := TB_4 (List.mem_of_getElem? (i := 76) rfl) rfl
theorem wl_X6_isShut : Cond.lays RX6 "ValveRiverModel" "isShut" "Z" ∈ TB := TB_4 (List.mem_of_getElem? (i := 78) rfl) rfl
theorem wl_X6_was : Cond.laysFinal RX6 "ValveRiverModel" "was" "[I" ∈ TB := TB_4 (List.mem_of_getElem? (i := 80) rfl) rfl
theorem wl_X6_greatest : Cond.lays RX6 "ValveRiverModel" "greatest" "I" ∈ TB := TB_4 (List.mem_of_getElem? (i := 82) rfl) rfl
theorem wl_X6_changes : Cond.laysFinal RX6 "ValveRiverModel" "changes" "[I" ∈ TB := TB_4 (List.mem_of_getElem? (i := 84) rfl) rfl
theorem wl_X6_leastOpened : Cond.lays RX6 "ValveRiverModel" "leastOpened" "I" ∈ TB := TB_4 (List.mem_of_getElem? (i := 86) rfl) rfl
theorem wl_X6_manyOpened : Cond.lays RX6 "ValveRiverModel" "manyOpened" "I" ∈ TB := TB_4 (List.mem_of_getElem? (i := 88) rfl) rfl
theorem wl_X6_tape : Cond.laysFinal RX6 "ValveRiverModel" "tape" "[I" ∈ TB := TB_4 (List.mem_of_getElem? (i := 90) rfl) rfl
theorem wl_X6_taped : Cond.lays RX6 "ValveRiverModel" "taped" "I" ∈ TB := TB_4 (List.mem_of_getElem? (i := 92) rfl) rfl
theorem wl_X6_from : Cond.lays RX6 "ValveRiverModel" "from" "I" ∈ TB := TB_4 (List.mem_of_getElem? (i := 94) rfl) rfl
theorem wl_X6_to : Cond.lays RX6 "ValveRiverModel" "to" "I" ∈ TB := TB_4 (List.mem_of_getElem? (i := 96) rfl) rfl
theorem wl_X6_value : Cond.lays RX6 "ValveRiverModel" "value" "I" ∈ TB := TB_4 (List.mem_of_getElem? (i := 98) rfl) rfl
theorem wl_X6_isWrong : Cond.lays RX6 "ValveRiverModel" "isWrong" "Z" ∈ TB := TB_4 (List.mem_of_getElem? (i := 100) rfl) rfl
theorem wl_X6_bitsOf : Cond.laysFinal RX6 "ValveRiverModel" "bitsOf" "[I" ∈ TB := TB_4 (List.mem_of_getElem? (i := 102) rfl) rfl
theorem wl_X6_sizeOf : Cond.laysFinal RX6 "ValveRiverModel" "sizeOf" "[I" ∈ TB := TB_4 (List.mem_of_getElem? (i := 104) rfl) rfl
theorem wl_X6_numbers : Cond.laysFinal RX6 "ValveRiverModel" "numbers" "[I" ∈ TB := TB_4 (List.mem_of_getElem? (i := 106) rfl) rfl
theorem wl_X6_moved : Cond.laysFinal RX6 "ValveRiverModel" "moved" "[I" ∈ TB := TB_4 (List.mem_of_getElem? (i := 108) rfl) rfl
theorem wm_L_17 : Cond.methodLink RL 17 yX6_level ∈ TB := TB_4 (List.mem_of_getElem? (i := 111) rfl) rfl
theorem wi_X6_level : Cond.instanceMethod yX6_level ∈ TB := TB_4 (List.mem_of_getElem? (i := 112) rfl) rfl
theorem wsel_X6_level : Cond.selects RX6 yX6_level yX6_level ∈ TB := TB_4 (List.mem_of_getElem? (i := 113) rfl) rfl
theorem wc_X6_level : Cond.code yX6_level cX6_level 3 (some .int) ∈ TB := TB_4 (List.mem_of_getElem? (i := 114) rfl) rfl
theorem wm_X6_66 : Cond.methodLink RX6 66 yX6_isCell ∈ TB := TB_4 (List.mem_of_getElem? (i := 115) rfl) rfl
theorem wst_X6_isCell : Cond.static yX6_isCell ∈ TB := TB_4 (List.mem_of_getElem? (i := 116) rfl) rfl
theorem wc_X6_isCell : Cond.code yX6_isCell cX6_isCell 1 (some .boolean) ∈ TB := TB_4 (List.mem_of_getElem? (i := 117) rfl) rfl
theorem wk_X6_47 : Cond.constantLong RX6 47 (11) ∈ TB := TB_4 (List.mem_of_getElem? (i := 118) rfl) rfl
theorem wm_X6_49 : Cond.methodLink RX6 49 yX6_in ∈ TB := TB_4 (List.mem_of_getElem? (i := 119) rfl) rfl
theorem wst_X6_in : Cond.static yX6_in ∈ TB := TB_4 (List.mem_of_getElem? (i := 120) rfl) rfl
theorem wc_X6_in : Cond.code yX6_in cX6_in 6 (some .boolean) ∈ TB := TB_4 (List.mem_of_getElem? (i := 121) rfl) rfl
theorem wk_X6_70 : Cond.constantLong RX6 70 (9999) ∈ TB := TB_4 (List.mem_of_getElem? (i := 122) rfl) rfl
theorem wm_X6_72 : Cond.methodLink RX6 72 yX6_becomes ∈ TB := TB_4 (List.mem_of_getElem? (i := 123) rfl) rfl
theorem wp_X6_becomes : Cond.privateMethod yX6_becomes ∈ lw_tbl := TT_4 (List.mem_of_getElem? (i := 124) rfl)
theorem wi_X6_becomes : Cond.instanceMethod yX6_becomes ∈ TB := TB_4 (List.mem_of_getElem? (i := 125) rfl) rfl
theorem wc_X6_becomes : Cond.code yX6_becomes cX6_becomes 4 (some .int) ∈ TB := TB_4 (List.mem_of_getElem? (i := 126) rfl) rfl
theorem wk_X6_46 : Cond.constant RX6 46 (-1000001) ∈ TB := TB_4 (List.mem_of_getElem? (i := 127) rfl) rfl
theorem wm_X6_75 : Cond.methodLink RX6 75 yX6_finds ∈ TB := TB_4 (List.mem_of_getElem? (i := 128) rfl) rfl
theorem wp_X6_finds : Cond.privateMethod yX6_finds ∈ lw_tbl := TT_4 (List.mem_of_getElem? (i := 129) rfl)
theorem wi_X6_finds : Cond.instanceMethod yX6_finds ∈ TB := TB_4 (List.mem_of_getElem? (i := 130) rfl) rfl
theorem wc_X6_finds : Cond.code yX6_finds cX6_finds 2 (some .int) ∈ TB := TB_4 (List.mem_of_getElem? (i := 131) rfl) rfl
theorem wm_L_22 : Cond.methodLink RL 22 yX6_stands ∈ TB := TB_4 (List.mem_of_getElem? (i := 132) rfl) rfl
theorem wi_X6_stands : Cond.instanceMethod yX6_stands ∈ TB := TB_4 (List.mem_of_getElem? (i := 133) rfl) rfl
theorem wsel_X6_stands : Cond.selects RX6 yX6_stands yX6_stands ∈ TB := TB_4 (List.mem_of_getElem? (i := 134) rfl) rfl
theorem wc_X6_stands : Cond.code yX6_stands cX6_stands 2 (some .int) ∈ TB := TB_4 (List.mem_of_getElem? (i := 135) rfl) rfl
theorem wm_L_26 : Cond.methodLink RL 26 yX6_plan ∈ TB := TB_4 (List.mem_of_getElem? (i := 136) rfl) rfl
theorem wi_X6_plan : Cond.instanceMethod yX6_plan ∈ TB := TB_4 (List.mem_of_getElem? (i := 137) rfl) rfl
theorem wsel_X6_plan : Cond.selects RX6 yX6_plan yX6_plan ∈ TB := TB_4 (List.mem_of_getElem? (i := 138) rfl) rfl
theorem wc_X6_plan : Cond.code yX6_plan cX6_plan 3 (some .int) ∈ TB := TB_4 (List.mem_of_getElem? (i := 139) rfl) rfl
theorem wm_X6_79 : Cond.methodLink RX6 79 yX6_isHour ∈ TB := TB_4 (List.mem_of_getElem? (i := 140) rfl) rfl
theorem wst_X6_isHour : Cond.static yX6_isHour ∈ TB := TB_4 (List.mem_of_getElem? (i := 141) rfl) rfl
theorem wc_X6_isHour : Cond.code yX6_isHour cX6_isHour 1 (some .boolean) ∈ TB := TB_4 (List.mem_of_getElem? (i := 142) rfl) rfl
theorem wk_X6_53 : Cond.constantLong RX6 53 (7) ∈ TB := TB_4 (List.mem_of_getElem? (i := 143) rfl) rfl
theorem wm_X6_82 : Cond.methodLink RX6 82 yX6_isOpening ∈ TB := TB_4 (List.mem_of_getElem? (i := 144) rfl) rfl
theorem wst_X6_isOpening : Cond.static yX6_isOpening ∈ TB := TB_4 (List.mem_of_getElem? (i := 145) rfl) rfl
theorem wc_X6_isOpening : Cond.code yX6_isOpening cX6_isOpening 1 (some .boolean) ∈ TB := TB_4 (List.mem_of_getElem? (i := 146) rfl) rfl
theorem wk_X6_55 : Cond.constantLong RX6 55 (99) ∈ TB := TB_4 (List.mem_of_getElem? (i := 147) rfl) rfl
theorem wm_L_30 : Cond.methodLink RL 30 yX6_opening ∈ TB := TB_4 (List.mem_of_getElem? (i := 148) rfl) rfl
theorem wi_X6_opening : Cond.instanceMethod yX6_opening ∈ TB := TB_4 (List.mem_of_getElem? (i := 149) rfl) rfl
theorem wsel_X6_opening : Cond.selects RX6 yX6_opening yX6_opening ∈ TB := TB_4 (List.mem_of_getElem? (i := 150) rfl) rfl
theorem wc_X6_opening : Cond.code yX6_opening cX6_opening 2 (some .int) ∈ TB := TB_4 (List.mem_of_getElem? (i := 151) rfl) rfl
theorem wm_L_34 : Cond.methodLink RL 34 yX6_steady ∈ TB := TB_4 (List.mem_of_getElem? (i := 152) rfl) rfl
theorem wi_X6_steady : Cond.instanceMethod yX6_steady ∈ TB := TB_4 (List.mem_of_getElem? (i := 153) rfl) rfl
theorem wsel_X6_steady : Cond.selects RX6 yX6_steady yX6_steady ∈ TB := TB_4 (List.mem_of_getElem? (i := 154) rfl) rfl
theorem wc_X6_steady : Cond.code yX6_steady cX6_steady 3 (some .int) ∈ TB := TB_4 (List.mem_of_getElem? (i := 155) rfl) rfl
theorem wm_X6_85 : Cond.methodLink RX6 85 yX6_openings ∈ TB := TB_4 (List.mem_of_getElem? (i := 156) rfl) rfl
theorem wp_X6_openings : Cond.privateMethod yX6_openings ∈ lw_tbl := TT_4 (List.mem_of_getElem? (i := 157) rfl)
theorem wi_X6_openings : Cond.instanceMethod yX6_openings ∈ TB := TB_4 (List.mem_of_getElem? (i := 158) rfl) rfl
theorem wc_X6_openings : Cond.code yX6_openings cX6_openings 3 (some .int) ∈ TB := TB_4 (List.mem_of_getElem? (i := 159) rfl) rfl
theorem wm_X6_89 : Cond.methodLink RX6 89 yX6_opensAll ∈ TB := TB_4 (List.mem_of_getElem? (i := 160) rfl) rfl
theorem wp_X6_opensAll : Cond.privateMethod yX6_opensAll ∈ lw_tbl := TT_4 (List.mem_of_getElem? (i := 161) rfl)
theorem wi_X6_opensAll : Cond.instanceMethod yX6_opensAll ∈ TB := TB_4 (List.mem_of_getElem? (i := 162) rfl) rfl
theorem wc_X6_opensAll : Cond.code yX6_opensAll cX6_opensAll 3 none ∈ TB := TB_4 (List.mem_of_getElem? (i := 163) rfl) rfl
theorem wm_L_38 : Cond.methodLink RL 38 yX6_watcher ∈ TB := TB_4 (List.mem_of_getElem? (i := 164) rfl) rfl
theorem wi_X6_watcher : Cond.instanceMethod yX6_watcher ∈ TB := TB_4 (List.mem_of_getElem? (i := 165) rfl) rfl
theorem wsel_X6_watcher : Cond.selects RX6 yX6_watcher yX6_watcher ∈ TB := TB_4 (List.mem_of_getElem? (i := 166) rfl) rfl
theorem wc_X6_watcher : Cond.code yX6_watcher cX6_watcher 3 (some .int) ∈ TB := TB_4 (List.mem_of_getElem? (i := 167) rfl) rfl
theorem wm_X6_93 : Cond.methodLink RX6 93 yX6_isKind ∈ TB := TB_4 (List.mem_of_getElem? (i := 168) rfl) rfl
theorem wst_X6_isKind : Cond.static yX6_isKind ∈ TB := TB_4 (List.mem_of_getElem? (i := 169) rfl) rfl
theorem wc_X6_isKind : Cond.code yX6_isKind cX6_isKind 1 (some .boolean) ∈ TB := TB_4 (List.mem_of_getElem? (i := 170) rfl) rfl
theorem wk_X6_57 : Cond.constantLong RX6 57 (6) ∈ TB := TB_4 (List.mem_of_getElem? (i := 171) rfl) rfl
theorem wk_X6_96 : Cond.constant RX6 96 (-1000002) ∈ TB := TB_4 (List.mem_of_getElem? (i := 172) rfl) rfl
theorem wm_X6_97 : Cond.methodLink RX6 97 yX6_adds ∈ TB := TB_4 (List.mem_of_getElem? (i := 173) rfl) rfl
theorem wp_X6_adds : Cond.privateMethod yX6_adds ∈ lw_tbl := TT_4 (List.mem_of_getElem? (i := 174) rfl)
theorem wi_X6_adds : Cond.instanceMethod yX6_adds ∈ TB := TB_4 (List.mem_of_getElem? (i := 175) rfl) rfl
theorem wc_X6_adds : Cond.code yX6_adds cX6_adds 4 (some .int) ∈ TB := TB_4 (List.mem_of_getElem? (i := 176) rfl) rfl
theorem wm_X6_59 : Cond.methodLink RX6 59 yX6_place ∈ TB := TB_4 (List.mem_of_getElem? (i := 177) rfl) rfl
theorem wst_X6_place : Cond.static yX6_place ∈ TB := TB_4 (List.mem_of_getElem? (i := 178) rfl) rfl
theorem wc_X6_place : Cond.code yX6_place cX6_place 2 (some .int) ∈ TB := TB_4 (List.mem_of_getElem? (i := 179) rfl) rfl
theorem wm_L_42 : Cond.methodLink RL 42 yX6_of ∈ TB := TB_4 (List.mem_of_getElem? (i := 180) rfl) rfl
theorem wi_X6_of : Cond.instanceMethod yX6_of ∈ TB := TB_4 (List.mem_of_getElem? (i := 181) rfl) rfl
theorem wsel_X6_of : Cond.selects RX6 yX6_of yX6_of ∈ TB := TB_4 (List.mem_of_getElem? (i := 182) rfl) rfl
theorem wc_X6_of : Cond.code yX6_of cX6_of 3 (some .int) ∈ TB := TB_4 (List.mem_of_getElem? (i := 183) rfl) rfl
theorem wm_X6_100 : Cond.methodLink RX6 100 yX6_isWatcher ∈ TB := TB_4 (List.mem_of_getElem? (i := 184) rfl) rfl
theorem wp_X6_isWatcher : Cond.privateMethod yX6_isWatcher ∈ lw_tbl := TT_4 (List.mem_of_getElem? (i := 185) rfl)
theorem wi_X6_isWatcher : Cond.instanceMethod yX6_isWatcher ∈ TB := TB_4 (List.mem_of_getElem? (i := 186) rfl) rfl
theorem wc_X6_isWatcher : Cond.code yX6_isWatcher cX6_isWatcher 2 (some .boolean) ∈ TB := TB_4 (List.mem_of_getElem? (i := 187) rfl) rfl
theorem wm_X6_63 : Cond.methodLink RX6 63 yX6_its ∈ TB := TB_4 (List.mem_of_getElem? (i := 188) rfl) rfl
theorem wp_X6_its : Cond.privateMethod yX6_its ∈ lw_tbl := TT_4 (List.mem_of_getElem? (i := 189) rfl)
theorem wi_X6_its : Cond.instanceMethod yX6_its ∈ TB := TB_4 (List.mem_of_getElem? (i := 190) rfl) rfl
theorem wc_X6_its : Cond.code yX6_its cX6_its 3 (some .int) ∈ TB := TB_4 (List.mem_of_getElem? (i := 191) rfl) rfl
theorem wm_X6_103 : Cond.methodLink RX6 103 yX6_bears ∈ TB := TB_4 (List.mem_of_getElem? (i := 192) rfl) rfl
theorem wp_X6_bears : Cond.privateMethod yX6_bears ∈ lw_tbl := TT_4 (List.mem_of_getElem? (i := 193) rfl)
theorem wi_X6_bears : Cond.instanceMethod yX6_bears ∈ TB := TB_4 (List.mem_of_getElem? (i := 194) rfl) rfl
theorem wc_X6_bears : Cond.code yX6_bears cX6_bears 3 (some .int) ∈ TB := TB_4 (List.mem_of_getElem? (i := 195) rfl) rfl
theorem wm_X6_106 : Cond.methodLink RX6 106 yX6_doubts ∈ TB := TB_4 (List.mem_of_getElem? (i := 196) rfl) rfl
theorem wp_X6_doubts : Cond.privateMethod yX6_doubts ∈ lw_tbl := TT_4 (List.mem_of_getElem? (i := 197) rfl)
theorem wi_X6_doubts : Cond.instanceMethod yX6_doubts ∈ TB := TB_4 (List.mem_of_getElem? (i := 198) rfl) rfl
theorem wc_X6_doubts : Cond.code yX6_doubts cX6_doubts 2 (some .int) ∈ TB := TB_4 (List.mem_of_getElem? (i := 199) rfl) rfl
theorem wm_X6_109 : Cond.methodLink RX6 109 yX6_trusts ∈ TB := TB_4 (List.mem_of_getElem? (i := 200) rfl) rfl
theorem wp_X6_trusts : Cond.privateMethod yX6_trusts ∈ lw_tbl := TT_4 (List.mem_of_getElem? (i := 201) rfl)
theorem wi_X6_trusts : Cond.instanceMethod yX6_trusts ∈ TB := TB_4 (List.mem_of_getElem? (i := 202) rfl) rfl
theorem wc_X6_trusts : Cond.code yX6_trusts cX6_trusts 2 (some .int) ∈ TB := TB_4 (List.mem_of_getElem? (i := 203) rfl) rfl
theorem wm_L_47 : Cond.methodLink RL 47 yX6_change ∈ TB := TB_4 (List.mem_of_getElem? (i := 204) rfl) rfl
theorem wi_X6_change : Cond.instanceMethod yX6_change ∈ TB := TB_4 (List.mem_of_getElem? (i := 205) rfl) rfl
theorem wsel_X6_change : Cond.selects RX6 yX6_change yX6_change ∈ TB := TB_4 (List.mem_of_getElem? (i := 206) rfl) rfl
theorem wc_X6_change : Cond.code yX6_change cX6_change 5 (some .int) ∈ TB := TB_4 (List.mem_of_getElem? (i := 207) rfl) rfl
theorem wk_X6_112 : Cond.constantLong RX6 112 (4) ∈ TB := TB_4 (List.mem_of_getElem? (i := 208) rfl) rfl
theorem wm_X6_114 : Cond.methodLink RX6 114 yX6_most ∈ TB := TB_4 (List.mem_of_getElem? (i := 209) rfl) rfl
theorem wst_X6_most : Cond.static yX6_most ∈ TB := TB_4 (List.mem_of_getElem? (i := 210) rfl) rfl
theorem wc_X6_most : Cond.code yX6_most cX6_most 1 (some .int) ∈ TB := TB_4 (List.mem_of_getElem? (i := 211) rfl) rfl
theorem wm_L_51 : Cond.methodLink RL 51 yX6_go ∈ TB := TB_4 (List.mem_of_getElem? (i := 212) rfl) rfl
theorem wi_X6_go : Cond.instanceMethod yX6_go ∈ TB := TB_4 (List.mem_of_getElem? (i := 213) rfl) rfl
theorem wsel_X6_go : Cond.selects RX6 yX6_go yX6_go ∈ TB := TB_4 (List.mem_of_getElem? (i := 214) rfl) rfl
theorem wc_X6_go : Cond.code yX6_go cX6_go 2 (some .int) ∈ TB := TB_4 (List.mem_of_getElem? (i := 215) rfl) rfl
theorem wk_X6_137 : Cond.constantLong RX6 137 (80) ∈ TB := TB_4 (List.mem_of_getElem? (i := 216) rfl) rfl
theorem wk_X6_139 : Cond.constant RX6 139 (99999) ∈ TB := TB_4 (List.mem_of_getElem? (i := 217) rfl) rfl
theorem wk_X6_140 : Cond.constant RX6 140 (-1000005) ∈ TB := TB_4 (List.mem_of_getElem? (i := 218) rfl) rfl
theorem wm_X6_141 : Cond.methodLink RX6 141 yX6_goesOn ∈ TB := TB_4 (List.mem_of_getElem? (i := 219) rfl) rfl
theorem wp_X6_goesOn : Cond.privateMethod yX6_goesOn ∈ lw_tbl := TT_4 (List.mem_of_getElem? (i := 220) rfl)
theorem wi_X6_goesOn : Cond.instanceMethod yX6_goesOn ∈ TB := TB_4 (List.mem_of_getElem? (i := 221) rfl) rfl
theorem wc_X6_goesOn : Cond.code yX6_goesOn cX6_goesOn 3 none ∈ TB := TB_4 (List.mem_of_getElem? (i := 222) rfl) rfl
theorem wm_X6_134 : Cond.methodLink RX6 134 yX6_hour ∈ TB := TB_4 (List.mem_of_getElem? (i := 223) rfl) rfl
theorem wp_X6_hour : Cond.privateMethod yX6_hour ∈ lw_tbl := TT_4 (List.mem_of_getElem? (i := 224) rfl)
theorem wi_X6_hour : Cond.instanceMethod yX6_hour ∈ TB := TB_4 (List.mem_of_getElem? (i := 225) rfl) rfl
theorem wc_X6_hour : Cond.code yX6_hour cX6_hour 2 none ∈ TB := TB_4 (List.mem_of_getElem? (i := 226) rfl) rfl
theorem wm_X6_128 : Cond.methodLink RX6 128 yX6_flows ∈ TB := TB_4 (List.mem_of_getElem? (i := 227) rfl) rfl
theorem wp_X6_flows : Cond.privateMethod yX6_flows ∈ lw_tbl := TT_4 (List.mem_of_getElem? (i := 228) rfl)
theorem wi_X6_flows : Cond.instanceMethod yX6_flows ∈ TB := TB_4 (List.mem_of_getElem? (i := 229) rfl) rfl
theorem wc_X6_flows : Cond.code yX6_flows cX6_flows 4 none ∈ TB := TB_4 (List.mem_of_getElem? (i := 230) rfl) rfl
theorem wk_X6_121 : Cond.constant RX6 121 (999999) ∈ TB := TB_4 (List.mem_of_getElem? (i := 231) rfl) rfl
theorem wm_X6_131 : Cond.methodLink RX6 131 yX6_sees ∈ TB := TB_4 (List.mem_of_getElem? (i := 232) rfl) rfl
theorem wp_X6_sees : Cond.privateMethod yX6_sees ∈ lw_tbl := TT_4 (List.mem_of_getElem? (i := 233) rfl)
theorem wi_X6_sees : Cond.instanceMethod yX6_sees ∈ TB := TB_4 (List.mem_of_getElem? (i := 234) rfl) rfl
theorem wc_X6_sees : Cond.code yX6_sees cX6_sees 5 none ∈ TB := TB_4 (List.mem_of_getElem? (i := 235) rfl) rfl
theorem wm_X6_122 : Cond.methodLink RX6 122 yX6_there ∈ TB := TB_4 (List.mem_of_getElem? (i := 236) rfl) rfl
theorem wp_X6_there : Cond.privateMethod yX6_there ∈ lw_tbl := TT_4 (List.mem_of_getElem? (i := 237) rfl)
theorem wi_X6_there : Cond.instanceMethod yX6_there ∈ TB := TB_4 (List.mem_of_getElem? (i := 238) rfl) rfl
theorem wc_X6_there : Cond.code yX6_there cX6_there 2 (some .int) ∈ TB := TB_4 (List.mem_of_getElem? (i := 239) rfl) rfl
theorem wm_X6_125 : Cond.methodLink RX6 125 yX6_distance ∈ TB := TB_5 (List.mem_of_getElem? (i := 0) rfl) rfl
theorem wst_X6_distance : Cond.static yX6_distance ∈ TB := TB_5 (List.mem_of_getElem? (i := 1) rfl) rfl
theorem wc_X6_distance : Cond.code yX6_distance cX6_distance 2 (some .int) ∈ TB := TB_5 (List.mem_of_getElem? (i := 2) rfl) rfl
theorem wm_X6_144 : Cond.methodLink RX6 144 yX6_knowing ∈ TB := TB_5 (List.mem_of_getElem? (i := 3) rfl) rfl
theorem wp_X6_knowing : Cond.privateMethod yX6_knowing ∈ lw_tbl := TT_5 (List.mem_of_getElem? (i := 4) rfl)
theorem wi_X6_knowing : Cond.instanceMethod yX6_knowing ∈ TB := TB_5 (List.mem_of_getElem? (i := 5) rfl) rfl
theorem wc_X6_knowing : Cond.code yX6_knowing cX6_knowing 3 (some .int) ∈ TB := TB_5 (List.mem_of_getElem? (i := 6) rfl) rfl
theorem wm_L_55 : Cond.methodLink RL 55 yX6_now ∈ TB := TB_5 (List.mem_of_getElem? (i := 7) rfl) rfl
theorem wi_X6_now : Cond.instanceMethod yX6_now ∈ TB := TB_5 (List.mem_of_getElem? (i := 8) rfl) rfl
theorem wsel_X6_now : Cond.selects RX6 yX6_now yX6_now ∈ TB := TB_5 (List.mem_of_getElem? (i := 9) rfl) rfl
theorem wc_X6_now : Cond.code yX6_now cX6_now 2 (some .int) ∈ TB := TB_5 (List.mem_of_getElem? (i := 10) rfl) rfl
theorem wm_X6_147 : Cond.methodLink RX6 147 yX6_levels ∈ TB := TB_5 (List.mem_of_getElem? (i := 11) rfl) rfl
theorem wp_X6_levels : Cond.privateMethod yX6_levels ∈ lw_tbl := TT_5 (List.mem_of_getElem? (i := 12) rfl)
theorem wi_X6_levels : Cond.instanceMethod yX6_levels ∈ TB := TB_5 (List.mem_of_getElem? (i := 13) rfl) rfl
theorem wc_X6_levels : Cond.code yX6_levels cX6_levels 3 (some .int) ∈ TB := TB_5 (List.mem_of_getElem? (i := 14) rfl) rfl
theorem wm_X6_150 : Cond.methodLink RX6 150 yX6_wanting ∈ TB := TB_5 (List.mem_of_getElem? (i := 15) rfl) rfl
theorem wp_X6_wanting : Cond.privateMethod yX6_wanting ∈ lw_tbl := TT_5 (List.mem_of_getElem? (i := 16) rfl)
theorem wi_X6_wanting : Cond.instanceMethod yX6_wanting ∈ TB := TB_5 (List.mem_of_getElem? (i := 17) rfl) rfl
theorem wc_X6_wanting : Cond.code yX6_wanting cX6_wanting 3 (some .int) ∈ TB := TB_5 (List.mem_of_getElem? (i := 18) rfl) rfl
theorem wm_X6_153 : Cond.methodLink RX6 153 yX6_beliefs ∈ TB := TB_5 (List.mem_of_getElem? (i := 19) rfl) rfl
theorem wp_X6_beliefs : Cond.privateMethod yX6_beliefs ∈ lw_tbl := TT_5 (List.mem_of_getElem? (i := 20) rfl)
theorem wi_X6_beliefs : Cond.instanceMethod yX6_beliefs ∈ TB := TB_5 (List.mem_of_getElem? (i := 21) rfl) rfl
theorem wc_X6_beliefs : Cond.code yX6_beliefs cX6_beliefs 3 (some .int) ∈ TB := TB_5 (List.mem_of_getElem? (i := 22) rfl) rfl
theorem wm_L_59 : Cond.methodLink RL 59 yX6_ahead ∈ TB := TB_5 (List.mem_of_getElem? (i := 23) rfl) rfl
theorem wi_X6_ahead : Cond.instanceMethod yX6_ahead ∈ TB := TB_5 (List.mem_of_getElem? (i := 24) rfl) rfl
theorem wsel_X6_ahead : Cond.selects RX6 yX6_ahead yX6_ahead ∈ TB := TB_5 (List.mem_of_getElem? (i := 25) rfl) rfl
theorem wc_X6_ahead : Cond.code yX6_ahead cX6_ahead 3 (some .int) ∈ TB := TB_5 (List.mem_of_getElem? (i := 26) rfl) rfl
theorem wk_X6_162 : Cond.constantLong RX6 162 (100) ∈ TB := TB_5 (List.mem_of_getElem? (i := 27) rfl) rfl
theorem wm_X6_164 : Cond.methodLink RX6 164 yX6_behind ∈ TB := TB_5 (List.mem_of_getElem? (i := 28) rfl) rfl
theorem wp_X6_behind : Cond.privateMethod yX6_behind ∈ lw_tbl := TT_5 (List.mem_of_getElem? (i := 29) rfl)
theorem wi_X6_behind : Cond.instanceMethod yX6_behind ∈ TB := TB_5 (List.mem_of_getElem? (i := 30) rfl) rfl
theorem wc_X6_behind : Cond.code yX6_behind cX6_behind 3 (some .int) ∈ TB := TB_5 (List.mem_of_getElem? (i := 31) rfl) rfl
theorem wm_X6_156 : Cond.methodLink RX6 156 yX6_laysAside ∈ TB := TB_5 (List.mem_of_getElem? (i := 32) rfl) rfl
theorem wp_X6_laysAside : Cond.privateMethod yX6_laysAside ∈ lw_tbl := TT_5 (List.mem_of_getElem? (i := 33) rfl)
theorem wi_X6_laysAside : Cond.instanceMethod yX6_laysAside ∈ TB := TB_5 (List.mem_of_getElem? (i := 34) rfl) rfl
theorem wc_X6_laysAside : Cond.code yX6_laysAside cX6_laysAside 2 none ∈ TB := TB_5 (List.mem_of_getElem? (i := 35) rfl) rfl
theorem wm_X6_159 : Cond.methodLink RX6 159 yX6_takesBack ∈ TB := TB_5 (List.mem_of_getElem? (i := 36) rfl) rfl
theorem wp_X6_takesBack : Cond.privateMethod yX6_takesBack ∈ lw_tbl := TT_5 (List.mem_of_getElem? (i := 37) rfl)
theorem wi_X6_takesBack : Cond.instanceMethod yX6_takesBack ∈ TB := TB_5 (List.mem_of_getElem? (i := 38) rfl) rfl
theorem wc_X6_takesBack : Cond.code yX6_takesBack cX6_takesBack 3 (some .int) ∈ TB := TB_5 (List.mem_of_getElem? (i := 39) rfl) rfl
theorem wm_L_63 : Cond.methodLink RL 63 yX6_belief ∈ TB := TB_5 (List.mem_of_getElem? (i := 40) rfl) rfl
theorem wi_X6_belief : Cond.instanceMethod yX6_belief ∈ TB := TB_5 (List.mem_of_getElem? (i := 41) rfl) rfl
theorem wsel_X6_belief : Cond.selects RX6 yX6_belief yX6_belief ∈ TB := TB_5 (List.mem_of_getElem? (i := 42) rfl) rfl
theorem wc_X6_belief : Cond.code yX6_belief cX6_belief 4 (some .int) ∈ TB := TB_5 (List.mem_of_getElem? (i := 43) rfl) rfl
theorem wk_X6_167 : Cond.constantLong RX6 167 (3) ∈ TB := TB_5 (List.mem_of_getElem? (i := 44) rfl) rfl
theorem wm_L_67 : Cond.methodLink RL 67 yX6_when ∈ TB := TB_5 (List.mem_of_getElem? (i := 45) rfl) rfl
theorem wi_X6_when : Cond.instanceMethod yX6_when ∈ TB := TB_5 (List.mem_of_getElem? (i := 46) rfl) rfl
theorem wsel_X6_when : Cond.selects RX6 yX6_when yX6_when ∈ TB := TB_5 (List.mem_of_getElem? (i := 47) rfl) rfl
theorem wc_X6_when : Cond.code yX6_when cX6_when 2 (some .int) ∈ TB := TB_5 (List.mem_of_getElem? (i := 48) rfl) rfl
theorem wm_X6_170 : Cond.methodLink RX6 170 yX6_until ∈ TB := TB_5 (List.mem_of_getElem? (i := 49) rfl) rfl
theorem wp_X6_until : Cond.privateMethod yX6_until ∈ lw_tbl := TT_5 (List.mem_of_getElem? (i := 50) rfl)
theorem wi_X6_until : Cond.instanceMethod yX6_until ∈ TB := TB_5 (List.mem_of_getElem? (i := 51) rfl) rfl
theorem wc_X6_until : Cond.code yX6_until cX6_until 5 (some .int) ∈ TB := TB_5 (List.mem_of_getElem? (i := 52) rfl) rfl
theorem wm_X6_174 : Cond.methodLink RX6 174 yX6_orNone ∈ TB := TB_5 (List.mem_of_getElem? (i := 53) rfl) rfl
theorem wp_X6_orNone : Cond.privateMethod yX6_orNone ∈ lw_tbl := TT_5 (List.mem_of_getElem? (i := 54) rfl)
theorem wi_X6_orNone : Cond.instanceMethod yX6_orNone ∈ TB := TB_5 (List.mem_of_getElem? (i := 55) rfl) rfl
theorem wc_X6_orNone : Cond.code yX6_orNone cX6_orNone 2 (some .int) ∈ TB := TB_5 (List.mem_of_getElem? (i := 56) rfl) rfl
theorem wk_X6_169 : Cond.constant RX6 169 (-1000004) ∈ TB := TB_5 (List.mem_of_getElem? (i := 57) rfl) rfl
theorem wm_L_72 : Cond.methodLink RL 72 yX6_first ∈ TB := TB_5 (List.mem_of_getElem? (i := 58) rfl) rfl
theorem wi_X6_first : Cond.instanceMethod yX6_first ∈ TB := TB_5 (List.mem_of_getElem? (i := 59) rfl) rfl
theorem wsel_X6_first : Cond.selects RX6 yX6_first yX6_first ∈ TB := TB_5 (List.mem_of_getElem? (i := 60) rfl) rfl
theorem wc_X6_first : Cond.code yX6_first cX6_first 5 (some .int) ∈ TB := TB_5 (List.mem_of_getElem? (i := 61) rfl) rfl
theorem wm_L_76 : Cond.methodLink RL 76 yX6_reaches ∈ TB := TB_5 (List.mem_of_getElem? (i := 62) rfl) rfl
theorem wi_X6_reaches : Cond.instanceMethod yX6_reaches ∈ TB := TB_5 (List.mem_of_getElem? (i := 63) rfl) rfl
theorem wsel_X6_reaches : Cond.selects RX6 yX6_reaches yX6_reaches ∈ TB := TB_5 (List.mem_of_getElem? (i := 64) rfl) rfl
theorem wc_X6_reaches : Cond.code yX6_reaches cX6_reaches 3 (some .int) ∈ TB := TB_5 (List.mem_of_getElem? (i := 65) rfl) rfl
theorem wm_L_80 : Cond.methodLink RL 80 yX6_range ∈ TB := TB_5 (List.mem_of_getElem? (i := 66) rfl) rfl
theorem wi_X6_range : Cond.instanceMethod yX6_range ∈ TB := TB_5 (List.mem_of_getElem? (i := 67) rfl) rfl
theorem wsel_X6_range : Cond.selects RX6 yX6_range yX6_range ∈ TB := TB_5 (List.mem_of_getElem? (i := 68) rfl) rfl
theorem wc_X6_range : Cond.code yX6_range cX6_range 5 (some .int) ∈ TB := TB_5 (List.mem_of_getElem? (i := 69) rfl) rfl
theorem wm_X6_181 : Cond.methodLink RX6 181 yX6_leastOf ∈ TB := TB_5 (List.mem_of_getElem? (i := 70) rfl) rfl
theorem wp_X6_leastOf : Cond.privateMethod yX6_leastOf ∈ lw_tbl := TT_5 (List.mem_of_getElem? (i := 71) rfl)
theorem wi_X6_leastOf : Cond.instanceMethod yX6_leastOf ∈ TB := TB_5 (List.mem_of_getElem? (i := 72) rfl) rfl
theorem wc_X6_leastOf : Cond.code yX6_leastOf cX6_leastOf 7 (some .int) ∈ TB := TB_5 (List.mem_of_getElem? (i := 73) rfl) rfl
theorem wm_L_84 : Cond.methodLink RL 84 yX6_enough ∈ TB := TB_5 (List.mem_of_getElem? (i := 74) rfl) rfl
theorem wi_X6_enough : Cond.instanceMethod yX6_enough ∈ TB := TB_5 (List.mem_of_getElem? (i := 75) rfl) rfl
theorem wsel_X6_enough : Cond.selects RX6 yX6_enough yX6_enough ∈ TB := TB_5 (List.mem_of_getElem? (i := 76) rfl) rfl
theorem wc_X6_enough : Cond.code yX6_enough cX6_enough 4 (some .int) ∈ TB := TB_5 (List.mem_of_getElem? (i := 77) rfl) rfl
theorem wm_L_88 : Cond.methodLink RL 88 yX6_hide ∈ TB := TB_5 (List.mem_of_getElem? (i := 78) rfl) rfl
theorem wi_X6_hide : Cond.instanceMethod yX6_hide ∈ TB := TB_5 (List.mem_of_getElem? (i := 79) rfl) rfl
theorem wsel_X6_hide : Cond.selects RX6 yX6_hide yX6_hide ∈ TB := TB_5 (List.mem_of_getElem? (i := 80) rfl) rfl
theorem wc_X6_hide : Cond.code yX6_hide cX6_hide 7 (some .int) ∈ TB := TB_5 (List.mem_of_getElem? (i := 81) rfl) rfl
theorem wm_X6_187 : Cond.methodLink RX6 187 yX6_isSoon ∈ TB := TB_5 (List.mem_of_getElem? (i := 82) rfl) rfl
theorem wst_X6_isSoon : Cond.static yX6_isSoon ∈ TB := TB_5 (List.mem_of_getElem? (i := 83) rfl) rfl
theorem wc_X6_isSoon : Cond.code yX6_isSoon cX6_isSoon 1 (some .boolean) ∈ TB := TB_5 (List.mem_of_getElem? (i := 84) rfl) rfl
theorem wk_X6_185 : Cond.constantLong RX6 185 (60) ∈ TB := TB_5 (List.mem_of_getElem? (i := 85) rfl) rfl
theorem wm_X6_190 : Cond.methodLink RX6 190 yX6_ones ∈ TB := TB_5 (List.mem_of_getElem? (i := 86) rfl) rfl
theorem wst_X6_ones : Cond.static yX6_ones ∈ TB := TB_5 (List.mem_of_getElem? (i := 87) rfl) rfl
theorem wc_X6_ones : Cond.code yX6_ones cX6_ones 3 (some .int) ∈ TB := TB_5 (List.mem_of_getElem? (i := 88) rfl) rfl
theorem wm_L_92 : Cond.methodLink RL 92 yX6_safe ∈ TB := TB_5 (List.mem_of_getElem? (i := 89) rfl) rfl
theorem wi_X6_safe : Cond.instanceMethod yX6_safe ∈ TB := TB_5 (List.mem_of_getElem? (i := 90) rfl) rfl
theorem wsel_X6_safe : Cond.selects RX6 yX6_safe yX6_safe ∈ TB := TB_5 (List.mem_of_getElem? (i := 91) rfl) rfl
theorem wc_X6_safe : Cond.code yX6_safe cX6_safe 6 (some .int) ∈ TB := TB_5 (List.mem_of_getElem? (i := 92) rfl) rfl
theorem wm_L_96 : Cond.methodLink RL 96 yX6_sleep ∈ TB := TB_5 (List.mem_of_getElem? (i := 93) rfl) rfl
theorem wi_X6_sleep : Cond.instanceMethod yX6_sleep ∈ TB := TB_5 (List.mem_of_getElem? (i := 94) rfl) rfl
theorem wsel_X6_sleep : Cond.selects RX6 yX6_sleep yX6_sleep ∈ TB := TB_5 (List.mem_of_getElem? (i := 95) rfl) rfl
theorem wc_X6_sleep : Cond.code yX6_sleep cX6_sleep 5 (some .int) ∈ TB := TB_5 (List.mem_of_getElem? (i := 96) rfl) rfl
theorem wk_X6_193 : Cond.constantLong RX6 193 (20) ∈ TB := TB_5 (List.mem_of_getElem? (i := 97) rfl) rfl
theorem wm_L_100 : Cond.methodLink RL 100 yX6_turns ∈ TB := TB_5 (List.mem_of_getElem? (i := 98) rfl) rfl
theorem wi_X6_turns : Cond.instanceMethod yX6_turns ∈ TB := TB_5 (List.mem_of_getElem? (i := 99) rfl) rfl
theorem wsel_X6_turns : Cond.selects RX6 yX6_turns yX6_turns ∈ TB := TB_5 (List.mem_of_getElem? (i := 100) rfl) rfl
theorem wc_X6_turns : Cond.code yX6_turns cX6_turns 3 (some .int) ∈ TB := TB_5 (List.mem_of_getElem? (i := 101) rfl) rfl
theorem wm_L_104 : Cond.methodLink RL 104 yX6_seat ∈ TB := TB_5 (List.mem_of_getElem? (i := 102) rfl) rfl
theorem wi_X6_seat : Cond.instanceMethod yX6_seat ∈ TB := TB_5 (List.mem_of_getElem? (i := 103) rfl) rfl
theorem wsel_X6_seat : Cond.selects RX6 yX6_seat yX6_seat ∈ TB := TB_5 (List.mem_of_getElem? (i := 104) rfl) rfl
theorem wc_X6_seat : Cond.code yX6_seat cX6_seat 3 (some .int) ∈ TB := TB_5 (List.mem_of_getElem? (i := 105) rfl) rfl
theorem wm_X6_195 : Cond.methodLink RX6 195 yX6_mostBelief ∈ TB := TB_5 (List.mem_of_getElem? (i := 106) rfl) rfl
theorem wp_X6_mostBelief : Cond.privateMethod yX6_mostBelief ∈ lw_tbl := TT_5 (List.mem_of_getElem? (i := 107) rfl)
theorem wi_X6_mostBelief : Cond.instanceMethod yX6_mostBelief ∈ TB := TB_5 (List.mem_of_getElem? (i := 108) rfl) rfl
theorem wc_X6_mostBelief : Cond.code yX6_mostBelief cX6_mostBelief 8 (some .int) ∈ TB := TB_5 (List.mem_of_getElem? (i := 109) rfl) rfl
theorem wm_L_108 : Cond.methodLink RL 108 yX6_kindFor ∈ TB := TB_5 (List.mem_of_getElem? (i := 110) rfl) rfl
theorem wi_X6_kindFor : Cond.instanceMethod yX6_kindFor ∈ TB := TB_5 (List.mem_of_getElem? (i := 111) rfl) rfl
theorem wsel_X6_kindFor : Cond.selects RX6 yX6_kindFor yX6_kindFor ∈ TB := TB_5 (List.mem_of_getElem? (i := 112) rfl) rfl
theorem wc_X6_kindFor : Cond.code yX6_kindFor cX6_kindFor 3 (some .int) ∈ TB := TB_5 (List.mem_of_getElem? (i := 113) rfl) rfl
theorem wm_L_112 : Cond.methodLink RL 112 yX6_wantFor ∈ TB := TB_5 (List.mem_of_getElem? (i := 114) rfl) rfl
theorem wi_X6_wantFor : Cond.instanceMethod yX6_wantFor ∈ TB := TB_5 (List.mem_of_getElem? (i := 115) rfl) rfl
theorem wsel_X6_wantFor : Cond.selects RX6 yX6_wantFor yX6_wantFor ∈ TB := TB_5 (List.mem_of_getElem? (i := 116) rfl) rfl
theorem wc_X6_wantFor : Cond.code yX6_wantFor cX6_wantFor 4 (some .int) ∈ TB := TB_5 (List.mem_of_getElem? (i := 117) rfl) rfl
theorem wm_L_116 : Cond.methodLink RL 116 yX6_watch ∈ TB := TB_5 (List.mem_of_getElem? (i := 118) rfl) rfl
theorem wi_X6_watch : Cond.instanceMethod yX6_watch ∈ TB := TB_5 (List.mem_of_getElem? (i := 119) rfl) rfl
theorem wsel_X6_watch : Cond.selects RX6 yX6_watch yX6_watch ∈ TB := TB_5 (List.mem_of_getElem? (i := 120) rfl) rfl
theorem wc_X6_watch : Cond.code yX6_watch cX6_watch 4 (some .int) ∈ TB := TB_5 (List.mem_of_getElem? (i := 121) rfl) rfl
theorem wm_L_120 : Cond.methodLink RL 120 yX6_fits ∈ TB := TB_5 (List.mem_of_getElem? (i := 122) rfl) rfl
theorem wi_X6_fits : Cond.instanceMethod yX6_fits ∈ TB := TB_5 (List.mem_of_getElem? (i := 123) rfl) rfl
theorem wsel_X6_fits : Cond.selects RX6 yX6_fits yX6_fits ∈ TB := TB_5 (List.mem_of_getElem? (i := 124) rfl) rfl
theorem wc_X6_fits : Cond.code yX6_fits cX6_fits 5 (some .int) ∈ TB := TB_5 (List.mem_of_getElem? (i := 125) rfl) rfl
theorem wm_X6_211 : Cond.methodLink RX6 211 yX6_wrongOpened ∈ TB := TB_5 (List.mem_of_getElem? (i := 126) rfl) rfl
theorem wp_X6_wrongOpened : Cond.privateMethod yX6_wrongOpened ∈ lw_tbl := TT_5 (List.mem_of_getElem? (i := 127) rfl)
theorem wi_X6_wrongOpened : Cond.instanceMethod yX6_wrongOpened ∈ TB := TB_5 (List.mem_of_getElem? (i := 128) rfl) rfl
theorem wc_X6_wrongOpened : Cond.code yX6_wrongOpened cX6_wrongOpened 5 (some .int) ∈ TB := TB_5 (List.mem_of_getElem? (i := 129) rfl) rfl
theorem wm_X6_208 : Cond.methodLink RX6 208 yX6_wrong ∈ TB := TB_5 (List.mem_of_getElem? (i := 130) rfl) rfl
theorem wp_X6_wrong : Cond.privateMethod yX6_wrong ∈ lw_tbl := TT_5 (List.mem_of_getElem? (i := 131) rfl)
theorem wi_X6_wrong : Cond.instanceMethod yX6_wrong ∈ TB := TB_5 (List.mem_of_getElem? (i := 132) rfl) rfl
theorem wc_X6_wrong : Cond.code yX6_wrong cX6_wrong 2 (some .int) ∈ TB := TB_5 (List.mem_of_getElem? (i := 133) rfl) rfl
theorem wm_X6_331 : Cond.methodLink RX6 331 yX6_isOne ∈ TB := TB_5 (List.mem_of_getElem? (i := 134) rfl) rfl
theorem wst_X6_isOne : Cond.static yX6_isOne ∈ TB := TB_5 (List.mem_of_getElem? (i := 135) rfl) rfl
theorem wc_X6_isOne : Cond.code yX6_isOne cX6_isOne 1 (some .boolean) ∈ TB := TB_5 (List.mem_of_getElem? (i := 136) rfl) rfl
theorem wk_X6_326 : Cond.constant RX6 326 (-1000006) ∈ TB := TB_5 (List.mem_of_getElem? (i := 137) rfl) rfl
theorem wm_X6_214 : Cond.methodLink RX6 214 yX6_findOpened ∈ TB := TB_5 (List.mem_of_getElem? (i := 138) rfl) rfl
theorem wp_X6_findOpened : Cond.privateMethod yX6_findOpened ∈ lw_tbl := TT_5 (List.mem_of_getElem? (i := 139) rfl)
theorem wi_X6_findOpened : Cond.instanceMethod yX6_findOpened ∈ TB := TB_5 (List.mem_of_getElem? (i := 140) rfl) rfl
theorem wc_X6_findOpened : Cond.code yX6_findOpened cX6_findOpened 5 none ∈ TB := TB_5 (List.mem_of_getElem? (i := 141) rfl) rfl
theorem wm_X6_204 : Cond.methodLink RX6 204 yX6_isTold ∈ TB := TB_5 (List.mem_of_getElem? (i := 142) rfl) rfl
theorem wp_X6_isTold : Cond.privateMethod yX6_isTold ∈ lw_tbl := TT_5 (List.mem_of_getElem? (i := 143) rfl)
theorem wi_X6_isTold : Cond.instanceMethod yX6_isTold ∈ TB := TB_5 (List.mem_of_getElem? (i := 144) rfl) rfl
theorem wc_X6_isTold : Cond.code yX6_isTold cX6_isTold 6 (some .boolean) ∈ TB := TB_5 (List.mem_of_getElem? (i := 145) rfl) rfl
theorem wm_L_124 : Cond.methodLink RL 124 yX6_opened ∈ TB := TB_5 (List.mem_of_getElem? (i := 146) rfl) rfl
theorem wi_X6_opened : Cond.instanceMethod yX6_opened ∈ TB := TB_5 (List.mem_of_getElem? (i := 147) rfl) rfl
theorem wsel_X6_opened : Cond.selects RX6 yX6_opened yX6_opened ∈ TB := TB_5 (List.mem_of_getElem? (i := 148) rfl) rfl
theorem wc_X6_opened : Cond.code yX6_opened cX6_opened 5 (some .int) ∈ TB := TB_5 (List.mem_of_getElem? (i := 149) rfl) rfl
theorem wm_L_128 : Cond.methodLink RL 128 yX6_kinds ∈ TB := TB_5 (List.mem_of_getElem? (i := 150) rfl) rfl
theorem wi_X6_kinds : Cond.instanceMethod yX6_kinds ∈ TB := TB_5 (List.mem_of_getElem? (i := 151) rfl) rfl
theorem wsel_X6_kinds : Cond.selects RX6 yX6_kinds yX6_kinds ∈ TB := TB_5 (List.mem_of_getElem? (i := 152) rfl) rfl
theorem wc_X6_kinds : Cond.code yX6_kinds cX6_kinds 6 (some .int) ∈ TB := TB_5 (List.mem_of_getElem? (i := 153) rfl) rfl
theorem wm_L_132 : Cond.methodLink RL 132 yX6_nights ∈ TB := TB_5 (List.mem_of_getElem? (i := 154) rfl) rfl
theorem wi_X6_nights : Cond.instanceMethod yX6_nights ∈ TB := TB_5 (List.mem_of_getElem? (i := 155) rfl) rfl
theorem wsel_X6_nights : Cond.selects RX6 yX6_nights yX6_nights ∈ TB := TB_5 (List.mem_of_getElem? (i := 156) rfl) rfl
theorem wc_X6_nights : Cond.code yX6_nights cX6_nights 4 (some .int) ∈ TB := TB_5 (List.mem_of_getElem? (i := 157) rfl) rfl
theorem wm_X6_219 : Cond.methodLink RX6 219 yX6_draw ∈ TB := TB_5 (List.mem_of_getElem? (i := 158) rfl) rfl
theorem wp_X6_draw : Cond.privateMethod yX6_draw ∈ lw_tbl := TT_5 (List.mem_of_getElem? (i := 159) rfl)
theorem wi_X6_draw : Cond.instanceMethod yX6_draw ∈ TB := TB_5 (List.mem_of_getElem? (i := 160) rfl) rfl
theorem wc_X6_draw : Cond.code yX6_draw cX6_draw 1 (some .int) ∈ TB := TB_5 (List.mem_of_getElem? (i := 161) rfl) rfl
theorem wk_X6_218 : Cond.constant RX6 218 (1103515245) ∈ TB := TB_5 (List.mem_of_getElem? (i := 162) rfl) rfl
theorem wm_L_137 : Cond.methodLink RL 137 yX6_odds ∈ TB := TB_5 (List.mem_of_getElem? (i := 163) rfl) rfl
theorem wi_X6_odds : Cond.instanceMethod yX6_odds ∈ TB := TB_5 (List.mem_of_getElem? (i := 164) rfl) rfl
theorem wsel_X6_odds : Cond.selects RX6 yX6_odds yX6_odds ∈ TB := TB_5 (List.mem_of_getElem? (i := 165) rfl) rfl
theorem wc_X6_odds : Cond.code yX6_odds cX6_odds 8 (some .long) ∈ TB := TB_5 (List.mem_of_getElem? (i := 166) rfl) rfl
theorem wm_L_141 : Cond.methodLink RL 141 yX6_seed ∈ TB := TB_5 (List.mem_of_getElem? (i := 167) rfl) rfl
theorem wi_X6_seed : Cond.instanceMethod yX6_seed ∈ TB := TB_5 (List.mem_of_getElem? (i := 168) rfl) rfl
theorem wsel_X6_seed : Cond.selects RX6 yX6_seed yX6_seed ∈ TB := TB_5 (List.mem_of_getElem? (i := 169) rfl) rfl
theorem wc_X6_seed : Cond.code yX6_seed cX6_seed 2 (some .int) ∈ TB := TB_5 (List.mem_of_getElem? (i := 170) rfl) rfl
theorem wm_L_145 : Cond.methodLink RL 145 yX6_feed ∈ TB := TB_5 (List.mem_of_getElem? (i := 171) rfl) rfl
theorem wi_X6_feed : Cond.instanceMethod yX6_feed ∈ TB := TB_5 (List.mem_of_getElem? (i := 172) rfl) rfl
theorem wsel_X6_feed : Cond.selects RX6 yX6_feed yX6_feed ∈ TB := TB_5 (List.mem_of_getElem? (i := 173) rfl) rfl
theorem wc_X6_feed : Cond.code yX6_feed cX6_feed 4 (some .int) ∈ TB := TB_5 (List.mem_of_getElem? (i := 174) rfl) rfl
theorem wm_L_149 : Cond.methodLink RL 149 yX6_wipe ∈ TB := TB_5 (List.mem_of_getElem? (i := 175) rfl) rfl
theorem wi_X6_wipe : Cond.instanceMethod yX6_wipe ∈ TB := TB_5 (List.mem_of_getElem? (i := 176) rfl) rfl
theorem wsel_X6_wipe : Cond.selects RX6 yX6_wipe yX6_wipe ∈ TB := TB_5 (List.mem_of_getElem? (i := 177) rfl) rfl
theorem wc_X6_wipe : Cond.code yX6_wipe cX6_wipe 2 (some .int) ∈ TB := TB_5 (List.mem_of_getElem? (i := 178) rfl) rfl
theorem wm_L_153 : Cond.methodLink RL 153 yX6_text ∈ TB := TB_5 (List.mem_of_getElem? (i := 179) rfl) rfl
theorem wi_X6_text : Cond.instanceMethod yX6_text ∈ TB := TB_5 (List.mem_of_getElem? (i := 180) rfl) rfl
theorem wsel_X6_text : Cond.selects RX6 yX6_text yX6_text ∈ TB := TB_5 (List.mem_of_getElem? (i := 181) rfl) rfl
theorem wc_X6_text : Cond.code yX6_text cX6_text 2 (some .int) ∈ TB := TB_5 (List.mem_of_getElem? (i := 182) rfl) rfl
theorem wm_X6_312 : Cond.methodLink RX6 312 yX6_saves ∈ TB := TB_5 (List.mem_of_getElem? (i := 183) rfl) rfl
theorem wp_X6_saves : Cond.privateMethod yX6_saves ∈ lw_tbl := TT_5 (List.mem_of_getElem? (i := 184) rfl)
theorem wi_X6_saves : Cond.instanceMethod yX6_saves ∈ TB := TB_5 (List.mem_of_getElem? (i := 185) rfl) rfl
theorem wc_X6_saves : Cond.code yX6_saves cX6_saves 2 none ∈ TB := TB_5 (List.mem_of_getElem? (i := 186) rfl) rfl
theorem wm_X6_251 : Cond.methodLink RX6 251 yX6_token ∈ TB := TB_5 (List.mem_of_getElem? (i := 187) rfl) rfl
theorem wp_X6_token : Cond.privateMethod yX6_token ∈ lw_tbl := TT_5 (List.mem_of_getElem? (i := 188) rfl)
theorem wi_X6_token : Cond.instanceMethod yX6_token ∈ TB := TB_5 (List.mem_of_getElem? (i := 189) rfl) rfl
theorem wc_X6_token : Cond.code yX6_token cX6_token 3 none ∈ TB := TB_5 (List.mem_of_getElem? (i := 190) rfl) rfl
theorem wm_X6_239 : Cond.methodLink RX6 239 yX6_byteAt ∈ TB := TB_5 (List.mem_of_getElem? (i := 191) rfl) rfl
theorem wp_X6_byteAt : Cond.privateMethod yX6_byteAt ∈ lw_tbl := TT_5 (List.mem_of_getElem? (i := 192) rfl)
theorem wi_X6_byteAt : Cond.instanceMethod yX6_byteAt ∈ TB := TB_5 (List.mem_of_getElem? (i := 193) rfl) rfl
theorem wc_X6_byteAt : Cond.code yX6_byteAt cX6_byteAt 2 (some .int) ∈ TB := TB_5 (List.mem_of_getElem? (i := 194) rfl) rfl
theorem wm_X6_242 : Cond.methodLink RX6 242 yX6_isLetter ∈ TB := TB_5 (List.mem_of_getElem? (i := 195) rfl) rfl
theorem wst_X6_isLetter : Cond.static yX6_isLetter ∈ TB := TB_5 (List.mem_of_getElem? (i := 196) rfl) rfl
theorem wc_X6_isLetter : Cond.code yX6_isLetter cX6_isLetter 1 (some .boolean) ∈ TB := TB_5 (List.mem_of_getElem? (i := 197) rfl) rfl
theorem wk_X6_225 : Cond.constantLong RX6 225 (97) ∈ TB := TB_5 (List.mem_of_getElem? (i := 198) rfl) rfl
theorem wk_X6_227 : Cond.constantLong RX6 227 (122) ∈ TB := TB_5 (List.mem_of_getElem? (i := 199) rfl) rfl
theorem wm_X6_245 : Cond.methodLink RX6 245 yX6_isDigit ∈ TB := TB_5 (List.mem_of_getElem? (i := 200) rfl) rfl
theorem wst_X6_isDigit : Cond.static yX6_isDigit ∈ TB := TB_5 (List.mem_of_getElem? (i := 201) rfl) rfl
theorem wc_X6_isDigit : Cond.code yX6_isDigit cX6_isDigit 1 (some .boolean) ∈ TB := TB_5 (List.mem_of_getElem? (i := 202) rfl) rfl
theorem wk_X6_229 : Cond.constantLong RX6 229 (48) ∈ TB := TB_5 (List.mem_of_getElem? (i := 203) rfl) rfl
theorem wk_X6_231 : Cond.constantLong RX6 231 (57) ∈ TB := TB_5 (List.mem_of_getElem? (i := 204) rfl) rfl
theorem wm_X6_315 : Cond.methodLink RX6 315 yX6_item ∈ TB := TB_5 (List.mem_of_getElem? (i := 205) rfl) rfl
theorem wp_X6_item : Cond.privateMethod yX6_item ∈ lw_tbl := TT_5 (List.mem_of_getElem? (i := 206) rfl)
theorem wi_X6_item : Cond.instanceMethod yX6_item ∈ TB := TB_5 (List.mem_of_getElem? (i := 207) rfl) rfl
theorem wc_X6_item : Cond.code yX6_item cX6_item 4 none ∈ TB := TB_5 (List.mem_of_getElem? (i := 208) rfl) rfl
theorem wm_X6_297 : Cond.methodLink RX6 297 yX6_kindHere ∈ TB := TB_5 (List.mem_of_getElem? (i := 209) rfl) rfl
theorem wp_X6_kindHere : Cond.privateMethod yX6_kindHere ∈ lw_tbl := TT_5 (List.mem_of_getElem? (i := 210) rfl)
theorem wi_X6_kindHere : Cond.instanceMethod yX6_kindHere ∈ TB := TB_5 (List.mem_of_getElem? (i := 211) rfl) rfl
theorem wc_X6_kindHere : Cond.code yX6_kindHere cX6_kindHere 3 (some .int) ∈ TB := TB_5 (List.mem_of_getElem? (i := 212) rfl) rfl
theorem wm_X6_265 : Cond.methodLink RX6 265 yX6_word ∈ TB := TB_5 (List.mem_of_getElem? (i := 213) rfl) rfl
theorem wp_X6_word : Cond.privateMethod yX6_word ∈ lw_tbl := TT_5 (List.mem_of_getElem? (i := 214) rfl)
theorem wi_X6_word : Cond.instanceMethod yX6_word ∈ TB := TB_5 (List.mem_of_getElem? (i := 215) rfl) rfl
theorem wc_X6_word : Cond.code yX6_word cX6_word 4 (some .long) ∈ TB := TB_5 (List.mem_of_getElem? (i := 216) rfl) rfl
theorem wk_X6_254 : Cond.constantLong RX6 254 (36028797018963967) ∈ TB := TB_5 (List.mem_of_getElem? (i := 217) rfl) rfl
theorem wk_X6_256 : Cond.constantLong RX6 256 (32) ∈ TB := TB_5 (List.mem_of_getElem? (i := 218) rfl) rfl
theorem wk_X6_269 : Cond.constantLong RX6 269 (24750694578) ∈ TB := TB_5 (List.mem_of_getElem? (i := 219) rfl) rfl
theorem wk_X6_271 : Cond.constantLong RX6 271 (435596) ∈ TB := TB_5 (List.mem_of_getElem? (i := 220) rfl) rfl
theorem wk_X6_273 : Cond.constantLong RX6 273 (539828) ∈ TB := TB_5 (List.mem_of_getElem? (i := 221) rfl) rfl
theorem wk_X6_275 : Cond.constantLong RX6 275 (18226974674418) ∈ TB := TB_5 (List.mem_of_getElem? (i := 222) rfl) rfl
theorem wk_X6_277 : Cond.constantLong RX6 277 (4820390066) ∈ TB := TB_5 (List.mem_of_getElem? (i := 223) rfl) rfl
theorem wk_X6_279 : Cond.constantLong RX6 279 (206440) ∈ TB := TB_5 (List.mem_of_getElem? (i := 224) rfl) rfl
theorem wk_X6_281 : Cond.constantLong RX6 281 (86282469) ∈ TB := TB_5 (List.mem_of_getElem? (i := 225) rfl) rfl
theorem wm_X6_300 : Cond.methodLink RX6 300 yX6_watcherItem ∈ TB := TB_5 (List.mem_of_getElem? (i := 226) rfl) rfl
theorem wp_X6_watcherItem : Cond.privateMethod yX6_watcherItem ∈ lw_tbl := TT_5 (List.mem_of_getElem? (i := 227) rfl)
theorem wi_X6_watcherItem : Cond.instanceMethod yX6_watcherItem ∈ TB := TB_5 (List.mem_of_getElem? (i := 228) rfl) rfl
theorem wc_X6_watcherItem : Cond.code yX6_watcherItem cX6_watcherItem 3 none ∈ TB := TB_5 (List.mem_of_getElem? (i := 229) rfl) rfl
theorem wm_X6_261 : Cond.methodLink RX6 261 yX6_must ∈ TB := TB_5 (List.mem_of_getElem? (i := 230) rfl) rfl
theorem wp_X6_must : Cond.privateMethod yX6_must ∈ lw_tbl := TT_5 (List.mem_of_getElem? (i := 231) rfl)
theorem wi_X6_must : Cond.instanceMethod yX6_must ∈ TB := TB_5 (List.mem_of_getElem? (i := 232) rfl) rfl
theorem wc_X6_must : Cond.code yX6_must cX6_must 2 none ∈ TB := TB_5 (List.mem_of_getElem? (i := 233) rfl) rfl
theorem wk_X6_287 : Cond.constantLong RX6 287 (52) ∈ TB := TB_5 (List.mem_of_getElem? (i := 234) rfl) rfl
theorem wm_X6_289 : Cond.methodLink RX6 289 yX6_perhaps ∈ TB := TB_5 (List.mem_of_getElem? (i := 235) rfl) rfl
theorem wp_X6_perhaps : Cond.privateMethod yX6_perhaps ∈ lw_tbl := TT_5 (List.mem_of_getElem? (i := 236) rfl)
theorem wi_X6_perhaps : Cond.instanceMethod yX6_perhaps ∈ TB := TB_5 (List.mem_of_getElem? (i := 237) rfl) rfl
theorem wc_X6_perhaps : Cond.code yX6_perhaps cX6_perhaps 5 none ∈ TB := TB_5 (List.mem_of_getElem? (i := 238) rfl) rfl
theorem wm_X6_283 : Cond.methodLink RX6 283 yX6_number ∈ TB := TB_5 (List.mem_of_getElem? (i := 239) rfl) rfl
theorem wp_X6_number : Cond.privateMethod yX6_number ∈ lw_tbl := TT_6 (List.mem_of_getElem? (i := 0) rfl)
theorem wi_X6_number : Cond.instanceMethod yX6_number ∈ TB := TB_6 (List.mem_of_getElem? (i := 1) rfl) rfl
theorem wc_X6_number : Cond.code yX6_number cX6_number 6 none ∈ TB := TB_6 (List.mem_of_getElem? (i := 2) rfl) rfl
theorem wk_X6_293 : Cond.constantLong RX6 293 (24165011) ∈ TB := TB_6 (List.mem_of_getElem? (i := 3) rfl) rfl
theorem wk_X6_295 : Cond.constantLong RX6 295 (74500462771) ∈ TB := TB_6 (List.mem_of_getElem? (i := 4) rfl) rfl
theorem wk_X6_303 : Cond.constantLong RX6 303 (12769452) ∈ TB := TB_6 (List.mem_of_getElem? (i := 5) rfl) rfl
theorem wm_X6_305 : Cond.methodLink RX6 305 yX6_rowItem ∈ TB := TB_6 (List.mem_of_getElem? (i := 6) rfl) rfl
theorem wp_X6_rowItem : Cond.privateMethod yX6_rowItem ∈ lw_tbl := TT_6 (List.mem_of_getElem? (i := 7) rfl)
theorem wi_X6_rowItem : Cond.instanceMethod yX6_rowItem ∈ TB := TB_6 (List.mem_of_getElem? (i := 8) rfl) rfl
theorem wc_X6_rowItem : Cond.code yX6_rowItem cX6_rowItem 5 none ∈ TB := TB_6 (List.mem_of_getElem? (i := 9) rfl) rfl
theorem wk_X6_308 : Cond.constantLong RX6 308 (536622) ∈ TB := TB_6 (List.mem_of_getElem? (i := 10) rfl) rfl
theorem wk_X6_310 : Cond.constantLong RX6 310 (658670745) ∈ TB := TB_6 (List.mem_of_getElem? (i := 11) rfl) rfl
theorem wm_X6_318 : Cond.methodLink RX6 318 yX6_putsBack ∈ TB := TB_6 (List.mem_of_getElem? (i := 12) rfl) rfl
theorem wp_X6_putsBack : Cond.privateMethod yX6_putsBack ∈ lw_tbl := TT_6 (List.mem_of_getElem? (i := 13) rfl)
theorem wi_X6_putsBack : Cond.instanceMethod yX6_putsBack ∈ TB := TB_6 (List.mem_of_getElem? (i := 14) rfl) rfl
theorem wc_X6_putsBack : Cond.code yX6_putsBack cX6_putsBack 2 none ∈ TB := TB_6 (List.mem_of_getElem? (i := 15) rfl) rfl
theorem wm_L_157 : Cond.methodLink RL 157 yX6_hold ∈ TB := TB_6 (List.mem_of_getElem? (i := 16) rfl) rfl
theorem wi_X6_hold : Cond.instanceMethod yX6_hold ∈ TB := TB_6 (List.mem_of_getElem? (i := 17) rfl) rfl
theorem wsel_X6_hold : Cond.selects RX6 yX6_hold yX6_hold ∈ TB := TB_6 (List.mem_of_getElem? (i := 18) rfl) rfl
theorem wc_X6_hold : Cond.code yX6_hold cX6_hold 3 (some .int) ∈ TB := TB_6 (List.mem_of_getElem? (i := 19) rfl) rfl
theorem wm_X6_323 : Cond.methodLink RX6 323 yX6_isSpot ∈ TB := TB_6 (List.mem_of_getElem? (i := 20) rfl) rfl
theorem wst_X6_isSpot : Cond.static yX6_isSpot ∈ TB := TB_6 (List.mem_of_getElem? (i := 21) rfl) rfl
theorem wc_X6_isSpot : Cond.code yX6_isSpot cX6_isSpot 1 (some .boolean) ∈ TB := TB_6 (List.mem_of_getElem? (i := 22) rfl) rfl
theorem wk_X6_321 : Cond.constantLong RX6 321 (9) ∈ TB := TB_6 (List.mem_of_getElem? (i := 23) rfl) rfl
theorem wm_L_161 : Cond.methodLink RL 161 yX6_as ∈ TB := TB_6 (List.mem_of_getElem? (i := 24) rfl) rfl
theorem wi_X6_as : Cond.instanceMethod yX6_as ∈ TB := TB_6 (List.mem_of_getElem? (i := 25) rfl) rfl
theorem wsel_X6_as : Cond.selects RX6 yX6_as yX6_as ∈ TB := TB_6 (List.mem_of_getElem? (i := 26) rfl) rfl
theorem wc_X6_as : Cond.code yX6_as cX6_as 5 (some .int) ∈ TB := TB_6 (List.mem_of_getElem? (i := 27) rfl) rfl
theorem wm_X6_327 : Cond.methodLink RX6 327 yX6_above ∈ TB := TB_6 (List.mem_of_getElem? (i := 28) rfl) rfl
theorem wst_X6_above : Cond.static yX6_above ∈ TB := TB_6 (List.mem_of_getElem? (i := 29) rfl) rfl
theorem wc_X6_above : Cond.code yX6_above cX6_above 1 (some .int) ∈ TB := TB_6 (List.mem_of_getElem? (i := 30) rfl) rfl
theorem wk_X6_330 : Cond.constant RX6 330 (-1000003) ∈ TB := TB_6 (List.mem_of_getElem? (i := 31) rfl) rfl
theorem wm_L_165 : Cond.methodLink RL 165 yX6_sheet ∈ TB := TB_6 (List.mem_of_getElem? (i := 32) rfl) rfl
theorem wi_X6_sheet : Cond.instanceMethod yX6_sheet ∈ TB := TB_6 (List.mem_of_getElem? (i := 33) rfl) rfl
theorem wsel_X6_sheet : Cond.selects RX6 yX6_sheet yX6_sheet ∈ TB := TB_6 (List.mem_of_getElem? (i := 34) rfl) rfl
theorem wc_X6_sheet : Cond.code yX6_sheet cX6_sheet 5 (some .int) ∈ TB := TB_6 (List.mem_of_getElem? (i := 35) rfl) rfl
theorem wk_X6_334 : Cond.constant RX6 334 (-1000007) ∈ TB := TB_6 (List.mem_of_getElem? (i := 36) rfl) rfl
theorem wm_L_169 : Cond.methodLink RL 169 yX6_write ∈ TB := TB_6 (List.mem_of_getElem? (i := 37) rfl) rfl
theorem wi_X6_write : Cond.instanceMethod yX6_write ∈ TB := TB_6 (List.mem_of_getElem? (i := 38) rfl) rfl
theorem wsel_X6_write : Cond.selects RX6 yX6_write yX6_write ∈ TB := TB_6 (List.mem_of_getElem? (i := 39) rfl) rfl
theorem wc_X6_write : Cond.code yX6_write cX6_write 5 (some .int) ∈ TB := TB_6 (List.mem_of_getElem? (i := 40) rfl) rfl
theorem wm_X6_335 : Cond.methodLink RX6 335 yX6_narrowed ∈ TB := TB_6 (List.mem_of_getElem? (i := 41) rfl) rfl
theorem wst_X6_narrowed : Cond.static yX6_narrowed ∈ TB := TB_6 (List.mem_of_getElem? (i := 42) rfl) rfl
theorem wc_X6_narrowed : Cond.code yX6_narrowed cX6_narrowed 2 (some .int) ∈ TB := TB_6 (List.mem_of_getElem? (i := 43) rfl) rfl
theorem wm_L_174 : Cond.methodLink RL 174 yX6_copy ∈ TB := TB_6 (List.mem_of_getElem? (i := 44) rfl) rfl
theorem wi_X6_copy : Cond.instanceMethod yX6_copy ∈ TB := TB_6 (List.mem_of_getElem? (i := 45) rfl) rfl
theorem wsel_X6_copy : Cond.selects RX6 yX6_copy yX6_copy ∈ TB := TB_6 (List.mem_of_getElem? (i := 46) rfl) rfl
theorem wc_X6_copy : Cond.code yX6_copy cX6_copy 7 (some .int) ∈ TB := TB_6 (List.mem_of_getElem? (i := 47) rfl) rfl
theorem wm_L_178 : Cond.methodLink RL 178 yX6_load ∈ TB := TB_6 (List.mem_of_getElem? (i := 48) rfl) rfl
theorem wi_X6_load : Cond.instanceMethod yX6_load ∈ TB := TB_6 (List.mem_of_getElem? (i := 49) rfl) rfl
theorem wsel_X6_load : Cond.selects RX6 yX6_load yX6_load ∈ TB := TB_6 (List.mem_of_getElem? (i := 50) rfl) rfl
theorem wc_X6_load : Cond.code yX6_load cX6_load 4 (some .int) ∈ TB := TB_6 (List.mem_of_getElem? (i := 51) rfl) rfl
theorem wm_L_182 : Cond.methodLink RL 182 yX6_judge ∈ TB := TB_6 (List.mem_of_getElem? (i := 52) rfl) rfl
theorem wi_X6_judge : Cond.instanceMethod yX6_judge ∈ TB := TB_6 (List.mem_of_getElem? (i := 53) rfl) rfl
theorem wsel_X6_judge : Cond.selects RX6 yX6_judge yX6_judge ∈ TB := TB_6 (List.mem_of_getElem? (i := 54) rfl) rfl
theorem wc_X6_judge : Cond.code yX6_judge cX6_judge 4 (some .int) ∈ TB := TB_6 (List.mem_of_getElem? (i := 55) rfl) rfl
theorem wm_L_186 : Cond.methodLink RL 186 yX6_image ∈ TB := TB_6 (List.mem_of_getElem? (i := 56) rfl) rfl
theorem wi_X6_image : Cond.instanceMethod yX6_image ∈ TB := TB_6 (List.mem_of_getElem? (i := 57) rfl) rfl
theorem wsel_X6_image : Cond.selects RX6 yX6_image yX6_image ∈ TB := TB_6 (List.mem_of_getElem? (i := 58) rfl) rfl
theorem wc_X6_image : Cond.code yX6_image cX6_image 2 (some .int) ∈ TB := TB_6 (List.mem_of_getElem? (i := 59) rfl) rfl
theorem wm_L_190 : Cond.methodLink RL 190 yX6_undo ∈ TB := TB_6 (List.mem_of_getElem? (i := 60) rfl) rfl
theorem wi_X6_undo : Cond.instanceMethod yX6_undo ∈ TB := TB_6 (List.mem_of_getElem? (i := 61) rfl) rfl
theorem wsel_X6_undo : Cond.selects RX6 yX6_undo yX6_undo ∈ TB := TB_6 (List.mem_of_getElem? (i := 62) rfl) rfl
theorem wc_X6_undo : Cond.code yX6_undo cX6_undo 2 (some .int) ∈ TB := TB_6 (List.mem_of_getElem? (i := 63) rfl) rfl
theorem wm_L_194 : Cond.methodLink RL 194 yX6_tear ∈ TB := TB_6 (List.mem_of_getElem? (i := 64) rfl) rfl
theorem wi_X6_tear : Cond.instanceMethod yX6_tear ∈ TB := TB_6 (List.mem_of_getElem? (i := 65) rfl) rfl
theorem wsel_X6_tear : Cond.selects RX6 yX6_tear yX6_tear ∈ TB := TB_6 (List.mem_of_getElem? (i := 66) rfl) rfl
theorem wc_X6_tear : Cond.code yX6_tear cX6_tear 2 (some .int) ∈ TB := TB_6 (List.mem_of_getElem? (i := 67) rfl) rfl
theorem wm_L_198 : Cond.methodLink RL 198 yX6_count ∈ TB := TB_6 (List.mem_of_getElem? (i := 68) rfl) rfl
theorem wi_X6_count : Cond.instanceMethod yX6_count ∈ TB := TB_6 (List.mem_of_getElem? (i := 69) rfl) rfl
theorem wsel_X6_count : Cond.selects RX6 yX6_count yX6_count ∈ TB := TB_6 (List.mem_of_getElem? (i := 70) rfl) rfl
theorem wc_X6_count : Cond.code yX6_count cX6_count 2 (some .int) ∈ TB := TB_6 (List.mem_of_getElem? (i := 71) rfl) rfl
theorem wm_X6_341 : Cond.methodLink RX6 341 yX6_heldSpots ∈ TB := TB_6 (List.mem_of_getElem? (i := 72) rfl) rfl
theorem wp_X6_heldSpots : Cond.privateMethod yX6_heldSpots ∈ lw_tbl := TT_6 (List.mem_of_getElem? (i := 73) rfl)
theorem wi_X6_heldSpots : Cond.instanceMethod yX6_heldSpots ∈ TB := TB_6 (List.mem_of_getElem? (i := 74) rfl) rfl
theorem wc_X6_heldSpots : Cond.code yX6_heldSpots cX6_heldSpots 3 (some .int) ∈ TB := TB_6 (List.mem_of_getElem? (i := 75) rfl) rfl
theorem wm_L_202 : Cond.methodLink RL 202 yX6_status ∈ TB := TB_6 (List.mem_of_getElem? (i := 76) rfl) rfl
theorem wi_X6_status : Cond.instanceMethod yX6_status ∈ TB := TB_6 (List.mem_of_getElem? (i := 77) rfl) rfl
theorem wsel_X6_status : Cond.selects RX6 yX6_status yX6_status ∈ TB := TB_6 (List.mem_of_getElem? (i := 78) rfl) rfl
theorem wc_X6_status : Cond.code yX6_status cX6_status 4 (some .int) ∈ TB := TB_6 (List.mem_of_getElem? (i := 79) rfl) rfl
theorem wk_X6_344 : Cond.constantLong RX6 344 (-1) ∈ TB := TB_6 (List.mem_of_getElem? (i := 80) rfl) rfl
theorem wf_J0_9 : Cond.fieldLink RJ0 9 "java/lang/String" "value" "[B" ∈ TB := TB_6 (List.mem_of_getElem? (i := 81) rfl) rfl
theorem wf_J0_15 : Cond.fieldLink RJ0 15 "java/lang/String" "coder" "B" ∈ TB := TB_6 (List.mem_of_getElem? (i := 82) rfl) rfl
theorem wsel_X5_finding : Cond.selects RX5 yX5_finding yX5_finding ∈ TB := TB_sel (List.mem_of_getElem? (i := 0) rfl) rfl
theorem wsel_X5_noWatcher : Cond.selects RX5 yX5_noWatcher yX5_noWatcher ∈ TB := TB_sel (List.mem_of_getElem? (i := 1) rfl) rfl
theorem wsel_X3_millBears : Cond.selects RX3 yX3_millBears yX3_millBears ∈ TB := TB_sel (List.mem_of_getElem? (i := 2) rfl) rfl
theorem wsel_X2_liveAll : Cond.selects RX2 yX2_liveAll yX2_liveAll ∈ TB := TB_sel (List.mem_of_getElem? (i := 3) rfl) rfl
theorem wsel_X5_waterTried : Cond.selects RX5 yX5_waterTried yX5_waterTried ∈ TB := TB_sel (List.mem_of_getElem? (i := 4) rfl) rfl
theorem wsel_X5_isEnough : Cond.selects RX5 yX5_isEnough yX5_isEnough ∈ TB := TB_sel (List.mem_of_getElem? (i := 5) rfl) rfl
theorem wsel_X5_noTrial : Cond.selects RX5 yX5_noTrial yX5_noTrial ∈ TB := TB_sel (List.mem_of_getElem? (i := 6) rfl) rfl
theorem wsel_X5_mostBelieving : Cond.selects RX5 yX5_mostBelieving yX5_mostBelieving ∈ TB := TB_sel (List.mem_of_getElem? (i := 7) rfl) rfl
theorem wsel_X5_stir : Cond.selects RX5 yX5_stir yX5_stir ∈ TB := TB_sel (List.mem_of_getElem? (i := 8) rfl) rfl
theorem wsel_X5_fittingTrouble : Cond.selects RX5 yX5_fittingTrouble yX5_fittingTrouble ∈ TB := TB_sel (List.mem_of_getElem? (i := 9) rfl) rfl
theorem wsel_X5_sheetTrouble : Cond.selects RX5 yX5_sheetTrouble yX5_sheetTrouble ∈ TB := TB_sel (List.mem_of_getElem? (i := 10) rfl) rfl
theorem wsel_X5_couldBeOpened : Cond.selects RX5 yX5_couldBeOpened yX5_couldBeOpened ∈ TB := TB_sel (List.mem_of_getElem? (i := 11) rfl) rfl
theorem wsel_X5_couldBeOfKind : Cond.selects RX5 yX5_couldBeOfKind yX5_couldBeOfKind ∈ TB := TB_sel (List.mem_of_getElem? (i := 12) rfl) rfl
theorem wsel_X0_advance : Cond.selects RX0 yX0_advance yX0_advance ∈ TB := TB_sel (List.mem_of_getElem? (i := 13) rfl) rfl
theorem wsel_X0_readItem : Cond.selects RX0 yX0_readItem yX0_readItem ∈ TB := TB_sel (List.mem_of_getElem? (i := 14) rfl) rfl
theorem wsel_X0_kindNamed : Cond.selects RX0 yX0_kindNamed yX0_kindNamed ∈ TB := TB_sel (List.mem_of_getElem? (i := 15) rfl) rfl
theorem wsel_X0_isWord : Cond.selects RX0 yX0_isWord yX0_isWord ∈ TB := TB_sel (List.mem_of_getElem? (i := 16) rfl) rfl
theorem wsel_X0_readWatcher : Cond.selects RX0 yX0_readWatcher yX0_readWatcher ∈ TB := TB_sel (List.mem_of_getElem? (i := 17) rfl) rfl
theorem wsel_X0_faultHere : Cond.selects RX0 yX0_faultHere yX0_faultHere ∈ TB := TB_sel (List.mem_of_getElem? (i := 18) rfl) rfl
theorem wsel_X0_takes : Cond.selects RX0 yX0_takes yX0_takes ∈ TB := TB_sel (List.mem_of_getElem? (i := 19) rfl) rfl
theorem wsel_X0_takeNumber : Cond.selects RX0 yX0_takeNumber yX0_takeNumber ∈ TB := TB_sel (List.mem_of_getElem? (i := 20) rfl) rfl
theorem wsel_X0_numberHere : Cond.selects RX0 yX0_numberHere yX0_numberHere ∈ TB := TB_sel (List.mem_of_getElem? (i := 21) rfl) rfl
theorem wsel_X0_readInto : Cond.selects RX0 yX0_readInto yX0_readInto ∈ TB := TB_sel (List.mem_of_getElem? (i := 22) rfl) rfl
theorem wsel_X0_readSteady : Cond.selects RX0 yX0_readSteady yX0_readSteady ∈ TB := TB_sel (List.mem_of_getElem? (i := 23) rfl) rfl
theorem wsel_X6_becomes : Cond.selects RX6 yX6_becomes yX6_becomes ∈ TB := TB_sel (List.mem_of_getElem? (i := 24) rfl) rfl
theorem wsel_X6_finds : Cond.selects RX6 yX6_finds yX6_finds ∈ TB := TB_sel (List.mem_of_getElem? (i := 25) rfl) rfl
theorem wsel_X6_openings : Cond.selects RX6 yX6_openings yX6_openings ∈ TB := TB_sel (List.mem_of_getElem? (i := 26) rfl) rfl
theorem wsel_X6_opensAll : Cond.selects RX6 yX6_opensAll yX6_opensAll ∈ TB := TB_sel (List.mem_of_getElem? (i := 27) rfl) rfl
theorem wsel_X6_adds : Cond.selects RX6 yX6_adds yX6_adds ∈ TB := TB_sel (List.mem_of_getElem? (i := 28) rfl) rfl
theorem wsel_X6_isWatcher : Cond.selects RX6 yX6_isWatcher yX6_isWatcher ∈ TB := TB_sel (List.mem_of_getElem? (i := 29) rfl) rfl
theorem wsel_X6_its : Cond.selects RX6 yX6_its yX6_its ∈ TB := TB_sel (List.mem_of_getElem? (i := 30) rfl) rfl
theorem wsel_X6_bears : Cond.selects RX6 yX6_bears yX6_bears ∈ TB := TB_sel (List.mem_of_getElem? (i := 31) rfl) rfl
theorem wsel_X6_doubts : Cond.selects RX6 yX6_doubts yX6_doubts ∈ TB := TB_sel (List.mem_of_getElem? (i := 32) rfl) rfl
theorem wsel_X6_trusts : Cond.selects RX6 yX6_trusts yX6_trusts ∈ TB := TB_sel (List.mem_of_getElem? (i := 33) rfl) rfl
theorem wsel_X6_goesOn : Cond.selects RX6 yX6_goesOn yX6_goesOn ∈ TB := TB_sel (List.mem_of_getElem? (i := 34) rfl) rfl
theorem wsel_X6_hour : Cond.selects RX6 yX6_hour yX6_hour ∈ TB := TB_sel (List.mem_of_getElem? (i := 35) rfl) rfl
theorem wsel_X6_flows : Cond.selects RX6 yX6_flows yX6_flows ∈ TB := TB_sel (List.mem_of_getElem? (i := 36) rfl) rfl
theorem wsel_X6_sees : Cond.selects RX6 yX6_sees yX6_sees ∈ TB := TB_sel (List.mem_of_getElem? (i := 37) rfl) rfl
theorem wsel_X6_there : Cond.selects RX6 yX6_there yX6_there ∈ TB := TB_sel (List.mem_of_getElem? (i := 38) rfl) rfl
theorem wsel_X6_knowing : Cond.selects RX6 yX6_knowing yX6_knowing ∈ TB := TB_sel (List.mem_of_getElem? (i := 39) rfl) rfl
theorem wsel_X6_levels : Cond.selects RX6 yX6_levels yX6_levels ∈ TB := TB_sel (List.mem_of_getElem? (i := 40) rfl) rfl
theorem wsel_X6_wanting : Cond.selects RX6 yX6_wanting yX6_wanting ∈ TB := TB_sel (List.mem_of_getElem? (i := 41) rfl) rfl
theorem wsel_X6_beliefs : Cond.selects RX6 yX6_beliefs yX6_beliefs ∈ TB := TB_sel (List.mem_of_getElem? (i := 42) rfl) rfl
theorem wsel_X6_behind : Cond.selects RX6 yX6_behind yX6_behind ∈ TB := TB_sel (List.mem_of_getElem? (i := 43) rfl) rfl
theorem wsel_X6_laysAside : Cond.selects RX6 yX6_laysAside yX6_laysAside ∈ TB := TB_sel (List.mem_of_getElem? (i := 44) rfl) rfl
theorem wsel_X6_takesBack : Cond.selects RX6 yX6_takesBack yX6_takesBack ∈ TB := TB_sel (List.mem_of_getElem? (i := 45) rfl) rfl
theorem wsel_X6_until : Cond.selects RX6 yX6_until yX6_until ∈ TB := TB_sel (List.mem_of_getElem? (i := 46) rfl) rfl
theorem wsel_X6_orNone : Cond.selects RX6 yX6_orNone yX6_orNone ∈ TB := TB_sel (List.mem_of_getElem? (i := 47) rfl) rfl
theorem wsel_X6_leastOf : Cond.selects RX6 yX6_leastOf yX6_leastOf ∈ TB := TB_sel (List.mem_of_getElem? (i := 48) rfl) rfl
theorem wsel_X6_mostBelief : Cond.selects RX6 yX6_mostBelief yX6_mostBelief ∈ TB := TB_sel (List.mem_of_getElem? (i := 49) rfl) rfl
theorem wsel_X6_wrongOpened : Cond.selects RX6 yX6_wrongOpened yX6_wrongOpened ∈ TB := TB_sel (List.mem_of_getElem? (i := 50) rfl) rfl
theorem wsel_X6_wrong : Cond.selects RX6 yX6_wrong yX6_wrong ∈ TB := TB_sel (List.mem_of_getElem? (i := 51) rfl) rfl
theorem wsel_X6_findOpened : Cond.selects RX6 yX6_findOpened yX6_findOpened ∈ TB := TB_sel (List.mem_of_getElem? (i := 52) rfl) rfl
theorem wsel_X6_isTold : Cond.selects RX6 yX6_isTold yX6_isTold ∈ TB := TB_sel (List.mem_of_getElem? (i := 53) rfl) rfl
theorem wsel_X6_draw : Cond.selects RX6 yX6_draw yX6_draw ∈ TB := TB_sel (List.mem_of_getElem? (i := 54) rfl) rfl
theorem wsel_X6_saves : Cond.selects RX6 yX6_saves yX6_saves ∈ TB := TB_sel (List.mem_of_getElem? (i := 55) rfl) rfl
theorem wsel_X6_token : Cond.selects RX6 yX6_token yX6_token ∈ TB := TB_sel (List.mem_of_getElem? (i := 56) rfl) rfl
theorem wsel_X6_byteAt : Cond.selects RX6 yX6_byteAt yX6_byteAt ∈ TB := TB_sel (List.mem_of_getElem? (i := 57) rfl) rfl
theorem wsel_X6_item : Cond.selects RX6 yX6_item yX6_item ∈ TB := TB_sel (List.mem_of_getElem? (i := 58) rfl) rfl
theorem wsel_X6_kindHere : Cond.selects RX6 yX6_kindHere yX6_kindHere ∈ TB := TB_sel (List.mem_of_getElem? (i := 59) rfl) rfl
theorem wsel_X6_word : Cond.selects RX6 yX6_word yX6_word ∈ TB := TB_sel (List.mem_of_getElem? (i := 60) rfl) rfl
theorem wsel_X6_watcherItem : Cond.selects RX6 yX6_watcherItem yX6_watcherItem ∈ TB := TB_sel (List.mem_of_getElem? (i := 61) rfl) rfl
theorem wsel_X6_must : Cond.selects RX6 yX6_must yX6_must ∈ TB := TB_sel (List.mem_of_getElem? (i := 62) rfl) rfl
theorem wsel_X6_perhaps : Cond.selects RX6 yX6_perhaps yX6_perhaps ∈ TB := TB_sel (List.mem_of_getElem? (i := 63) rfl) rfl
theorem wsel_X6_number : Cond.selects RX6 yX6_number yX6_number ∈ TB := TB_sel (List.mem_of_getElem? (i := 64) rfl) rfl
theorem wsel_X6_rowItem : Cond.selects RX6 yX6_rowItem yX6_rowItem ∈ TB := TB_sel (List.mem_of_getElem? (i := 65) rfl) rfl
theorem wsel_X6_putsBack : Cond.selects RX6 yX6_putsBack yX6_putsBack ∈ TB := TB_sel (List.mem_of_getElem? (i := 66) rfl) rfl
theorem wsel_X6_heldSpots : Cond.selects RX6 yX6_heldSpots yX6_heldSpots ∈ TB := TB_sel (List.mem_of_getElem? (i := 67) rfl) rfl
theorem inw_X0 : ∀ w ∈ u_ws RX0 TX0 6, w ∈ TB := List.forall_mem_cons.mpr ⟨wl_X0_tape, List.forall_mem_cons.mpr ⟨wl_X0_length, List.forall_mem_cons.mpr ⟨wl_X0_fault, List.forall_mem_cons.mpr ⟨wl_X0_token, List.forall_mem_cons.mpr ⟨wl_X0_start, List.forall_mem_cons.mpr ⟨wl_X0_end, fun _ h => absurd h List.not_mem_nil⟩⟩⟩⟩⟩⟩
theorem inw_X1 : ∀ w ∈ u_ws RX1 TX1 3, w ∈ TB := List.forall_mem_cons.mpr ⟨wl_X1_numbers, List.forall_mem_cons.mpr ⟨wl_X1_bits, List.forall_mem_cons.mpr ⟨wl_X1_size, fun _ h => absurd h List.not_mem_nil⟩⟩⟩
theorem inw_X2 : ∀ w ∈ u_ws RX2 TX2 5, w ∈ TB := List.forall_mem_cons.mpr ⟨wl_X2_water, List.forall_mem_cons.mpr ⟨wl_X2_watchers, List.forall_mem_cons.mpr ⟨wl_X2_spots, List.forall_mem_cons.mpr ⟨wl_X2_settled, List.forall_mem_cons.mpr ⟨wl_X2_z, fun _ h => absurd h List.not_mem_nil⟩⟩⟩⟩⟩
theorem inw_X3 : ∀ w ∈ u_ws RX3 TX3 5, w ∈ TB := List.forall_mem_cons.mpr ⟨wl_X3_kind, List.forall_mem_cons.mpr ⟨wl_X3_cell, List.forall_mem_cons.mpr ⟨wl_X3_want, List.forall_mem_cons.mpr ⟨wl_X3_belief, List.forall_mem_cons.mpr ⟨wl_X3_thirst, fun _ h => absurd h List.not_mem_nil⟩⟩⟩⟩⟩
theorem inw_X4 : ∀ w ∈ u_ws RX4 TX4 5, w ∈ TB := List.forall_mem_cons.mpr ⟨wl_X4_levels, List.forall_mem_cons.mpr ⟨wl_X4_before, List.forall_mem_cons.mpr ⟨wl_X4_openings, List.forall_mem_cons.mpr ⟨wl_X4_sea, List.forall_mem_cons.mpr ⟨wl_X4_hour, fun _ h => absurd h List.not_mem_nil⟩⟩⟩⟩⟩
theorem inw_X5 : ∀ w ∈ u_ws RX5 TX5 9, w ∈ TB := List.forall_mem_cons.mpr ⟨wl_X5_valley, List.forall_mem_cons.mpr ⟨wl_X5_kept, List.forall_mem_cons.mpr ⟨wl_X5_trial, List.forall_mem_cons.mpr ⟨wl_X5_asleep, List.forall_mem_cons.mpr ⟨wl_X5_stirred, List.forall_mem_cons.mpr ⟨wl_X5_sheets, List.forall_mem_cons.mpr ⟨wl_X5_reader, List.forall_mem_cons.mpr ⟨wl_X5_findings, List.forall_mem_cons.mpr ⟨wl_X5_isKept, fun _ h => absurd h List.not_mem_nil⟩⟩⟩⟩⟩⟩⟩⟩⟩
theorem inw_X6 : ∀ w ∈ u_ws RX6 TX6 22, w ∈ TB := List.forall_mem_cons.mpr ⟨wl_X6_s, List.forall_mem_cons.mpr ⟨wl_X6_keptS, List.forall_mem_cons.mpr ⟨wl_X6_other, List.forall_mem_cons.mpr ⟨wl_X6_aside, List.forall_mem_cons.mpr ⟨wl_X6_statuses, List.forall_mem_cons.mpr ⟨wl_X6_isKept, List.forall_mem_cons.mpr ⟨wl_X6_isShut, List.forall_mem_cons.mpr ⟨wl_X6_was, List.forall_mem_cons.mpr ⟨wl_X6_greatest, List.forall_mem_cons.mpr ⟨wl_X6_changes, List.forall_mem_cons.mpr ⟨wl_X6_leastOpened, List.forall_mem_cons.mpr ⟨wl_X6_manyOpened, List.forall_mem_cons.mpr ⟨wl_X6_tape, List.forall_mem_cons.mpr ⟨wl_X6_taped, List.forall_mem_cons.mpr ⟨wl_X6_from, List.forall_mem_cons.mpr ⟨wl_X6_to, List.forall_mem_cons.mpr ⟨wl_X6_value, List.forall_mem_cons.mpr ⟨wl_X6_isWrong, List.forall_mem_cons.mpr ⟨wl_X6_bitsOf, List.forall_mem_cons.mpr ⟨wl_X6_sizeOf, List.forall_mem_cons.mpr ⟨wl_X6_numbers, List.forall_mem_cons.mpr ⟨wl_X6_moved, fun _ h => absurd h List.not_mem_nil⟩⟩⟩⟩⟩⟩⟩⟩⟩⟩⟩⟩⟩⟩⟩⟩⟩⟩⟩⟩⟩⟩
end
