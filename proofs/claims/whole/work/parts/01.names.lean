-- ===== PART A: goes FIRST, ahead of the names: the tables' words, and 'selects' of the private methods out of them =====
/-- a private method of a class that the tables say can be made, by its rows of tables_1 -/
def lw_okq (q : MethodName × Nat) : Prop := (q.1.cls ≠ "java/lang/invoke/MethodHandle" ∧ q.1.cls ≠ "java/lang/invoke/VarHandle") ∧ Cond.instantiable q.1.cls q.2 ∈ tables_1 ∧ Cond.privateMethod q.1 ∈ tables_1 ∧ Cond.instanceMethod q.1 ∈ tables_1
theorem lw_p0 : lw_okq (⟨"MillOfDistances", "shelfAt", "(I)LMillOfDistances$Shelf;"⟩, 10) := ⟨⟨by decide +kernel, by decide +kernel⟩, List.mem_of_getElem? (i := 17) (by decide +kernel), List.mem_of_getElem? (i := 180) (by decide +kernel), List.mem_of_getElem? (i := 181) (by decide +kernel)⟩
theorem lw_p1 : lw_okq (⟨"MillOfDistances", "refuse", "(I)I"⟩, 10) := ⟨⟨by decide +kernel, by decide +kernel⟩, List.mem_of_getElem? (i := 17) (by decide +kernel), List.mem_of_getElem? (i := 184) (by decide +kernel), List.mem_of_getElem? (i := 185) (by decide +kernel)⟩
theorem lw_p2 : lw_okq (⟨"MillOfDistances$Shelf", "kept", "(J)J"⟩, 4) := ⟨⟨by decide +kernel, by decide +kernel⟩, List.mem_of_getElem? (i := 120) (by decide +kernel), List.mem_of_getElem? (i := 219) (by decide +kernel), List.mem_of_getElem? (i := 220) (by decide +kernel)⟩
theorem lw_p3 : lw_okq (⟨"MillOfDistances", "refuseBelowTen", "(I)I"⟩, 10) := ⟨⟨by decide +kernel, by decide +kernel⟩, List.mem_of_getElem? (i := 17) (by decide +kernel), List.mem_of_getElem? (i := 327) (by decide +kernel), List.mem_of_getElem? (i := 328) (by decide +kernel)⟩
theorem lw_p4 : lw_okq (⟨"MillOfDistances$MapReader", "readItem", "(LMillOfDistances$Shelf;LMillOfDistances$Land;)Z"⟩, 4) := ⟨⟨by decide +kernel, by decide +kernel⟩, List.mem_of_getElem? (i := 78) (by decide +kernel), List.mem_of_getElem? (i := 349) (by decide +kernel), List.mem_of_getElem? (i := 350) (by decide +kernel)⟩
theorem lw_p5 : lw_okq (⟨"MillOfDistances$MapReader", "readWord", "(LMillOfDistances$Shelf;)I"⟩, 4) := ⟨⟨by decide +kernel, by decide +kernel⟩, List.mem_of_getElem? (i := 78) (by decide +kernel), List.mem_of_getElem? (i := 353) (by decide +kernel), List.mem_of_getElem? (i := 354) (by decide +kernel)⟩
theorem lw_p6 : lw_okq (⟨"MillOfDistances$MapReader", "sameLetters", "(LMillOfDistances$Shelf;Ljava/lang/String;)I"⟩, 4) := ⟨⟨by decide +kernel, by decide +kernel⟩, List.mem_of_getElem? (i := 78) (by decide +kernel), List.mem_of_getElem? (i := 369) (by decide +kernel), List.mem_of_getElem? (i := 370) (by decide +kernel)⟩
theorem lw_p7 : lw_okq (⟨"MillOfDistances$MapReader", "readNumber", "(LMillOfDistances$Shelf;I)Z"⟩, 4) := ⟨⟨by decide +kernel, by decide +kernel⟩, List.mem_of_getElem? (i := 78) (by decide +kernel), List.mem_of_getElem? (i := 429) (by decide +kernel), List.mem_of_getElem? (i := 430) (by decide +kernel)⟩
theorem lw_p8 : lw_okq (⟨"MillOfDistances$MapReader", "stands", "(IILMillOfDistances$Land;)Z"⟩, 4) := ⟨⟨by decide +kernel, by decide +kernel⟩, List.mem_of_getElem? (i := 78) (by decide +kernel), List.mem_of_getElem? (i := 436) (by decide +kernel), List.mem_of_getElem? (i := 437) (by decide +kernel)⟩
theorem lw_p9 : lw_okq (⟨"MillOfDistances$MapReader", "tell", "(ILMillOfDistances$Land;)V"⟩, 4) := ⟨⟨by decide +kernel, by decide +kernel⟩, List.mem_of_getElem? (i := 78) (by decide +kernel), List.mem_of_getElem? (i := 456) (by decide +kernel), List.mem_of_getElem? (i := 457) (by decide +kernel)⟩
theorem lw_p10 : lw_okq (⟨"MillOfDistances", "roadProblem", "(II)I"⟩, 10) := ⟨⟨by decide +kernel, by decide +kernel⟩, List.mem_of_getElem? (i := 17) (by decide +kernel), List.mem_of_getElem? (i := 494) (by decide +kernel), List.mem_of_getElem? (i := 495) (by decide +kernel)⟩
theorem lw_p11 : lw_okq (⟨"MillOfDistances$Lengths", "takeRoads", "(LMillOfDistances$Land;)V"⟩, 2) := ⟨⟨by decide +kernel, by decide +kernel⟩, List.mem_of_getElem? (i := 63) (by decide +kernel), List.mem_of_getElem? (i := 507) (by decide +kernel), List.mem_of_getElem? (i := 508) (by decide +kernel)⟩
theorem lw_p12 : lw_okq (⟨"MillOfDistances$Lengths", "note", "(III)V"⟩, 2) := ⟨⟨by decide +kernel, by decide +kernel⟩, List.mem_of_getElem? (i := 63) (by decide +kernel), List.mem_of_getElem? (i := 511) (by decide +kernel), List.mem_of_getElem? (i := 512) (by decide +kernel)⟩
theorem lw_p13 : lw_okq (⟨"MillOfDistances$Lengths", "isInside", "(II)Z"⟩, 2) := ⟨⟨by decide +kernel, by decide +kernel⟩, List.mem_of_getElem? (i := 63) (by decide +kernel), List.mem_of_getElem? (i := 515) (by decide +kernel), List.mem_of_getElem? (i := 516) (by decide +kernel)⟩
theorem lw_p14 : lw_okq (⟨"MillOfDistances$Lengths", "close", "()V"⟩, 2) := ⟨⟨by decide +kernel, by decide +kernel⟩, List.mem_of_getElem? (i := 63) (by decide +kernel), List.mem_of_getElem? (i := 520) (by decide +kernel), List.mem_of_getElem? (i := 521) (by decide +kernel)⟩
theorem lw_p15 : lw_okq (⟨"MillOfDistances$Land", "leastMilesFrom", "(II)I"⟩, 7) := ⟨⟨by decide +kernel, by decide +kernel⟩, List.mem_of_getElem? (i := 25) (by decide +kernel), List.mem_of_getElem? (i := 562) (by decide +kernel), List.mem_of_getElem? (i := 563) (by decide +kernel)⟩
def lw_privs_1 : List (MethodName × Nat) := [(⟨"MillOfDistances", "shelfAt", "(I)LMillOfDistances$Shelf;"⟩, 10), (⟨"MillOfDistances", "refuse", "(I)I"⟩, 10), (⟨"MillOfDistances$Shelf", "kept", "(J)J"⟩, 4), (⟨"MillOfDistances", "refuseBelowTen", "(I)I"⟩, 10), (⟨"MillOfDistances$MapReader", "readItem", "(LMillOfDistances$Shelf;LMillOfDistances$Land;)Z"⟩, 4), (⟨"MillOfDistances$MapReader", "readWord", "(LMillOfDistances$Shelf;)I"⟩, 4), (⟨"MillOfDistances$MapReader", "sameLetters", "(LMillOfDistances$Shelf;Ljava/lang/String;)I"⟩, 4), (⟨"MillOfDistances$MapReader", "readNumber", "(LMillOfDistances$Shelf;I)Z"⟩, 4), (⟨"MillOfDistances$MapReader", "stands", "(IILMillOfDistances$Land;)Z"⟩, 4), (⟨"MillOfDistances$MapReader", "tell", "(ILMillOfDistances$Land;)V"⟩, 4), (⟨"MillOfDistances", "roadProblem", "(II)I"⟩, 10), (⟨"MillOfDistances$Lengths", "takeRoads", "(LMillOfDistances$Land;)V"⟩, 2), (⟨"MillOfDistances$Lengths", "note", "(III)V"⟩, 2), (⟨"MillOfDistances$Lengths", "isInside", "(II)Z"⟩, 2), (⟨"MillOfDistances$Lengths", "close", "()V"⟩, 2), (⟨"MillOfDistances$Land", "leastMilesFrom", "(II)I"⟩, 7)]
theorem lw_r1 : ∀ q ∈ lw_privs_1, lw_okq q := List.forall_mem_cons.mpr ⟨lw_p0, List.forall_mem_cons.mpr ⟨lw_p1, List.forall_mem_cons.mpr ⟨lw_p2, List.forall_mem_cons.mpr ⟨lw_p3, List.forall_mem_cons.mpr ⟨lw_p4, List.forall_mem_cons.mpr ⟨lw_p5, List.forall_mem_cons.mpr ⟨lw_p6, List.forall_mem_cons.mpr ⟨lw_p7, List.forall_mem_cons.mpr ⟨lw_p8, List.forall_mem_cons.mpr ⟨lw_p9, List.forall_mem_cons.mpr ⟨lw_p10, List.forall_mem_cons.mpr ⟨lw_p11, List.forall_mem_cons.mpr ⟨lw_p12, List.forall_mem_cons.mpr ⟨lw_p13, List.forall_mem_cons.mpr ⟨lw_p14, List.forall_mem_cons.mpr ⟨lw_p15, fun _ h => absurd h List.not_mem_nil⟩⟩⟩⟩⟩⟩⟩⟩⟩⟩⟩⟩⟩⟩⟩⟩
theorem lw_p16 : lw_okq (⟨"MillOfDistances", "cheapestPinch", "(IIII)I"⟩, 10) := ⟨⟨by decide +kernel, by decide +kernel⟩, List.mem_of_getElem? (i := 17) (by decide +kernel), List.mem_of_getElem? (i := 602) (by decide +kernel), List.mem_of_getElem? (i := 603) (by decide +kernel)⟩
theorem lw_p17 : lw_okq (⟨"MillOfDistances", "canBeWalkedBy", "(LMillOfDistances$Shelf;I)Z"⟩, 10) := ⟨⟨by decide +kernel, by decide +kernel⟩, List.mem_of_getElem? (i := 17) (by decide +kernel), List.mem_of_getElem? (i := 622) (by decide +kernel), List.mem_of_getElem? (i := 623) (by decide +kernel)⟩
theorem lw_p18 : lw_okq (⟨"MillOfDistances", "walk", "(IILMillOfDistances$Shelf;I)I"⟩, 10) := ⟨⟨by decide +kernel, by decide +kernel⟩, List.mem_of_getElem? (i := 17) (by decide +kernel), List.mem_of_getElem? (i := 627) (by decide +kernel), List.mem_of_getElem? (i := 628) (by decide +kernel)⟩
theorem lw_p19 : lw_okq (⟨"MillOfDistances", "tableProblem", "(LMillOfDistances$Shelf;)I"⟩, 10) := ⟨⟨by decide +kernel, by decide +kernel⟩, List.mem_of_getElem? (i := 17) (by decide +kernel), List.mem_of_getElem? (i := 646) (by decide +kernel), List.mem_of_getElem? (i := 647) (by decide +kernel)⟩
theorem lw_p20 : lw_okq (⟨"MillOfDistances", "isWrongInTable", "(LMillOfDistances$Shelf;II)Z"⟩, 10) := ⟨⟨by decide +kernel, by decide +kernel⟩, List.mem_of_getElem? (i := 17) (by decide +kernel), List.mem_of_getElem? (i := 653) (by decide +kernel), List.mem_of_getElem? (i := 654) (by decide +kernel)⟩
theorem lw_p21 : lw_okq (⟨"MillOfDistances", "firstWrongPinch", "(LMillOfDistances$Shelf;I)I"⟩, 10) := ⟨⟨by decide +kernel, by decide +kernel⟩, List.mem_of_getElem? (i := 17) (by decide +kernel), List.mem_of_getElem? (i := 678) (by decide +kernel), List.mem_of_getElem? (i := 679) (by decide +kernel)⟩
theorem lw_p22 : lw_okq (⟨"MillOfDistances", "stolenOn", "(LMillOfDistances$Shelf;II)I"⟩, 10) := ⟨⟨by decide +kernel, by decide +kernel⟩, List.mem_of_getElem? (i := 17) (by decide +kernel), List.mem_of_getElem? (i := 696) (by decide +kernel), List.mem_of_getElem? (i := 697) (by decide +kernel)⟩
theorem lw_p23 : lw_okq (⟨"MillOfDistances", "isTheft", "(LMillOfDistances$Shelf;III)Z"⟩, 10) := ⟨⟨by decide +kernel, by decide +kernel⟩, List.mem_of_getElem? (i := 17) (by decide +kernel), List.mem_of_getElem? (i := 700) (by decide +kernel), List.mem_of_getElem? (i := 701) (by decide +kernel)⟩
theorem lw_p24 : lw_okq (⟨"MillOfDistances$Doer", "noteBody", "(I)V"⟩, 5) := ⟨⟨by decide +kernel, by decide +kernel⟩, List.mem_of_getElem? (i := 98) (by decide +kernel), List.mem_of_getElem? (i := 756) (by decide +kernel), List.mem_of_getElem? (i := 757) (by decide +kernel)⟩
theorem lw_p25 : lw_okq (⟨"MillOfDistancesModel", "no", "(I)I"⟩, 22) := ⟨⟨by decide +kernel, by decide +kernel⟩, List.mem_of_getElem? (i := 791) (by decide +kernel), List.mem_of_getElem? (i := 871) (by decide +kernel), List.mem_of_getElem? (i := 872) (by decide +kernel)⟩
theorem lw_p26 : lw_okq (⟨"MillOfDistancesModel", "noRow", "(I)I"⟩, 22) := ⟨⟨by decide +kernel, by decide +kernel⟩, List.mem_of_getElem? (i := 791) (by decide +kernel), List.mem_of_getElem? (i := 879) (by decide +kernel), List.mem_of_getElem? (i := 880) (by decide +kernel)⟩
theorem lw_p27 : lw_okq (⟨"MillOfDistancesModel", "isRow", "(I)Z"⟩, 22) := ⟨⟨by decide +kernel, by decide +kernel⟩, List.mem_of_getElem? (i := 791) (by decide +kernel), List.mem_of_getElem? (i := 883) (by decide +kernel), List.mem_of_getElem? (i := 884) (by decide +kernel)⟩
theorem lw_p28 : lw_okq (⟨"MillOfDistancesModel", "isPlace", "(I)Z"⟩, 22) := ⟨⟨by decide +kernel, by decide +kernel⟩, List.mem_of_getElem? (i := 791) (by decide +kernel), List.mem_of_getElem? (i := 899) (by decide +kernel), List.mem_of_getElem? (i := 900) (by decide +kernel)⟩
theorem lw_p29 : lw_okq (⟨"MillOfDistancesModel", "roads", "(I)I"⟩, 22) := ⟨⟨by decide +kernel, by decide +kernel⟩, List.mem_of_getElem? (i := 791) (by decide +kernel), List.mem_of_getElem? (i := 917) (by decide +kernel), List.mem_of_getElem? (i := 918) (by decide +kernel)⟩
theorem lw_p30 : lw_okq (⟨"MillOfDistancesModel", "asks", "(II)I"⟩, 22) := ⟨⟨by decide +kernel, by decide +kernel⟩, List.mem_of_getElem? (i := 791) (by decide +kernel), List.mem_of_getElem? (i := 922) (by decide +kernel), List.mem_of_getElem? (i := 923) (by decide +kernel)⟩
theorem lw_p31 : lw_okq (⟨"MillOfDistancesModel", "newPlace", "(II)I"⟩, 22) := ⟨⟨by decide +kernel, by decide +kernel⟩, List.mem_of_getElem? (i := 791) (by decide +kernel), List.mem_of_getElem? (i := 931) (by decide +kernel), List.mem_of_getElem? (i := 932) (by decide +kernel)⟩
def lw_privs_2 : List (MethodName × Nat) := [(⟨"MillOfDistances", "cheapestPinch", "(IIII)I"⟩, 10), (⟨"MillOfDistances", "canBeWalkedBy", "(LMillOfDistances$Shelf;I)Z"⟩, 10), (⟨"MillOfDistances", "walk", "(IILMillOfDistances$Shelf;I)I"⟩, 10), (⟨"MillOfDistances", "tableProblem", "(LMillOfDistances$Shelf;)I"⟩, 10), (⟨"MillOfDistances", "isWrongInTable", "(LMillOfDistances$Shelf;II)Z"⟩, 10), (⟨"MillOfDistances", "firstWrongPinch", "(LMillOfDistances$Shelf;I)I"⟩, 10), (⟨"MillOfDistances", "stolenOn", "(LMillOfDistances$Shelf;II)I"⟩, 10), (⟨"MillOfDistances", "isTheft", "(LMillOfDistances$Shelf;III)Z"⟩, 10), (⟨"MillOfDistances$Doer", "noteBody", "(I)V"⟩, 5), (⟨"MillOfDistancesModel", "no", "(I)I"⟩, 22), (⟨"MillOfDistancesModel", "noRow", "(I)I"⟩, 22), (⟨"MillOfDistancesModel", "isRow", "(I)Z"⟩, 22), (⟨"MillOfDistancesModel", "isPlace", "(I)Z"⟩, 22), (⟨"MillOfDistancesModel", "roads", "(I)I"⟩, 22), (⟨"MillOfDistancesModel", "asks", "(II)I"⟩, 22), (⟨"MillOfDistancesModel", "newPlace", "(II)I"⟩, 22)]
theorem lw_r2 : ∀ q ∈ lw_privs_2, lw_okq q := List.forall_mem_cons.mpr ⟨lw_p16, List.forall_mem_cons.mpr ⟨lw_p17, List.forall_mem_cons.mpr ⟨lw_p18, List.forall_mem_cons.mpr ⟨lw_p19, List.forall_mem_cons.mpr ⟨lw_p20, List.forall_mem_cons.mpr ⟨lw_p21, List.forall_mem_cons.mpr ⟨lw_p22, List.forall_mem_cons.mpr ⟨lw_p23, List.forall_mem_cons.mpr ⟨lw_p24, List.forall_mem_cons.mpr ⟨lw_p25, List.forall_mem_cons.mpr ⟨lw_p26, List.forall_mem_cons.mpr ⟨lw_p27, List.forall_mem_cons.mpr ⟨lw_p28, List.forall_mem_cons.mpr ⟨lw_p29, List.forall_mem_cons.mpr ⟨lw_p30, List.forall_mem_cons.mpr ⟨lw_p31, fun _ h => absurd h List.not_mem_nil⟩⟩⟩⟩⟩⟩⟩⟩⟩⟩⟩⟩⟩⟩⟩⟩
theorem lw_p32 : lw_okq (⟨"MillOfDistancesModel", "lay", "(III)I"⟩, 22) := ⟨⟨by decide +kernel, by decide +kernel⟩, List.mem_of_getElem? (i := 791) (by decide +kernel), List.mem_of_getElem? (i := 943) (by decide +kernel), List.mem_of_getElem? (i := 944) (by decide +kernel)⟩
theorem lw_p33 : lw_okq (⟨"MillOfDistancesModel", "no10", "(I)I"⟩, 22) := ⟨⟨by decide +kernel, by decide +kernel⟩, List.mem_of_getElem? (i := 791) (by decide +kernel), List.mem_of_getElem? (i := 951) (by decide +kernel), List.mem_of_getElem? (i := 952) (by decide +kernel)⟩
theorem lw_p34 : lw_okq (⟨"MillOfDistancesModel", "keep", "([I)V"⟩, 22) := ⟨⟨by decide +kernel, by decide +kernel⟩, List.mem_of_getElem? (i := 791) (by decide +kernel), List.mem_of_getElem? (i := 964) (by decide +kernel), List.mem_of_getElem? (i := 965) (by decide +kernel)⟩
theorem lw_p35 : lw_okq (⟨"MillOfDistancesModel", "item", "()Z"⟩, 22) := ⟨⟨by decide +kernel, by decide +kernel⟩, List.mem_of_getElem? (i := 791) (by decide +kernel), List.mem_of_getElem? (i := 968) (by decide +kernel), List.mem_of_getElem? (i := 969) (by decide +kernel)⟩
theorem lw_p36 : lw_okq (⟨"MillOfDistancesModel", "sign", "()I"⟩, 22) := ⟨⟨by decide +kernel, by decide +kernel⟩, List.mem_of_getElem? (i := 791) (by decide +kernel), List.mem_of_getElem? (i := 972) (by decide +kernel), List.mem_of_getElem? (i := 973) (by decide +kernel)⟩
theorem lw_p37 : lw_okq (⟨"MillOfDistancesModel", "word", "(Ljava/lang/String;Z)Z"⟩, 22) := ⟨⟨by decide +kernel, by decide +kernel⟩, List.mem_of_getElem? (i := 791) (by decide +kernel), List.mem_of_getElem? (i := 977) (by decide +kernel), List.mem_of_getElem? (i := 978) (by decide +kernel)⟩
theorem lw_p38 : lw_okq (⟨"MillOfDistancesModel", "word", "(Ljava/lang/String;)Z"⟩, 22) := ⟨⟨by decide +kernel, by decide +kernel⟩, List.mem_of_getElem? (i := 791) (by decide +kernel), List.mem_of_getElem? (i := 981) (by decide +kernel), List.mem_of_getElem? (i := 982) (by decide +kernel)⟩
theorem lw_p39 : lw_okq (⟨"MillOfDistancesModel", "is", "(C)Z"⟩, 22) := ⟨⟨by decide +kernel, by decide +kernel⟩, List.mem_of_getElem? (i := 791) (by decide +kernel), List.mem_of_getElem? (i := 987) (by decide +kernel), List.mem_of_getElem? (i := 988) (by decide +kernel)⟩
theorem lw_p40 : lw_okq (⟨"MillOfDistancesModel", "number", "(III)Z"⟩, 22) := ⟨⟨by decide +kernel, by decide +kernel⟩, List.mem_of_getElem? (i := 791) (by decide +kernel), List.mem_of_getElem? (i := 991) (by decide +kernel), List.mem_of_getElem? (i := 992) (by decide +kernel)⟩
theorem lw_p41 : lw_okq (⟨"MillOfDistancesModel", "two", "(Z)Z"⟩, 22) := ⟨⟨by decide +kernel, by decide +kernel⟩, List.mem_of_getElem? (i := 791) (by decide +kernel), List.mem_of_getElem? (i := 996) (by decide +kernel), List.mem_of_getElem? (i := 997) (by decide +kernel)⟩
theorem lw_p42 : lw_okq (⟨"MillOfDistancesModel", "mills", "(II)V"⟩, 22) := ⟨⟨by decide +kernel, by decide +kernel⟩, List.mem_of_getElem? (i := 791) (by decide +kernel), List.mem_of_getElem? (i := 1001) (by decide +kernel), List.mem_of_getElem? (i := 1002) (by decide +kernel)⟩
theorem lw_p43 : lw_okq (⟨"MillOfDistancesModel", "yieldOf", "(II)I"⟩, 22) := ⟨⟨by decide +kernel, by decide +kernel⟩, List.mem_of_getElem? (i := 791) (by decide +kernel), List.mem_of_getElem? (i := 1005) (by decide +kernel), List.mem_of_getElem? (i := 1006) (by decide +kernel)⟩
theorem lw_p44 : lw_okq (⟨"MillOfDistancesModel", "may", "(III)Z"⟩, 22) := ⟨⟨by decide +kernel, by decide +kernel⟩, List.mem_of_getElem? (i := 791) (by decide +kernel), List.mem_of_getElem? (i := 1013) (by decide +kernel), List.mem_of_getElem? (i := 1014) (by decide +kernel)⟩
theorem lw_p45 : lw_okq (⟨"MillOfDistancesModel", "noRoad", "(II)Z"⟩, 22) := ⟨⟨by decide +kernel, by decide +kernel⟩, List.mem_of_getElem? (i := 791) (by decide +kernel), List.mem_of_getElem? (i := 1017) (by decide +kernel), List.mem_of_getElem? (i := 1018) (by decide +kernel)⟩
theorem lw_p46 : lw_okq (⟨"MillOfDistancesModel", "costs", "(III)I"⟩, 22) := ⟨⟨by decide +kernel, by decide +kernel⟩, List.mem_of_getElem? (i := 791) (by decide +kernel), List.mem_of_getElem? (i := 1022) (by decide +kernel), List.mem_of_getElem? (i := 1023) (by decide +kernel)⟩
theorem lw_p47 : lw_okq (⟨"MillOfDistancesModel", "pinch", "(III)V"⟩, 22) := ⟨⟨by decide +kernel, by decide +kernel⟩, List.mem_of_getElem? (i := 791) (by decide +kernel), List.mem_of_getElem? (i := 1026) (by decide +kernel), List.mem_of_getElem? (i := 1027) (by decide +kernel)⟩
def lw_privs_3 : List (MethodName × Nat) := [(⟨"MillOfDistancesModel", "lay", "(III)I"⟩, 22), (⟨"MillOfDistancesModel", "no10", "(I)I"⟩, 22), (⟨"MillOfDistancesModel", "keep", "([I)V"⟩, 22), (⟨"MillOfDistancesModel", "item", "()Z"⟩, 22), (⟨"MillOfDistancesModel", "sign", "()I"⟩, 22), (⟨"MillOfDistancesModel", "word", "(Ljava/lang/String;Z)Z"⟩, 22), (⟨"MillOfDistancesModel", "word", "(Ljava/lang/String;)Z"⟩, 22), (⟨"MillOfDistancesModel", "is", "(C)Z"⟩, 22), (⟨"MillOfDistancesModel", "number", "(III)Z"⟩, 22), (⟨"MillOfDistancesModel", "two", "(Z)Z"⟩, 22), (⟨"MillOfDistancesModel", "mills", "(II)V"⟩, 22), (⟨"MillOfDistancesModel", "yieldOf", "(II)I"⟩, 22), (⟨"MillOfDistancesModel", "may", "(III)Z"⟩, 22), (⟨"MillOfDistancesModel", "noRoad", "(II)Z"⟩, 22), (⟨"MillOfDistancesModel", "costs", "(III)I"⟩, 22), (⟨"MillOfDistancesModel", "pinch", "(III)V"⟩, 22)]
theorem lw_r3 : ∀ q ∈ lw_privs_3, lw_okq q := List.forall_mem_cons.mpr ⟨lw_p32, List.forall_mem_cons.mpr ⟨lw_p33, List.forall_mem_cons.mpr ⟨lw_p34, List.forall_mem_cons.mpr ⟨lw_p35, List.forall_mem_cons.mpr ⟨lw_p36, List.forall_mem_cons.mpr ⟨lw_p37, List.forall_mem_cons.mpr ⟨lw_p38, List.forall_mem_cons.mpr ⟨lw_p39, List.forall_mem_cons.mpr ⟨lw_p40, List.forall_mem_cons.mpr ⟨lw_p41, List.forall_mem_cons.mpr ⟨lw_p42, List.forall_mem_cons.mpr ⟨lw_p43, List.forall_mem_cons.mpr ⟨lw_p44, List.forall_mem_cons.mpr ⟨lw_p45, List.forall_mem_cons.mpr ⟨lw_p46, List.forall_mem_cons.mpr ⟨lw_p47, fun _ h => absurd h List.not_mem_nil⟩⟩⟩⟩⟩⟩⟩⟩⟩⟩⟩⟩⟩⟩⟩⟩
theorem lw_p48 : lw_okq (⟨"MillOfDistancesModel", "again", "([I)V"⟩, 22) := ⟨⟨by decide +kernel, by decide +kernel⟩, List.mem_of_getElem? (i := 791) (by decide +kernel), List.mem_of_getElem? (i := 1031) (by decide +kernel), List.mem_of_getElem? (i := 1032) (by decide +kernel)⟩
theorem lw_p49 : lw_okq (⟨"MillOfDistancesModel", "walk", "()V"⟩, 22) := ⟨⟨by decide +kernel, by decide +kernel⟩, List.mem_of_getElem? (i := 791) (by decide +kernel), List.mem_of_getElem? (i := 1051) (by decide +kernel), List.mem_of_getElem? (i := 1052) (by decide +kernel)⟩
theorem lw_p50 : lw_okq (⟨"MillOfDistancesModel", "farTold", "(II)I"⟩, 22) := ⟨⟨by decide +kernel, by decide +kernel⟩, List.mem_of_getElem? (i := 791) (by decide +kernel), List.mem_of_getElem? (i := 1055) (by decide +kernel), List.mem_of_getElem? (i := 1056) (by decide +kernel)⟩
theorem lw_p51 : lw_okq (⟨"MillOfDistancesModel", "next", "(II)I"⟩, 22) := ⟨⟨by decide +kernel, by decide +kernel⟩, List.mem_of_getElem? (i := 791) (by decide +kernel), List.mem_of_getElem? (i := 1063) (by decide +kernel), List.mem_of_getElem? (i := 1064) (by decide +kernel)⟩
theorem lw_p52 : lw_okq (⟨"MillOfDistancesModel", "parts", "()I"⟩, 22) := ⟨⟨by decide +kernel, by decide +kernel⟩, List.mem_of_getElem? (i := 791) (by decide +kernel), List.mem_of_getElem? (i := 1075) (by decide +kernel), List.mem_of_getElem? (i := 1076) (by decide +kernel)⟩
theorem lw_p53 : lw_okq (⟨"MillOfDistancesModel", "keeps", "()I"⟩, 22) := ⟨⟨by decide +kernel, by decide +kernel⟩, List.mem_of_getElem? (i := 791) (by decide +kernel), List.mem_of_getElem? (i := 1079) (by decide +kernel), List.mem_of_getElem? (i := 1080) (by decide +kernel)⟩
theorem lw_p54 : lw_okq (⟨"MillOfDistancesModel", "farthest", "(I)I"⟩, 22) := ⟨⟨by decide +kernel, by decide +kernel⟩, List.mem_of_getElem? (i := 791) (by decide +kernel), List.mem_of_getElem? (i := 1090) (by decide +kernel), List.mem_of_getElem? (i := 1091) (by decide +kernel)⟩
theorem lw_p55 : lw_okq (⟨"MillOfDistancesModel", "harmOf", "(II)I"⟩, 22) := ⟨⟨by decide +kernel, by decide +kernel⟩, List.mem_of_getElem? (i := 791) (by decide +kernel), List.mem_of_getElem? (i := 1098) (by decide +kernel), List.mem_of_getElem? (i := 1099) (by decide +kernel)⟩
theorem lw_p56 : lw_okq (⟨"MillOfDistancesModel", "noJourney", "(II)I"⟩, 22) := ⟨⟨by decide +kernel, by decide +kernel⟩, List.mem_of_getElem? (i := 791) (by decide +kernel), List.mem_of_getElem? (i := 1118) (by decide +kernel), List.mem_of_getElem? (i := 1119) (by decide +kernel)⟩
theorem lw_p57 : lw_okq (⟨"MillOfDistancesModel", "told", "(II)I"⟩, 22) := ⟨⟨by decide +kernel, by decide +kernel⟩, List.mem_of_getElem? (i := 791) (by decide +kernel), List.mem_of_getElem? (i := 1123) (by decide +kernel), List.mem_of_getElem? (i := 1124) (by decide +kernel)⟩
theorem lw_p58 : lw_okq (⟨"MillOfDistancesModel", "noTable", "(I)I"⟩, 22) := ⟨⟨by decide +kernel, by decide +kernel⟩, List.mem_of_getElem? (i := 791) (by decide +kernel), List.mem_of_getElem? (i := 1134) (by decide +kernel), List.mem_of_getElem? (i := 1135) (by decide +kernel)⟩
theorem lw_p59 : lw_okq (⟨"MillOfDistancesModel", "pairs", "()I"⟩, 22) := ⟨⟨by decide +kernel, by decide +kernel⟩, List.mem_of_getElem? (i := 791) (by decide +kernel), List.mem_of_getElem? (i := 1138) (by decide +kernel), List.mem_of_getElem? (i := 1139) (by decide +kernel)⟩
theorem lw_p60 : lw_okq (⟨"MillOfDistancesModel", "pair", "(II)I"⟩, 22) := ⟨⟨by decide +kernel, by decide +kernel⟩, List.mem_of_getElem? (i := 791) (by decide +kernel), List.mem_of_getElem? (i := 1142) (by decide +kernel), List.mem_of_getElem? (i := 1143) (by decide +kernel)⟩
theorem lw_p61 : lw_okq (⟨"MillOfDistancesModel", "noPinches", "(II)I"⟩, 22) := ⟨⟨by decide +kernel, by decide +kernel⟩, List.mem_of_getElem? (i := 791) (by decide +kernel), List.mem_of_getElem? (i := 1154) (by decide +kernel), List.mem_of_getElem? (i := 1155) (by decide +kernel)⟩
theorem lw_p62 : lw_okq (⟨"MillOfDistancesModel", "pinched", "(II)I"⟩, 22) := ⟨⟨by decide +kernel, by decide +kernel⟩, List.mem_of_getElem? (i := 791) (by decide +kernel), List.mem_of_getElem? (i := 1159) (by decide +kernel), List.mem_of_getElem? (i := 1160) (by decide +kernel)⟩
theorem lw_p63 : lw_okq (⟨"MillOfDistancesModel", "draw", "(I)I"⟩, 22) := ⟨⟨by decide +kernel, by decide +kernel⟩, List.mem_of_getElem? (i := 791) (by decide +kernel), List.mem_of_getElem? (i := 1187) (by decide +kernel), List.mem_of_getElem? (i := 1188) (by decide +kernel)⟩
def lw_privs_4 : List (MethodName × Nat) := [(⟨"MillOfDistancesModel", "again", "([I)V"⟩, 22), (⟨"MillOfDistancesModel", "walk", "()V"⟩, 22), (⟨"MillOfDistancesModel", "farTold", "(II)I"⟩, 22), (⟨"MillOfDistancesModel", "next", "(II)I"⟩, 22), (⟨"MillOfDistancesModel", "parts", "()I"⟩, 22), (⟨"MillOfDistancesModel", "keeps", "()I"⟩, 22), (⟨"MillOfDistancesModel", "farthest", "(I)I"⟩, 22), (⟨"MillOfDistancesModel", "harmOf", "(II)I"⟩, 22), (⟨"MillOfDistancesModel", "noJourney", "(II)I"⟩, 22), (⟨"MillOfDistancesModel", "told", "(II)I"⟩, 22), (⟨"MillOfDistancesModel", "noTable", "(I)I"⟩, 22), (⟨"MillOfDistancesModel", "pairs", "()I"⟩, 22), (⟨"MillOfDistancesModel", "pair", "(II)I"⟩, 22), (⟨"MillOfDistancesModel", "noPinches", "(II)I"⟩, 22), (⟨"MillOfDistancesModel", "pinched", "(II)I"⟩, 22), (⟨"MillOfDistancesModel", "draw", "(I)I"⟩, 22)]
theorem lw_r4 : ∀ q ∈ lw_privs_4, lw_okq q := List.forall_mem_cons.mpr ⟨lw_p48, List.forall_mem_cons.mpr ⟨lw_p49, List.forall_mem_cons.mpr ⟨lw_p50, List.forall_mem_cons.mpr ⟨lw_p51, List.forall_mem_cons.mpr ⟨lw_p52, List.forall_mem_cons.mpr ⟨lw_p53, List.forall_mem_cons.mpr ⟨lw_p54, List.forall_mem_cons.mpr ⟨lw_p55, List.forall_mem_cons.mpr ⟨lw_p56, List.forall_mem_cons.mpr ⟨lw_p57, List.forall_mem_cons.mpr ⟨lw_p58, List.forall_mem_cons.mpr ⟨lw_p59, List.forall_mem_cons.mpr ⟨lw_p60, List.forall_mem_cons.mpr ⟨lw_p61, List.forall_mem_cons.mpr ⟨lw_p62, List.forall_mem_cons.mpr ⟨lw_p63, fun _ h => absurd h List.not_mem_nil⟩⟩⟩⟩⟩⟩⟩⟩⟩⟩⟩⟩⟩⟩⟩⟩
theorem lw_p64 : lw_okq (⟨"MillOfDistancesModel", "grinds", "(II)I"⟩, 22) := ⟨⟨by decide +kernel, by decide +kernel⟩, List.mem_of_getElem? (i := 791) (by decide +kernel), List.mem_of_getElem? (i := 1200) (by decide +kernel), List.mem_of_getElem? (i := 1201) (by decide +kernel)⟩
theorem lw_p65 : lw_okq (⟨"MillOfDistancesModel", "ran", "(I)V"⟩, 22) := ⟨⟨by decide +kernel, by decide +kernel⟩, List.mem_of_getElem? (i := 791) (by decide +kernel), List.mem_of_getElem? (i := 1204) (by decide +kernel), List.mem_of_getElem? (i := 1205) (by decide +kernel)⟩
theorem lw_p66 : lw_okq (⟨"MillOfDistancesModel", "strews", "(II)I"⟩, 22) := ⟨⟨by decide +kernel, by decide +kernel⟩, List.mem_of_getElem? (i := 791) (by decide +kernel), List.mem_of_getElem? (i := 1208) (by decide +kernel), List.mem_of_getElem? (i := 1209) (by decide +kernel)⟩
theorem lw_p67 : lw_okq (⟨"MillOfDistancesModel", "blows", "(II)I"⟩, 22) := ⟨⟨by decide +kernel, by decide +kernel⟩, List.mem_of_getElem? (i := 791) (by decide +kernel), List.mem_of_getElem? (i := 1212) (by decide +kernel), List.mem_of_getElem? (i := 1213) (by decide +kernel)⟩
def lw_privs_5 : List (MethodName × Nat) := [(⟨"MillOfDistancesModel", "grinds", "(II)I"⟩, 22), (⟨"MillOfDistancesModel", "ran", "(I)V"⟩, 22), (⟨"MillOfDistancesModel", "strews", "(II)I"⟩, 22), (⟨"MillOfDistancesModel", "blows", "(II)I"⟩, 22)]
theorem lw_r5 : ∀ q ∈ lw_privs_5, lw_okq q := List.forall_mem_cons.mpr ⟨lw_p64, List.forall_mem_cons.mpr ⟨lw_p65, List.forall_mem_cons.mpr ⟨lw_p66, List.forall_mem_cons.mpr ⟨lw_p67, fun _ h => absurd h List.not_mem_nil⟩⟩⟩⟩
def lw_privs : List (MethodName × Nat) := lw_privs_1 ++ (lw_privs_2 ++ (lw_privs_3 ++ (lw_privs_4 ++ (lw_privs_5))))
def lw_tbl : List Cond := k2_sels lw_privs ++ tables_1
theorem lw_privs_ok : ∀ q ∈ lw_privs, lw_okq q := by
  show ∀ q ∈ lw_privs_1 ++ (lw_privs_2 ++ (lw_privs_3 ++ (lw_privs_4 ++ (lw_privs_5)))), lw_okq q
  exact List.forall_mem_append.mpr ⟨lw_r1, List.forall_mem_append.mpr ⟨lw_r2, List.forall_mem_append.mpr ⟨lw_r3, List.forall_mem_append.mpr ⟨lw_r4, lw_r5⟩⟩⟩⟩
def RX0 : String := "MillOfDistances$Doer"
def TX0 : u_T := fun k => match k with
  | 0 => ("MillOfDistances$Doer", "trace", "[I", true)
  | 1 => ("MillOfDistances$Doer", "ran", "I", false)
  | 2 => ("MillOfDistances$Doer", "kind", "I", false)
  | 3 => ("MillOfDistances$Doer", "m", "I", false)
  | _ => ("MillOfDistances$Doer", "k", "I", false)
def tyX0 : Nat → FieldType := fun k => match k with
  | 0 => .array .int
  | 1 => .int
  | 2 => .int
  | 3 => .int
  | _ => .int
theorem nmX0 : ∀ a, a < 5 → ∀ b, b < 5 → a ≠ b → (TX0 a).2.1 ≠ (TX0 b).2.1 := by decide +kernel
theorem tyX0_ok : ∀ k, k < 5 → parseFieldDescriptor (TX0 k).2.2.1 = some (tyX0 k) := by decide +kernel
abbrev cX0_init : ByteArray := prog_2_method_1_code
def yX0_init : MethodName := ⟨RX0, "<init>", "()V"⟩
abbrev cX0_forget : ByteArray := prog_2_method_2_code
def yX0_forget : MethodName := ⟨RX0, "forget", "()V"⟩
abbrev cX0_traced : ByteArray := prog_2_method_3_code
def yX0_traced : MethodName := ⟨RX0, "traced", "(I)I"⟩
abbrev cX0_perform : ByteArray := prog_2_method_4_code
def yX0_perform : MethodName := ⟨RX0, "perform", "(IIIII)I"⟩
abbrev cX0_bodyFrom : ByteArray := prog_2_method_5_code
def yX0_bodyFrom : MethodName := ⟨RX0, "bodyFrom", "(II)I"⟩
abbrev cX0_noteBody : ByteArray := prog_2_method_6_code
def yX0_noteBody : MethodName := ⟨RX0, "noteBody", "(I)V"⟩
abbrev cX0_run : ByteArray := prog_2_method_7_code
def yX0_run : MethodName := ⟨RX0, "run", "(LMillOfDistances$Doer;IIII)I"⟩
def RX1 : String := "MillOfDistances$Land"
def TX1 : u_T := fun k => match k with
  | 0 => ("MillOfDistances$Land", "kinds", "[I", true)
  | 1 => ("MillOfDistances$Land", "marks", "[I", true)
  | 2 => ("MillOfDistances$Land", "roads", "[I", true)
  | 3 => ("MillOfDistances$Land", "count", "I", false)
  | 4 => ("MillOfDistances$Land", "flour", "I", false)
  | 5 => ("MillOfDistances$Land", "wind", "I", false)
  | _ => ("MillOfDistances$Land", "seed", "I", false)
def tyX1 : Nat → FieldType := fun k => match k with
  | 0 => .array .int
  | 1 => .array .int
  | 2 => .array .int
  | 3 => .int
  | 4 => .int
  | 5 => .int
  | _ => .int
theorem nmX1 : ∀ a, a < 7 → ∀ b, b < 7 → a ≠ b → (TX1 a).2.1 ≠ (TX1 b).2.1 := by decide +kernel
theorem tyX1_ok : ∀ k, k < 7 → parseFieldDescriptor (TX1 k).2.2.1 = some (tyX1 k) := by decide +kernel
abbrev cX1_init : ByteArray := prog_3_method_1_code
def yX1_init : MethodName := ⟨RX1, "<init>", "()V"⟩
abbrev cX1_becomeAs : ByteArray := prog_3_method_2_code
def yX1_becomeAs : MethodName := ⟨RX1, "becomeAs", "(LMillOfDistances$Land;)V"⟩
abbrev cX1_has : ByteArray := prog_3_method_3_code
def yX1_has : MethodName := ⟨RX1, "has", "(I)Z"⟩
abbrev cX1_hasBoth : ByteArray := prog_3_method_4_code
def yX1_hasBoth : MethodName := ⟨RX1, "hasBoth", "(II)Z"⟩
abbrev cX1_hasRoom : ByteArray := prog_3_method_5_code
def yX1_hasRoom : MethodName := ⟨RX1, "hasRoom", "()Z"⟩
abbrev cX1_found : ByteArray := prog_3_method_6_code
def yX1_found : MethodName := ⟨RX1, "found", "(II)I"⟩
abbrev cX1_isOf : ByteArray := prog_3_method_7_code
def yX1_isOf : MethodName := ⟨RX1, "isOf", "(II)Z"⟩
abbrev cX1_between : ByteArray := prog_3_method_8_code
def yX1_between : MethodName := ⟨RX1, "between", "(II)I"⟩
abbrev cX1_lay : ByteArray := prog_3_method_9_code
def yX1_lay : MethodName := ⟨RX1, "lay", "(III)V"⟩
abbrev cX1_neighbours : ByteArray := prog_3_method_10_code
def yX1_neighbours : MethodName := ⟨RX1, "neighbours", "(I)I"⟩
abbrev cX1_milesOf : ByteArray := prog_3_method_11_code
def yX1_milesOf : MethodName := ⟨RX1, "milesOf", "(I)I"⟩
abbrev cX1_countRoads : ByteArray := prog_3_method_12_code
def yX1_countRoads : MethodName := ⟨RX1, "countRoads", "()I"⟩
abbrev cX1_allMiles : ByteArray := prog_3_method_13_code
def yX1_allMiles : MethodName := ⟨RX1, "allMiles", "()I"⟩
abbrev cX1_asks : ByteArray := prog_3_method_14_code
def yX1_asks : MethodName := ⟨RX1, "asks", "(II)I"⟩
abbrev cX1_costOf : ByteArray := prog_3_method_15_code
def yX1_costOf : MethodName := ⟨RX1, "costOf", "(III)I"⟩
abbrev cX1_yieldOf : ByteArray := prog_3_method_16_code
def yX1_yieldOf : MethodName := ⟨RX1, "yieldOf", "(II)I"⟩
abbrev cX1_grindRoad : ByteArray := prog_3_method_17_code
def yX1_grindRoad : MethodName := ⟨RX1, "grindRoad", "(II)V"⟩
abbrev cX1_mayPinch : ByteArray := prog_3_method_18_code
def yX1_mayPinch : MethodName := ⟨RX1, "mayPinch", "(III)Z"⟩
abbrev cX1_pinch : ByteArray := prog_3_method_19_code
def yX1_pinch : MethodName := ⟨RX1, "pinch", "(III)V"⟩
abbrev cX1_bend : ByteArray := prog_3_method_20_code
def yX1_bend : MethodName := ⟨RX1, "bend", "(III)V"⟩
abbrev cX1_draw : ByteArray := prog_3_method_21_code
def yX1_draw : MethodName := ⟨RX1, "draw", "(I)I"⟩
abbrev cX1_gust : ByteArray := prog_3_method_22_code
def yX1_gust : MethodName := ⟨RX1, "gust", "()I"⟩
abbrev cX1_leastMilesThatKeep : ByteArray := prog_3_method_23_code
def yX1_leastMilesThatKeep : MethodName := ⟨RX1, "leastMilesThatKeep", "()I"⟩
abbrev cX1_leastMilesFrom : ByteArray := prog_3_method_24_code
def yX1_leastMilesFrom : MethodName := ⟨RX1, "leastMilesFrom", "(II)I"⟩
def RX2 : String := "MillOfDistances$Lengths"
def TX2 : u_T := fun k => match k with
  | 0 => ("MillOfDistances$Lengths", "cells", "[I", true)
  | _ => ("MillOfDistances$Lengths", "count", "I", false)
def tyX2 : Nat → FieldType := fun k => match k with
  | 0 => .array .int
  | _ => .int
theorem nmX2 : ∀ a, a < 2 → ∀ b, b < 2 → a ≠ b → (TX2 a).2.1 ≠ (TX2 b).2.1 := by decide +kernel
theorem tyX2_ok : ∀ k, k < 2 → parseFieldDescriptor (TX2 k).2.2.1 = some (tyX2 k) := by decide +kernel
abbrev cX2_init : ByteArray := prog_4_method_1_code
def yX2_init : MethodName := ⟨RX2, "<init>", "()V"⟩
abbrev cX2_measure : ByteArray := prog_4_method_2_code
def yX2_measure : MethodName := ⟨RX2, "measure", "(LMillOfDistances$Land;)V"⟩
abbrev cX2_measureWithout : ByteArray := prog_4_method_3_code
def yX2_measureWithout : MethodName := ⟨RX2, "measureWithout", "(LMillOfDistances$Land;II)V"⟩
abbrev cX2_measureTable : ByteArray := prog_4_method_4_code
def yX2_measureTable : MethodName := ⟨RX2, "measureTable", "(LMillOfDistances$Shelf;I)V"⟩
abbrev cX2_takeRoads : ByteArray := prog_4_method_5_code
def yX2_takeRoads : MethodName := ⟨RX2, "takeRoads", "(LMillOfDistances$Land;)V"⟩
abbrev cX2_note : ByteArray := prog_4_method_6_code
def yX2_note : MethodName := ⟨RX2, "note", "(III)V"⟩
abbrev cX2_isInside : ByteArray := prog_4_method_7_code
def yX2_isInside : MethodName := ⟨RX2, "isInside", "(II)Z"⟩
abbrev cX2_close : ByteArray := prog_4_method_8_code
def yX2_close : MethodName := ⟨RX2, "close", "()V"⟩
abbrev cX2_length : ByteArray := prog_4_method_9_code
def yX2_length : MethodName := ⟨RX2, "length", "(II)I"⟩
abbrev cX2_joins : ByteArray := prog_4_method_10_code
def yX2_joins : MethodName := ⟨RX2, "joins", "(II)Z"⟩
abbrev cX2_lengthOrNone : ByteArray := prog_4_method_11_code
def yX2_lengthOrNone : MethodName := ⟨RX2, "lengthOrNone", "(II)I"⟩
abbrev cX2_lengthBeside : ByteArray := prog_4_method_12_code
def yX2_lengthBeside : MethodName := ⟨RX2, "lengthBeside", "(IIII)I"⟩
abbrev cX2_nextOnTheWay : ByteArray := prog_4_method_13_code
def yX2_nextOnTheWay : MethodName := ⟨RX2, "nextOnTheWay", "(LMillOfDistances$Land;II)I"⟩
abbrev cX2_reach : ByteArray := prog_4_method_14_code
def yX2_reach : MethodName := ⟨RX2, "reach", "(II)I"⟩
abbrev cX2_total : ByteArray := prog_4_method_15_code
def yX2_total : MethodName := ⟨RX2, "total", "()I"⟩
abbrev cX2_parts : ByteArray := prog_4_method_16_code
def yX2_parts : MethodName := ⟨RX2, "parts", "()I"⟩
abbrev cX2_middle : ByteArray := prog_4_method_17_code
def yX2_middle : MethodName := ⟨RX2, "middle", "()I"⟩
abbrev cX2_greatest : ByteArray := prog_4_method_18_code
def yX2_greatest : MethodName := ⟨RX2, "greatest", "()I"⟩
def RX3 : String := "MillOfDistances$MapReader"
def TX3 : u_T := fun k => match k with
  | 0 => ("MillOfDistances$MapReader", "fault", "I", false)
  | 1 => ("MillOfDistances$MapReader", "numbers", "[I", true)
  | 2 => ("MillOfDistances$MapReader", "next", "I", false)
  | _ => ("MillOfDistances$MapReader", "numberStart", "I", false)
def tyX3 : Nat → FieldType := fun k => match k with
  | 0 => .int
  | 1 => .array .int
  | 2 => .int
  | _ => .int
theorem nmX3 : ∀ a, a < 4 → ∀ b, b < 4 → a ≠ b → (TX3 a).2.1 ≠ (TX3 b).2.1 := by decide +kernel
theorem tyX3_ok : ∀ k, k < 4 → parseFieldDescriptor (TX3 k).2.2.1 = some (tyX3 k) := by decide +kernel
abbrev cX3_init : ByteArray := prog_5_method_1_code
def yX3_init : MethodName := ⟨RX3, "<init>", "()V"⟩
abbrev cX3_read : ByteArray := prog_5_method_2_code
def yX3_read : MethodName := ⟨RX3, "read", "(LMillOfDistances$Shelf;LMillOfDistances$Land;)I"⟩
abbrev cX3_readItem : ByteArray := prog_5_method_3_code
def yX3_readItem : MethodName := ⟨RX3, "readItem", "(LMillOfDistances$Shelf;LMillOfDistances$Land;)Z"⟩
abbrev cX3_readWord : ByteArray := prog_5_method_4_code
def yX3_readWord : MethodName := ⟨RX3, "readWord", "(LMillOfDistances$Shelf;)I"⟩
abbrev cX3_sameLetters : ByteArray := prog_5_method_5_code
def yX3_sameLetters : MethodName := ⟨RX3, "sameLetters", "(LMillOfDistances$Shelf;Ljava/lang/String;)I"⟩
abbrev cX3_wordOf : ByteArray := prog_5_method_6_code
def yX3_wordOf : MethodName := ⟨RX3, "wordOf", "(I)Ljava/lang/String;"⟩
abbrev cX3_readNumber : ByteArray := prog_5_method_7_code
def yX3_readNumber : MethodName := ⟨RX3, "readNumber", "(LMillOfDistances$Shelf;I)Z"⟩
abbrev cX3_isDigit : ByteArray := prog_5_method_8_code
def yX3_isDigit : MethodName := ⟨RX3, "isDigit", "(LMillOfDistances$Shelf;I)Z"⟩
abbrev cX3_stands : ByteArray := prog_5_method_9_code
def yX3_stands : MethodName := ⟨RX3, "stands", "(IILMillOfDistances$Land;)Z"⟩
abbrev cX3_tell : ByteArray := prog_5_method_10_code
def yX3_tell : MethodName := ⟨RX3, "tell", "(ILMillOfDistances$Land;)V"⟩
def RX4 : String := "MillOfDistances$Shelf"
def TX4 : u_T := fun k => match k with
  | 0 => ("MillOfDistances$Shelf", "elements", "[J", true)
  | 1 => ("MillOfDistances$Shelf", "size", "I", false)
  | 2 => ("MillOfDistances$Shelf", "sort", "I", false)
  | _ => ("MillOfDistances$Shelf", "place", "I", false)
def tyX4 : Nat → FieldType := fun k => match k with
  | 0 => .array .long
  | 1 => .int
  | 2 => .int
  | _ => .int
theorem nmX4 : ∀ a, a < 4 → ∀ b, b < 4 → a ≠ b → (TX4 a).2.1 ≠ (TX4 b).2.1 := by decide +kernel
theorem tyX4_ok : ∀ k, k < 4 → parseFieldDescriptor (TX4 k).2.2.1 = some (tyX4 k) := by decide +kernel
abbrev cX4_init : ByteArray := prog_6_method_1_code
def yX4_init : MethodName := ⟨RX4, "<init>", "()V"⟩
abbrev cX4_holdsRow : ByteArray := prog_6_method_2_code
def yX4_holdsRow : MethodName := ⟨RX4, "holdsRow", "()Z"⟩
abbrev cX4_holdsPlace : ByteArray := prog_6_method_3_code
def yX4_holdsPlace : MethodName := ⟨RX4, "holdsPlace", "()Z"⟩
abbrev cX4_takeRow : ByteArray := prog_6_method_4_code
def yX4_takeRow : MethodName := ⟨RX4, "takeRow", "(II)V"⟩
abbrev cX4_takePlace : ByteArray := prog_6_method_5_code
def yX4_takePlace : MethodName := ⟨RX4, "takePlace", "(I)V"⟩
abbrev cX4_hasElements : ByteArray := prog_6_method_6_code
def yX4_hasElements : MethodName := ⟨RX4, "hasElements", "(II)Z"⟩
abbrev cX4_at : ByteArray := prog_6_method_7_code
def yX4_at : MethodName := ⟨RX4, "at", "(I)J"⟩
abbrev cX4_asInt : ByteArray := prog_6_method_8_code
def yX4_asInt : MethodName := ⟨RX4, "asInt", "(I)I"⟩
abbrev cX4_put : ByteArray := prog_6_method_9_code
def yX4_put : MethodName := ⟨RX4, "put", "(IJ)V"⟩
abbrev cX4_kept : ByteArray := prog_6_method_10_code
def yX4_kept : MethodName := ⟨RX4, "kept", "(J)J"⟩
def RX5 : String := "MillOfDistances"
def TX5 : u_T := fun k => match k with
  | 0 => ("MillOfDistances", "land", "LMillOfDistances$Land;", true)
  | 1 => ("MillOfDistances", "trial", "LMillOfDistances$Land;", true)
  | 2 => ("MillOfDistances", "imaged", "LMillOfDistances$Land;", true)
  | 3 => ("MillOfDistances", "now", "LMillOfDistances$Lengths;", true)
  | 4 => ("MillOfDistances", "then", "LMillOfDistances$Lengths;", true)
  | 5 => ("MillOfDistances", "shelves", "[LMillOfDistances$Shelf;", true)
  | 6 => ("MillOfDistances", "refusals", "[I", true)
  | 7 => ("MillOfDistances", "reader", "LMillOfDistances$MapReader;", true)
  | 8 => ("MillOfDistances", "doer", "LMillOfDistances$Doer;", true)
  | _ => ("MillOfDistances", "hasImage", "Z", false)
def tyX5 : Nat → FieldType := fun k => match k with
  | 0 => .object "MillOfDistances$Land"
  | 1 => .object "MillOfDistances$Land"
  | 2 => .object "MillOfDistances$Land"
  | 3 => .object "MillOfDistances$Lengths"
  | 4 => .object "MillOfDistances$Lengths"
  | 5 => .array (.object "MillOfDistances$Shelf")
  | 6 => .array .int
  | 7 => .object "MillOfDistances$MapReader"
  | 8 => .object "MillOfDistances$Doer"
  | _ => .boolean
theorem nmX5 : ∀ a, a < 10 → ∀ b, b < 10 → a ≠ b → (TX5 a).2.1 ≠ (TX5 b).2.1 := by decide +kernel
theorem tyX5_ok : ∀ k, k < 10 → parseFieldDescriptor (TX5 k).2.2.1 = some (tyX5 k) := by decide +kernel
abbrev cX5_init : ByteArray := prog_1_method_1_code
def yX5_init : MethodName := ⟨RX5, "<init>", "()V"⟩
abbrev cX5_row : ByteArray := prog_1_method_2_code
def yX5_row : MethodName := ⟨RX5, "row", "(III)I"⟩
abbrev cX5_set : ByteArray := prog_1_method_3_code
def yX5_set : MethodName := ⟨RX5, "set", "(IIJ)I"⟩
abbrev cX5_copy : ByteArray := prog_1_method_4_code
def yX5_copy : MethodName := ⟨RX5, "copy", "(IIIII)I"⟩
abbrev cX5_element : ByteArray := prog_1_method_5_code
def yX5_element : MethodName := ⟨RX5, "element", "(II)J"⟩
abbrev cX5_show : ByteArray := prog_1_method_6_code
def yX5_show : MethodName := ⟨RX5, "show", "(II)I"⟩
abbrev cX5_holds : ByteArray := prog_1_method_7_code
def yX5_holds : MethodName := ⟨RX5, "holds", "(I)I"⟩
abbrev cX5_says : ByteArray := prog_1_method_8_code
def yX5_says : MethodName := ⟨RX5, "says", "(II)I"⟩
abbrev cX5_place : ByteArray := prog_1_method_9_code
def yX5_place : MethodName := ⟨RX5, "place", "(II)I"⟩
abbrev cX5_placeOf : ByteArray := prog_1_method_10_code
def yX5_placeOf : MethodName := ⟨RX5, "placeOf", "(II)I"⟩
abbrev cX5_road : ByteArray := prog_1_method_11_code
def yX5_road : MethodName := ⟨RX5, "road", "(III)I"⟩
abbrev cX5_miles : ByteArray := prog_1_method_12_code
def yX5_miles : MethodName := ⟨RX5, "miles", "(II)I"⟩
abbrev cX5_ask : ByteArray := prog_1_method_13_code
def yX5_ask : MethodName := ⟨RX5, "ask", "(II)I"⟩
abbrev cX5_map : ByteArray := prog_1_method_14_code
def yX5_map : MethodName := ⟨RX5, "map", "(I)I"⟩
abbrev cX5_fault : ByteArray := prog_1_method_15_code
def yX5_fault : MethodName := ⟨RX5, "fault", "()I"⟩
abbrev cX5_cost : ByteArray := prog_1_method_16_code
def yX5_cost : MethodName := ⟨RX5, "cost", "(III)I"⟩
abbrev cX5_yields : ByteArray := prog_1_method_17_code
def yX5_yields : MethodName := ⟨RX5, "yields", "(II)I"⟩
abbrev cX5_away : ByteArray := prog_1_method_18_code
def yX5_away : MethodName := ⟨RX5, "away", "(II)I"⟩
abbrev cX5_shortest : ByteArray := prog_1_method_19_code
def yX5_shortest : MethodName := ⟨RX5, "shortest", "(III)I"⟩
abbrev cX5_within : ByteArray := prog_1_method_20_code
def yX5_within : MethodName := ⟨RX5, "within", "(II)I"⟩
abbrev cX5_whole : ByteArray := prog_1_method_21_code
def yX5_whole : MethodName := ⟨RX5, "whole", "(I)I"⟩
abbrev cX5_harm : ByteArray := prog_1_method_22_code
def yX5_harm : MethodName := ⟨RX5, "harm", "(III)I"⟩
abbrev cX5_leastHarm : ByteArray := prog_1_method_23_code
def yX5_leastHarm : MethodName := ⟨RX5, "leastHarm", "()I"⟩
abbrev cX5_cheapest : ByteArray := prog_1_method_24_code
def yX5_cheapest : MethodName := ⟨RX5, "cheapest", "(IIII)I"⟩
abbrev cX5_cheapestPinch : ByteArray := prog_1_method_25_code
def yX5_cheapestPinch : MethodName := ⟨RX5, "cheapestPinch", "(IIII)I"⟩
abbrev cX5_meet : ByteArray := prog_1_method_26_code
def yX5_meet : MethodName := ⟨RX5, "meet", "(II)I"⟩
abbrev cX5_journey : ByteArray := prog_1_method_27_code
def yX5_journey : MethodName := ⟨RX5, "journey", "(IIII)I"⟩
abbrev cX5_canBeWalkedBy : ByteArray := prog_1_method_28_code
def yX5_canBeWalkedBy : MethodName := ⟨RX5, "canBeWalkedBy", "(LMillOfDistances$Shelf;I)Z"⟩
abbrev cX5_walk : ByteArray := prog_1_method_29_code
def yX5_walk : MethodName := ⟨RX5, "walk", "(IILMillOfDistances$Shelf;I)I"⟩
abbrev cX5_judge : ByteArray := prog_1_method_30_code
def yX5_judge : MethodName := ⟨RX5, "judge", "(I)I"⟩
abbrev cX5_isWrongInTable : ByteArray := prog_1_method_31_code
def yX5_isWrongInTable : MethodName := ⟨RX5, "isWrongInTable", "(LMillOfDistances$Shelf;II)Z"⟩
abbrev cX5_mend : ByteArray := prog_1_method_32_code
def yX5_mend : MethodName := ⟨RX5, "mend", "(I)I"⟩
abbrev cX5_pinches : ByteArray := prog_1_method_33_code
def yX5_pinches : MethodName := ⟨RX5, "pinches", "(II)I"⟩
abbrev cX5_left : ByteArray := prog_1_method_34_code
def yX5_left : MethodName := ⟨RX5, "left", "(II)I"⟩
abbrev cX5_done : ByteArray := prog_1_method_35_code
def yX5_done : MethodName := ⟨RX5, "done", "(II)I"⟩
abbrev cX5_firstWrongPinch : ByteArray := prog_1_method_36_code
def yX5_firstWrongPinch : MethodName := ⟨RX5, "firstWrongPinch", "(LMillOfDistances$Shelf;I)I"⟩
abbrev cX5_theft : ByteArray := prog_1_method_37_code
def yX5_theft : MethodName := ⟨RX5, "theft", "(II)I"⟩
abbrev cX5_stolenOn : ByteArray := prog_1_method_38_code
def yX5_stolenOn : MethodName := ⟨RX5, "stolenOn", "(LMillOfDistances$Shelf;II)I"⟩
abbrev cX5_isTheft : ByteArray := prog_1_method_39_code
def yX5_isTheft : MethodName := ⟨RX5, "isTheft", "(LMillOfDistances$Shelf;III)Z"⟩
abbrev cX5_mill : ByteArray := prog_1_method_40_code
def yX5_mill : MethodName := ⟨RX5, "mill", "(II)I"⟩
abbrev cX5_spread : ByteArray := prog_1_method_41_code
def yX5_spread : MethodName := ⟨RX5, "spread", "(III)I"⟩
abbrev cX5_gale : ByteArray := prog_1_method_42_code
def yX5_gale : MethodName := ⟨RX5, "gale", "(I)I"⟩
abbrev cX5_seed : ByteArray := prog_1_method_43_code
def yX5_seed : MethodName := ⟨RX5, "seed", "(I)I"⟩
abbrev cX5_act : ByteArray := prog_1_method_44_code
def yX5_act : MethodName := ⟨RX5, "act", "(III)I"⟩
abbrev cX5_trace : ByteArray := prog_1_method_45_code
def yX5_trace : MethodName := ⟨RX5, "trace", "(I)I"⟩
abbrev cX5_image : ByteArray := prog_1_method_46_code
def yX5_image : MethodName := ⟨RX5, "image", "()I"⟩
abbrev cX5_restore : ByteArray := prog_1_method_47_code
def yX5_restore : MethodName := ⟨RX5, "restore", "()I"⟩
abbrev cX5_status : ByteArray := prog_1_method_48_code
def yX5_status : MethodName := ⟨RX5, "status", "(I)I"⟩
abbrev cX5_refuse : ByteArray := prog_1_method_49_code
def yX5_refuse : MethodName := ⟨RX5, "refuse", "(I)I"⟩
abbrev cX5_refuseBelowTen : ByteArray := prog_1_method_50_code
def yX5_refuseBelowTen : MethodName := ⟨RX5, "refuseBelowTen", "(I)I"⟩
abbrev cX5_shelfAt : ByteArray := prog_1_method_51_code
def yX5_shelfAt : MethodName := ⟨RX5, "shelfAt", "(I)LMillOfDistances$Shelf;"⟩
abbrev cX5_rowProblem : ByteArray := prog_1_method_52_code
def yX5_rowProblem : MethodName := ⟨RX5, "rowProblem", "(LMillOfDistances$Shelf;)I"⟩
abbrev cX5_rowsProblem : ByteArray := prog_1_method_53_code
def yX5_rowsProblem : MethodName := ⟨RX5, "rowsProblem", "(LMillOfDistances$Shelf;LMillOfDistances$Shelf;)I"⟩
abbrev cX5_roadProblem : ByteArray := prog_1_method_54_code
def yX5_roadProblem : MethodName := ⟨RX5, "roadProblem", "(II)I"⟩
abbrev cX5_tableProblem : ByteArray := prog_1_method_55_code
def yX5_tableProblem : MethodName := ⟨RX5, "tableProblem", "(LMillOfDistances$Shelf;)I"⟩
abbrev cX5_pinchesProblem : ByteArray := prog_1_method_56_code
def yX5_pinchesProblem : MethodName := ⟨RX5, "pinchesProblem", "(LMillOfDistances$Shelf;I)I"⟩
abbrev cX5_toldProblem : ByteArray := prog_1_method_57_code
def yX5_toldProblem : MethodName := ⟨RX5, "toldProblem", "(LMillOfDistances$Shelf;III)I"⟩
abbrev cX5_isKind : ByteArray := prog_1_method_58_code
def yX5_isKind : MethodName := ⟨RX5, "isKind", "(I)Z"⟩
abbrev cX5_kindAbove : ByteArray := prog_1_method_59_code
def yX5_kindAbove : MethodName := ⟨RX5, "kindAbove", "(I)I"⟩
abbrev cX5_pairsOf : ByteArray := prog_1_method_60_code
def yX5_pairsOf : MethodName := ⟨RX5, "pairsOf", "(I)I"⟩
abbrev cX5_pairOf : ByteArray := prog_1_method_61_code
def yX5_pairOf : MethodName := ⟨RX5, "pairOf", "(III)I"⟩
def RX6 : String := "MillOfDistancesModel"
def TX6 : u_T := fun k => match k with
  | 0 => ("MillOfDistancesModel", "holding", "[I", true)
  | 1 => ("MillOfDistancesModel", "rowLength", "[I", true)
  | 2 => ("MillOfDistancesModel", "rowOf", "[J", true)
  | 3 => ("MillOfDistancesModel", "places", "I", false)
  | 4 => ("MillOfDistancesModel", "kind", "[I", true)
  | 5 => ("MillOfDistancesModel", "own", "[I", true)
  | 6 => ("MillOfDistancesModel", "miles", "[I", true)
  | 7 => ("MillOfDistancesModel", "flour", "I", false)
  | 8 => ("MillOfDistancesModel", "wind", "I", false)
  | 9 => ("MillOfDistancesModel", "seed", "I", false)
  | 10 => ("MillOfDistancesModel", "fault", "I", false)
  | 11 => ("MillOfDistancesModel", "refusals", "[I", true)
  | 12 => ("MillOfDistancesModel", "traced", "I", false)
  | 13 => ("MillOfDistancesModel", "traces", "[I", true)
  | 14 => ("MillOfDistancesModel", "imaged", "Z", false)
  | 15 => ("MillOfDistancesModel", "old", "[I", true)
  | 16 => ("MillOfDistancesModel", "ahead", "[I", true)
  | 17 => ("MillOfDistancesModel", "reading", "I", false)
  | 18 => ("MillOfDistancesModel", "at", "I", false)
  | 19 => ("MillOfDistancesModel", "numbers", "[I", true)
  | 20 => ("MillOfDistancesModel", "far", "[I", true)
  | _ => ("MillOfDistancesModel", "was", "[I", true)
def tyX6 : Nat → FieldType := fun k => match k with
  | 0 => .array .int
  | 1 => .array .int
  | 2 => .array .long
  | 3 => .int
  | 4 => .array .int
  | 5 => .array .int
  | 6 => .array .int
  | 7 => .int
  | 8 => .int
  | 9 => .int
  | 10 => .int
  | 11 => .array .int
  | 12 => .int
  | 13 => .array .int
  | 14 => .boolean
  | 15 => .array .int
  | 16 => .array .int
  | 17 => .int
  | 18 => .int
  | 19 => .array .int
  | 20 => .array .int
  | _ => .array .int
theorem nmX6 : ∀ a, a < 22 → ∀ b, b < 22 → a ≠ b → (TX6 a).2.1 ≠ (TX6 b).2.1 := by decide +kernel
theorem tyX6_ok : ∀ k, k < 22 → parseFieldDescriptor (TX6 k).2.2.1 = some (tyX6 k) := by decide +kernel
abbrev cX6_init : ByteArray := prog_8_method_1_code
def yX6_init : MethodName := ⟨RX6, "<init>", "()V"⟩
abbrev cX6_no : ByteArray := prog_8_method_2_code
def yX6_no : MethodName := ⟨RX6, "no", "(I)I"⟩
abbrev cX6_no10 : ByteArray := prog_8_method_3_code
def yX6_no10 : MethodName := ⟨RX6, "no10", "(I)I"⟩
abbrev cX6_within : ByteArray := prog_8_method_4_code
def yX6_within : MethodName := ⟨RX6, "within", "(III)Z"⟩
abbrev cX6_has : ByteArray := prog_8_method_5_code
def yX6_has : MethodName := ⟨RX6, "has", "(II)Z"⟩
abbrev cX6_isPlace : ByteArray := prog_8_method_6_code
def yX6_isPlace : MethodName := ⟨RX6, "isPlace", "(I)Z"⟩
abbrev cX6_isRow : ByteArray := prog_8_method_7_code
def yX6_isRow : MethodName := ⟨RX6, "isRow", "(I)Z"⟩
abbrev cX6_row : ByteArray := prog_8_method_8_code
def yX6_row : MethodName := ⟨RX6, "row", "(III)I"⟩
abbrev cX6_noRow : ByteArray := prog_8_method_9_code
def yX6_noRow : MethodName := ⟨RX6, "noRow", "(I)I"⟩
abbrev cX6_set : ByteArray := prog_8_method_10_code
def yX6_set : MethodName := ⟨RX6, "set", "(IIJ)I"⟩
abbrev cX6_copy : ByteArray := prog_8_method_11_code
def yX6_copy : MethodName := ⟨RX6, "copy", "(IIIII)I"⟩
abbrev cX6_element : ByteArray := prog_8_method_12_code
def yX6_element : MethodName := ⟨RX6, "element", "(II)J"⟩
abbrev cX6_show : ByteArray := prog_8_method_13_code
def yX6_show : MethodName := ⟨RX6, "show", "(II)I"⟩
abbrev cX6_holds : ByteArray := prog_8_method_14_code
def yX6_holds : MethodName := ⟨RX6, "holds", "(I)I"⟩
abbrev cX6_above : ByteArray := prog_8_method_15_code
def yX6_above : MethodName := ⟨RX6, "above", "(I)I"⟩
abbrev cX6_isUnder : ByteArray := prog_8_method_16_code
def yX6_isUnder : MethodName := ⟨RX6, "isUnder", "(II)Z"⟩
abbrev cX6_says : ByteArray := prog_8_method_17_code
def yX6_says : MethodName := ⟨RX6, "says", "(II)I"⟩
abbrev cX6_newPlace : ByteArray := prog_8_method_18_code
def yX6_newPlace : MethodName := ⟨RX6, "newPlace", "(II)I"⟩
abbrev cX6_place : ByteArray := prog_8_method_19_code
def yX6_place : MethodName := ⟨RX6, "place", "(II)I"⟩
abbrev cX6_roads : ByteArray := prog_8_method_20_code
def yX6_roads : MethodName := ⟨RX6, "roads", "(I)I"⟩
abbrev cX6_placeOf : ByteArray := prog_8_method_21_code
def yX6_placeOf : MethodName := ⟨RX6, "placeOf", "(II)I"⟩
abbrev cX6_lay : ByteArray := prog_8_method_22_code
def yX6_lay : MethodName := ⟨RX6, "lay", "(III)I"⟩
abbrev cX6_road : ByteArray := prog_8_method_23_code
def yX6_road : MethodName := ⟨RX6, "road", "(III)I"⟩
abbrev cX6_miles : ByteArray := prog_8_method_24_code
def yX6_miles : MethodName := ⟨RX6, "miles", "(II)I"⟩
abbrev cX6_ask : ByteArray := prog_8_method_25_code
def yX6_ask : MethodName := ⟨RX6, "ask", "(II)I"⟩
abbrev cX6_sign : ByteArray := prog_8_method_26_code
def yX6_sign : MethodName := ⟨RX6, "sign", "()I"⟩
abbrev cX6_is : ByteArray := prog_8_method_27_code
def yX6_is : MethodName := ⟨RX6, "is", "(C)Z"⟩
abbrev cX6_word : ByteArray := prog_8_method_28_code
def yX6_word : MethodName := ⟨RX6, "word", "(Ljava/lang/String;)Z"⟩
abbrev cX6_word_ : ByteArray := prog_8_method_29_code
def yX6_word_ : MethodName := ⟨RX6, "word", "(Ljava/lang/String;Z)Z"⟩
abbrev cX6_number : ByteArray := prog_8_method_30_code
def yX6_number : MethodName := ⟨RX6, "number", "(III)Z"⟩
abbrev cX6_two : ByteArray := prog_8_method_31_code
def yX6_two : MethodName := ⟨RX6, "two", "(Z)Z"⟩
abbrev cX6_item : ByteArray := prog_8_method_32_code
def yX6_item : MethodName := ⟨RX6, "item", "()Z"⟩
abbrev cX6_map : ByteArray := prog_8_method_33_code
def yX6_map : MethodName := ⟨RX6, "map", "(I)I"⟩
abbrev cX6_fault : ByteArray := prog_8_method_34_code
def yX6_fault : MethodName := ⟨RX6, "fault", "()I"⟩
abbrev cX6_asks : ByteArray := prog_8_method_35_code
def yX6_asks : MethodName := ⟨RX6, "asks", "(II)I"⟩
abbrev cX6_costs : ByteArray := prog_8_method_36_code
def yX6_costs : MethodName := ⟨RX6, "costs", "(III)I"⟩
abbrev cX6_cost : ByteArray := prog_8_method_37_code
def yX6_cost : MethodName := ⟨RX6, "cost", "(III)I"⟩
abbrev cX6_yieldOf : ByteArray := prog_8_method_38_code
def yX6_yieldOf : MethodName := ⟨RX6, "yieldOf", "(II)I"⟩
abbrev cX6_noRoad : ByteArray := prog_8_method_39_code
def yX6_noRoad : MethodName := ⟨RX6, "noRoad", "(II)Z"⟩
abbrev cX6_yields : ByteArray := prog_8_method_40_code
def yX6_yields : MethodName := ⟨RX6, "yields", "(II)I"⟩
abbrev cX6_mills : ByteArray := prog_8_method_41_code
def yX6_mills : MethodName := ⟨RX6, "mills", "(II)V"⟩
abbrev cX6_may : ByteArray := prog_8_method_42_code
def yX6_may : MethodName := ⟨RX6, "may", "(III)Z"⟩
abbrev cX6_pinch : ByteArray := prog_8_method_43_code
def yX6_pinch : MethodName := ⟨RX6, "pinch", "(III)V"⟩
abbrev cX6_walk : ByteArray := prog_8_method_44_code
def yX6_walk : MethodName := ⟨RX6, "walk", "()V"⟩
abbrev cX6_farTold : ByteArray := prog_8_method_45_code
def yX6_farTold : MethodName := ⟨RX6, "farTold", "(II)I"⟩
abbrev cX6_away : ByteArray := prog_8_method_46_code
def yX6_away : MethodName := ⟨RX6, "away", "(II)I"⟩
abbrev cX6_next : ByteArray := prog_8_method_47_code
def yX6_next : MethodName := ⟨RX6, "next", "(II)I"⟩
abbrev cX6_shortest : ByteArray := prog_8_method_48_code
def yX6_shortest : MethodName := ⟨RX6, "shortest", "(III)I"⟩
abbrev cX6_within_ : ByteArray := prog_8_method_49_code
def yX6_within_ : MethodName := ⟨RX6, "within", "(II)I"⟩
abbrev cX6_parts : ByteArray := prog_8_method_50_code
def yX6_parts : MethodName := ⟨RX6, "parts", "()I"⟩
abbrev cX6_farthest : ByteArray := prog_8_method_51_code
def yX6_farthest : MethodName := ⟨RX6, "farthest", "(I)I"⟩
abbrev cX6_keeps : ByteArray := prog_8_method_52_code
def yX6_keeps : MethodName := ⟨RX6, "keeps", "()I"⟩
abbrev cX6_whole : ByteArray := prog_8_method_53_code
def yX6_whole : MethodName := ⟨RX6, "whole", "(I)I"⟩
abbrev cX6_harmOf : ByteArray := prog_8_method_54_code
def yX6_harmOf : MethodName := ⟨RX6, "harmOf", "(II)I"⟩
abbrev cX6_harm : ByteArray := prog_8_method_55_code
def yX6_harm : MethodName := ⟨RX6, "harm", "(III)I"⟩
abbrev cX6_leastHarm : ByteArray := prog_8_method_56_code
def yX6_leastHarm : MethodName := ⟨RX6, "leastHarm", "()I"⟩
abbrev cX6_cheapest : ByteArray := prog_8_method_57_code
def yX6_cheapest : MethodName := ⟨RX6, "cheapest", "(IIII)I"⟩
abbrev cX6_meet : ByteArray := prog_8_method_58_code
def yX6_meet : MethodName := ⟨RX6, "meet", "(II)I"⟩
abbrev cX6_told : ByteArray := prog_8_method_59_code
def yX6_told : MethodName := ⟨RX6, "told", "(II)I"⟩
abbrev cX6_noJourney : ByteArray := prog_8_method_60_code
def yX6_noJourney : MethodName := ⟨RX6, "noJourney", "(II)I"⟩
abbrev cX6_journey : ByteArray := prog_8_method_61_code
def yX6_journey : MethodName := ⟨RX6, "journey", "(IIII)I"⟩
abbrev cX6_pairs : ByteArray := prog_8_method_62_code
def yX6_pairs : MethodName := ⟨RX6, "pairs", "()I"⟩
abbrev cX6_noTable : ByteArray := prog_8_method_63_code
def yX6_noTable : MethodName := ⟨RX6, "noTable", "(I)I"⟩
abbrev cX6_pair : ByteArray := prog_8_method_64_code
def yX6_pair : MethodName := ⟨RX6, "pair", "(II)I"⟩
abbrev cX6_judge : ByteArray := prog_8_method_65_code
def yX6_judge : MethodName := ⟨RX6, "judge", "(I)I"⟩
abbrev cX6_mend : ByteArray := prog_8_method_66_code
def yX6_mend : MethodName := ⟨RX6, "mend", "(I)I"⟩
abbrev cX6_noPinches : ByteArray := prog_8_method_67_code
def yX6_noPinches : MethodName := ⟨RX6, "noPinches", "(II)I"⟩
abbrev cX6_pinched : ByteArray := prog_8_method_68_code
def yX6_pinched : MethodName := ⟨RX6, "pinched", "(II)I"⟩
abbrev cX6_pinches : ByteArray := prog_8_method_69_code
def yX6_pinches : MethodName := ⟨RX6, "pinches", "(II)I"⟩
abbrev cX6_left : ByteArray := prog_8_method_70_code
def yX6_left : MethodName := ⟨RX6, "left", "(II)I"⟩
abbrev cX6_done : ByteArray := prog_8_method_71_code
def yX6_done : MethodName := ⟨RX6, "done", "(II)I"⟩
abbrev cX6_theft : ByteArray := prog_8_method_72_code
def yX6_theft : MethodName := ⟨RX6, "theft", "(II)I"⟩
abbrev cX6_mill : ByteArray := prog_8_method_73_code
def yX6_mill : MethodName := ⟨RX6, "mill", "(II)I"⟩
abbrev cX6_spread : ByteArray := prog_8_method_74_code
def yX6_spread : MethodName := ⟨RX6, "spread", "(III)I"⟩
abbrev cX6_draw : ByteArray := prog_8_method_75_code
def yX6_draw : MethodName := ⟨RX6, "draw", "(I)I"⟩
abbrev cX6_gale : ByteArray := prog_8_method_76_code
def yX6_gale : MethodName := ⟨RX6, "gale", "(I)I"⟩
abbrev cX6_seed : ByteArray := prog_8_method_77_code
def yX6_seed : MethodName := ⟨RX6, "seed", "(I)I"⟩
abbrev cX6_ran : ByteArray := prog_8_method_78_code
def yX6_ran : MethodName := ⟨RX6, "ran", "(I)V"⟩
abbrev cX6_grinds : ByteArray := prog_8_method_79_code
def yX6_grinds : MethodName := ⟨RX6, "grinds", "(II)I"⟩
abbrev cX6_strews : ByteArray := prog_8_method_80_code
def yX6_strews : MethodName := ⟨RX6, "strews", "(II)I"⟩
abbrev cX6_blows : ByteArray := prog_8_method_81_code
def yX6_blows : MethodName := ⟨RX6, "blows", "(II)I"⟩
abbrev cX6_act : ByteArray := prog_8_method_82_code
def yX6_act : MethodName := ⟨RX6, "act", "(III)I"⟩
abbrev cX6_trace : ByteArray := prog_8_method_83_code
def yX6_trace : MethodName := ⟨RX6, "trace", "(I)I"⟩
abbrev cX6_keep : ByteArray := prog_8_method_84_code
def yX6_keep : MethodName := ⟨RX6, "keep", "([I)V"⟩
abbrev cX6_again : ByteArray := prog_8_method_85_code
def yX6_again : MethodName := ⟨RX6, "again", "([I)V"⟩
abbrev cX6_image : ByteArray := prog_8_method_86_code
def yX6_image : MethodName := ⟨RX6, "image", "()I"⟩
abbrev cX6_restore : ByteArray := prog_8_method_87_code
def yX6_restore : MethodName := ⟨RX6, "restore", "()I"⟩
abbrev cX6_status : ByteArray := prog_8_method_88_code
def yX6_status : MethodName := ⟨RX6, "status", "(I)I"⟩
def RJx145de : String := "java/io/Serializable"
def TJx145de : u_T := fun k => match k with
  | _ => ("", "", "", false)
def tyJx145de : Nat → FieldType := fun k => match k with
  | _ => .int
theorem nmJx145de : ∀ a, a < 0 → ∀ b, b < 0 → a ≠ b → (TJx145de a).2.1 ≠ (TJx145de b).2.1 := by decide +kernel
theorem tyJx145de_ok : ∀ k, k < 0 → parseFieldDescriptor (TJx145de k).2.2.1 = some (tyJx145de k) := by decide +kernel
def RJx9f9b0 : String := "java/lang/CharSequence"
def TJx9f9b0 : u_T := fun k => match k with
  | _ => ("", "", "", false)
def tyJx9f9b0 : Nat → FieldType := fun k => match k with
  | _ => .int
theorem nmJx9f9b0 : ∀ a, a < 0 → ∀ b, b < 0 → a ≠ b → (TJx9f9b0 a).2.1 ≠ (TJx9f9b0 b).2.1 := by decide +kernel
theorem tyJx9f9b0_ok : ∀ k, k < 0 → parseFieldDescriptor (TJx9f9b0 k).2.2.1 = some (tyJx9f9b0 k) := by decide +kernel
def RJxb160c : String := "java/lang/Comparable"
def TJxb160c : u_T := fun k => match k with
  | _ => ("", "", "", false)
def tyJxb160c : Nat → FieldType := fun k => match k with
  | _ => .int
theorem nmJxb160c : ∀ a, a < 0 → ∀ b, b < 0 → a ≠ b → (TJxb160c a).2.1 ≠ (TJxb160c b).2.1 := by decide +kernel
theorem tyJxb160c_ok : ∀ k, k < 0 → parseFieldDescriptor (TJxb160c k).2.2.1 = some (tyJxb160c k) := by decide +kernel
def RJ6 : String := "java/lang/Integer"
def TJ6 : u_T := fun k => match k with
  | _ => ("", "", "", false)
def tyJ6 : Nat → FieldType := fun k => match k with
  | _ => .int
theorem nmJ6 : ∀ a, a < 0 → ∀ b, b < 0 → a ≠ b → (TJ6 a).2.1 ≠ (TJ6 b).2.1 := by decide +kernel
theorem tyJ6_ok : ∀ k, k < 0 → parseFieldDescriptor (TJ6 k).2.2.1 = some (tyJ6 k) := by decide +kernel
abbrev cJ6_numberOfTrailingZeros_0f7a4 : ByteArray := prog_9_method_48_code
def yJ6_numberOfTrailingZeros_0f7a4 : MethodName := ⟨RJ6, "numberOfTrailingZeros", "(I)I"⟩
abbrev cJ6_bitCount_0f7a4 : ByteArray := prog_9_method_49_code
def yJ6_bitCount_0f7a4 : MethodName := ⟨RJ6, "bitCount", "(I)I"⟩
def RJ9 : String := "java/lang/Math"
def TJ9 : u_T := fun k => match k with
  | _ => ("", "", "", false)
def tyJ9 : Nat → FieldType := fun k => match k with
  | _ => .int
theorem nmJ9 : ∀ a, a < 0 → ∀ b, b < 0 → a ≠ b → (TJ9 a).2.1 ≠ (TJ9 b).2.1 := by decide +kernel
theorem tyJ9_ok : ∀ k, k < 0 → parseFieldDescriptor (TJ9 k).2.2.1 = some (tyJ9 k) := by decide +kernel
abbrev cJ9_abs_0f7a4 : ByteArray := prog_10_method_59_code
def yJ9_abs_0f7a4 : MethodName := ⟨RJ9, "abs", "(I)I"⟩
abbrev cJ9_max_7cf53 : ByteArray := prog_10_method_65_code
def yJ9_max_7cf53 : MethodName := ⟨RJ9, "max", "(II)I"⟩
abbrev cJ9_max_f86c9 : ByteArray := prog_10_method_66_code
def yJ9_max_f86c9 : MethodName := ⟨RJ9, "max", "(JJ)J"⟩
abbrev cJ9_min_7cf53 : ByteArray := prog_10_method_69_code
def yJ9_min_7cf53 : MethodName := ⟨RJ9, "min", "(II)I"⟩
abbrev cJ9_min_f86c9 : ByteArray := prog_10_method_70_code
def yJ9_min_f86c9 : MethodName := ⟨RJ9, "min", "(JJ)J"⟩
def RJ0 : String := "java/lang/String"
def TJ0 : u_T := fun k => match k with
  | _ => ("", "", "", false)
def tyJ0 : Nat → FieldType := fun k => match k with
  | _ => .int
theorem nmJ0 : ∀ a, a < 0 → ∀ b, b < 0 → a ≠ b → (TJ0 a).2.1 ≠ (TJ0 b).2.1 := by decide +kernel
theorem tyJ0_ok : ∀ k, k < 0 → parseFieldDescriptor (TJ0 k).2.2.1 = some (tyJ0 k) := by decide +kernel
abbrev cJ0_length_8abf5 : ByteArray := prog_11_method_54_code
def yJ0_length_8abf5 : MethodName := ⟨RJ0, "length", "()I"⟩
abbrev cJ0_charAt_5068e : ByteArray := prog_11_method_56_code
def yJ0_charAt_5068e : MethodName := ⟨RJ0, "charAt", "(I)C"⟩
abbrev cJ0_coder_7d493 : ByteArray := prog_11_method_152_code
def yJ0_coder_7d493 : MethodName := ⟨RJ0, "coder", "()B"⟩
abbrev cJ0_isLatin1_aae02 : ByteArray := prog_11_method_154_code
def yJ0_isLatin1_aae02 : MethodName := ⟨RJ0, "isLatin1", "()Z"⟩
abbrev cJ0_checkIndex_df160 : ByteArray := prog_11_method_155_code
def yJ0_checkIndex_df160 : MethodName := ⟨RJ0, "checkIndex", "(II)V"⟩
def RJ1 : String := "java/lang/StringLatin1"
def TJ1 : u_T := fun k => match k with
  | _ => ("", "", "", false)
def tyJ1 : Nat → FieldType := fun k => match k with
  | _ => .int
theorem nmJ1 : ∀ a, a < 0 → ∀ b, b < 0 → a ≠ b → (TJ1 a).2.1 ≠ (TJ1 b).2.1 := by decide +kernel
theorem tyJ1_ok : ∀ k, k < 0 → parseFieldDescriptor (TJ1 k).2.2.1 = some (tyJ1 k) := by decide +kernel
abbrev cJ1_charAt_3b067 : ByteArray := prog_12_method_2_code
def yJ1_charAt_3b067 : MethodName := ⟨RJ1, "charAt", "([BI)C"⟩
def RJ2 : String := "java/lang/StringUTF16"
def TJ2 : u_T := fun k => match k with
  | _ => ("", "", "", false)
def tyJ2 : Nat → FieldType := fun k => match k with
  | _ => .int
theorem nmJ2 : ∀ a, a < 0 → ∀ b, b < 0 → a ≠ b → (TJ2 a).2.1 ≠ (TJ2 b).2.1 := by decide +kernel
theorem tyJ2_ok : ∀ k, k < 0 → parseFieldDescriptor (TJ2 k).2.2.1 = some (tyJ2 k) := by decide +kernel
abbrev cJ2_getChar_3b067 : ByteArray := prog_13_method_5_code
def yJ2_getChar_3b067 : MethodName := ⟨RJ2, "getChar", "([BI)C"⟩
abbrev cJ2_length_9d52b : ByteArray := prog_13_method_6_code
def yJ2_length_9d52b : MethodName := ⟨RJ2, "length", "([B)I"⟩
abbrev cJ2_charAt_3b067 : ByteArray := prog_13_method_83_code
def yJ2_charAt_3b067 : MethodName := ⟨RJ2, "charAt", "([BI)C"⟩
abbrev cJ2_checkIndex_2214a : ByteArray := prog_13_method_91_code
def yJ2_checkIndex_2214a : MethodName := ⟨RJ2, "checkIndex", "(I[B)V"⟩
def RJ10 : String := "java/lang/System"
def TJ10 : u_T := fun k => match k with
  | _ => ("", "", "", false)
def tyJ10 : Nat → FieldType := fun k => match k with
  | _ => .int
theorem nmJ10 : ∀ a, a < 0 → ∀ b, b < 0 → a ≠ b → (TJ10 a).2.1 ≠ (TJ10 b).2.1 := by decide +kernel
theorem tyJ10_ok : ∀ k, k < 0 → parseFieldDescriptor (TJ10 k).2.2.1 = some (tyJ10 k) := by decide +kernel
def RJxfd54e : String := "java/lang/constant/Constable"
def TJxfd54e : u_T := fun k => match k with
  | _ => ("", "", "", false)
def tyJxfd54e : Nat → FieldType := fun k => match k with
  | _ => .int
theorem nmJxfd54e : ∀ a, a < 0 → ∀ b, b < 0 → a ≠ b → (TJxfd54e a).2.1 ≠ (TJxfd54e b).2.1 := by decide +kernel
theorem tyJxfd54e_ok : ∀ k, k < 0 → parseFieldDescriptor (TJxfd54e k).2.2.1 = some (tyJxfd54e k) := by decide +kernel
def RJx3cf43 : String := "java/lang/constant/ConstantDesc"
def TJx3cf43 : u_T := fun k => match k with
  | _ => ("", "", "", false)
def tyJx3cf43 : Nat → FieldType := fun k => match k with
  | _ => .int
theorem nmJx3cf43 : ∀ a, a < 0 → ∀ b, b < 0 → a ≠ b → (TJx3cf43 a).2.1 ≠ (TJx3cf43 b).2.1 := by decide +kernel
theorem tyJx3cf43_ok : ∀ k, k < 0 → parseFieldDescriptor (TJx3cf43 k).2.2.1 = some (tyJx3cf43 k) := by decide +kernel
def RJ7 : String := "java/util/Arrays"
def TJ7 : u_T := fun k => match k with
  | _ => ("", "", "", false)
def tyJ7 : Nat → FieldType := fun k => match k with
  | _ => .int
theorem nmJ7 : ∀ a, a < 0 → ∀ b, b < 0 → a ≠ b → (TJ7 a).2.1 ≠ (TJ7 b).2.1 := by decide +kernel
theorem tyJ7_ok : ∀ k, k < 0 → parseFieldDescriptor (TJ7 k).2.2.1 = some (tyJ7 k) := by decide +kernel
abbrev cJ7_fill_d0a16 : ByteArray := prog_15_method_101_code
def yJ7_fill_d0a16 : MethodName := ⟨RJ7, "fill", "([JJ)V"⟩
def RJ3 : String := "jdk/internal/util/Preconditions"
def TJ3 : u_T := fun k => match k with
  | _ => ("", "", "", false)
def tyJ3 : Nat → FieldType := fun k => match k with
  | _ => .int
theorem nmJ3 : ∀ a, a < 0 → ∀ b, b < 0 → a ≠ b → (TJ3 a).2.1 ≠ (TJ3 b).2.1 := by decide +kernel
theorem tyJ3_ok : ∀ k, k < 0 → parseFieldDescriptor (TJ3 k).2.2.1 = some (tyJ3 k) := by decide +kernel
abbrev cJ3_checkIndex_8e157 : ByteArray := prog_16_method_11_code
def yJ3_checkIndex_8e157 : MethodName := ⟨RJ3, "checkIndex", "(IILjava/util/function/BiFunction;)I"⟩
def RL : String := "MillOfDistancesLaw"
abbrev cL_law : ByteArray := code
def yL_law : MethodName := ⟨RL, "law", "([I)Z"⟩
/-- decode rows of a method: place, instruction, length, the next place -/
abbrev DRow : Type := Nat × Instr × Nat × Nat
def decOK (cc : ByteArray) (L : List DRow) : Bool := L.all (fun q => decide (decode cc q.1 = .ok (q.2.1, q.2.2.1)) && (q.1 + q.2.2.1 == q.2.2.2))
def Dq (cc : ByteArray) (pc : Nat) (i : Instr) (n q : Nat) : Prop := decode cc pc = .ok (i, n) ∧ pc + n = q
theorem dAt {cc : ByteArray} {L : List DRow} (h : decOK cc L = true) (k : Nat) {pc n q : Nat} {i : Instr} (hk : L[k]? = some (pc, i, n, q)) : Dq cc pc i n q := by
  have h1 := List.all_eq_true.mp h _ (List.mem_of_getElem? hk)
  simp only [Bool.and_eq_true, decide_eq_true_eq, beq_iff_eq] at h1
  exact h1
def dl_X0_init : List DRow := [(0, .aload_n 0, 1, 1), (1, .invokespecial 3, 3, 4), (4, .aload_n 0, 1, 5), (5, .bipush 20, 2, 7), (7, .newarray .int, 2, 9), (9, .putfield 9, 3, 12), (12, .return_, 1, 13)]
theorem dk_X0_init : decOK cX0_init dl_X0_init = true := by decide +kernel
def dl_X0_forget : List DRow := [(0, .aload_n 0, 1, 1), (1, .iconst 0, 1, 2), (2, .putfield 15, 3, 5), (5, .return_, 1, 6)]
theorem dk_X0_forget : decOK cX0_forget dl_X0_forget = true := by decide +kernel
def dl_X0_traced : List DRow := [(0, .iload_n 1, 1, 1), (1, .ifCond .lt 26, 3, 4), (4, .iload_n 1, 1, 5), (5, .aload_n 0, 1, 6), (6, .getfield 15, 3, 9), (9, .if_icmp .ge 18, 3, 12), (12, .iload_n 1, 1, 13), (13, .bipush 20, 2, 15), (15, .if_icmp .ge 12, 3, 18), (18, .aload_n 0, 1, 19), (19, .getfield 9, 3, 22), (22, .iload_n 1, 1, 23), (23, .iaload, 1, 24), (24, .goto 4, 3, 27), (27, .iconst (-1), 1, 28), (28, .ireturn, 1, 29)]
theorem dk_X0_traced : decOK cX0_traced dl_X0_traced = true := by decide +kernel
def dl_X0_perform : List DRow := [(0, .aload_n 0, 1, 1), (1, .iload_n 1, 1, 2), (2, .putfield 19, 3, 5), (5, .aload_n 0, 1, 6), (6, .iload_n 2, 1, 7), (7, .putfield 22, 3, 10), (10, .aload_n 0, 1, 11), (11, .iload_n 3, 1, 12), (12, .putfield 25, 3, 15), (15, .aload_n 0, 1, 16), (16, .aload_n 0, 1, 17), (17, .getfield 19, 3, 20), (20, .iload 4, 2, 22), (22, .iload 5, 2, 24), (24, .iconst 0, 1, 25), (25, .invokestatic 28, 3, 28), (28, .ireturn, 1, 29)]
theorem dk_X0_perform : decOK cX0_perform dl_X0_perform = true := by decide +kernel
def dl_X0_bodyFrom : List DRow := [(0, .iload_n 0, 1, 1), (1, .istore_n 2, 1, 2), (2, .iconst 0, 1, 3), (3, .istore_n 3, 1, 4), (4, .iload_n 3, 1, 5), (5, .iconst 3, 1, 6), (6, .if_icmp .ge 58, 3, 9), (9, .iload_n 2, 1, 10), (10, .invokestatic 32, 3, 13), (13, .ifCond .eq 51, 3, 16), (16, .iconst 3, 1, 17), (17, .iload_n 2, 1, 18), (18, .imul, 1, 19), (19, .iload_n 1, 1, 20), (20, .iadd, 1, 21), (21, .istore 4, 2, 23), (23, .iload 4, 2, 25), (25, .ifCond .lt 28, 3, 28), (28, .iload 4, 2, 30), (30, .getstatic 36, 3, 33), (33, .arraylength, 1, 34), (34, .if_icmp .ge 19, 3, 37), (37, .getstatic 36, 3, 40), (40, .iload 4, 2, 42), (42, .iaload, 1, 43), (43, .ifCond .eq 10, 3, 46), (46, .getstatic 36, 3, 49), (49, .iload 4, 2, 51), (51, .iaload, 1, 52), (52, .ireturn, 1, 53), (53, .iload_n 2, 1, 54), (54, .invokestatic 39, 3, 57), (57, .istore_n 2, 1, 58), (58, .iinc 3 1, 3, 61), (61, .goto (-57), 3, 64), (64, .iconst 0, 1, 65), (65, .ireturn, 1, 66)]
theorem dk_X0_bodyFrom : decOK cX0_bodyFrom dl_X0_bodyFrom = true := by decide +kernel
def dl_X0_noteBody : List DRow := [(0, .aload_n 0, 1, 1), (1, .getfield 15, 3, 4), (4, .bipush 20, 2, 6), (6, .if_icmp .ge 13, 3, 9), (9, .aload_n 0, 1, 10), (10, .getfield 9, 3, 13), (13, .aload_n 0, 1, 14), (14, .getfield 15, 3, 17), (17, .iload_n 1, 1, 18), (18, .iastore, 1, 19), (19, .aload_n 0, 1, 20), (20, .dup, 1, 21), (21, .getfield 15, 3, 24), (24, .iconst 1, 1, 25), (25, .iadd, 1, 26), (26, .putfield 15, 3, 29), (29, .return_, 1, 30)]
theorem dk_X0_noteBody : decOK cX0_noteBody dl_X0_noteBody = true := by decide +kernel
def dl_X0_run : List DRow := [(0, .iload_n 1, 1, 1), (1, .iload_n 2, 1, 2), (2, .invokestatic 43, 3, 5), (5, .istore 5, 2, 7), (7, .iload 5, 2, 9), (9, .ifCond .eq 10, 3, 12), (12, .iload 4, 2, 14), (14, .bipush 40, 2, 16), (16, .if_icmp .le 5, 3, 19), (19, .iconst 0, 1, 20), (20, .ireturn, 1, 21), (21, .aload_n 0, 1, 22), (22, .iload 5, 2, 24), (24, .invokevirtual 47, 3, 27), (27, .iload 5, 2, 29), (29, .bipush 10, 2, 31), (31, .idiv, 1, 32), (32, .iconst 1, 1, 33), (33, .isub, 1, 34), (34, .invokestatic 39, 3, 37), (37, .istore 6, 2, 39), (39, .iload 4, 2, 41), (41, .iconst 1, 1, 42), (42, .iadd, 1, 43), (43, .istore 7, 2, 45), (45, .iload 5, 2, 47), (47, .lookupswitch 238 #[(10, 89), (11, 96), (12, 111), (20, 142), (30, 158), (40, 171), (50, 184), (51, 196), (60, 212), (70, 225)], 89, 136), (136, .iload_n 3, 1, 137), (137, .aload_n 0, 1, 138), (138, .getfield 22, 3, 141), (141, .iadd, 1, 142), (142, .ireturn, 1, 143), (143, .aload_n 0, 1, 144), (144, .aload_n 0, 1, 145), (145, .getfield 19, 3, 148), (148, .iconst 0, 1, 149), (149, .iload_n 3, 1, 150), (150, .iload 7, 2, 152), (152, .invokestatic 28, 3, 155), (155, .iconst 2, 1, 156), (156, .imul, 1, 157), (157, .ireturn, 1, 158), (158, .aload_n 0, 1, 159), (159, .aload_n 0, 1, 160), (160, .getfield 19, 3, 163), (163, .iconst 1, 1, 164), (164, .iload_n 3, 1, 165), (165, .iload 7, 2, 167), (167, .invokestatic 28, 3, 170), (170, .aload_n 0, 1, 171), (171, .aload_n 0, 1, 172), (172, .getfield 19, 3, 175), (175, .iconst 0, 1, 176), (176, .iload_n 3, 1, 177), (177, .aload_n 0, 1, 178), (178, .getfield 25, 3, 181), (181, .isub, 1, 182), (182, .iload 7, 2, 184), (184, .invokestatic 28, 3, 187), (187, .ixor, 1, 188), (188, .ireturn, 1, 189), (189, .aload_n 0, 1, 190), (190, .iload 6, 2, 192), (192, .iconst 0, 1, 193), (193, .iload_n 3, 1, 194), (194, .iload 7, 2, 196), (196, .invokestatic 28, 3, 199), (199, .aload_n 0, 1, 200), (200, .getfield 25, 3, 203), (203, .iadd, 1, 204), (204, .ireturn, 1, 205), (205, .aload_n 0, 1, 206), (206, .iload 6, 2, 208), (208, .iconst 1, 1, 209), (209, .iload_n 3, 1, 210), (210, .iload 7, 2, 212), (212, .invokestatic 28, 3, 215), (215, .iconst 3, 1, 216), (216, .imul, 1, 217), (217, .ireturn, 1, 218), (218, .aload_n 0, 1, 219), (219, .iload 6, 2, 221), (221, .iconst 1, 1, 222), (222, .iload_n 3, 1, 223), (223, .iconst 1, 1, 224), (224, .iadd, 1, 225), (225, .iload 7, 2, 227), (227, .invokestatic 28, 3, 230), (230, .ireturn, 1, 231), (231, .aload_n 0, 1, 232), (232, .iload 6, 2, 234), (234, .iconst 2, 1, 235), (235, .iload_n 3, 1, 236), (236, .iload 7, 2, 238), (238, .invokestatic 28, 3, 241), (241, .ineg, 1, 242), (242, .ireturn, 1, 243), (243, .aload_n 0, 1, 244), (244, .iload 6, 2, 246), (246, .iconst 0, 1, 247), (247, .iload_n 3, 1, 248), (248, .iload 7, 2, 250), (250, .invokestatic 28, 3, 253), (253, .aload_n 0, 1, 254), (254, .getfield 22, 3, 257), (257, .isub, 1, 258), (258, .ireturn, 1, 259), (259, .aload_n 0, 1, 260), (260, .iload 6, 2, 262), (262, .iconst 2, 1, 263), (263, .iload_n 3, 1, 264), (264, .iload 7, 2, 266), (266, .invokestatic 28, 3, 269), (269, .iconst 5, 1, 270), (270, .ixor, 1, 271), (271, .ireturn, 1, 272), (272, .aload_n 0, 1, 273), (273, .iload 6, 2, 275), (275, .iconst 0, 1, 276), (276, .iload_n 3, 1, 277), (277, .iload 7, 2, 279), (279, .invokestatic 28, 3, 282), (282, .iconst 2, 1, 283), (283, .imul, 1, 284), (284, .ireturn, 1, 285), (285, .aload_n 0, 1, 286), (286, .iload 6, 2, 288), (288, .iconst 1, 1, 289), (289, .iload_n 3, 1, 290), (290, .aload_n 0, 1, 291), (291, .getfield 25, 3, 294), (294, .isub, 1, 295), (295, .iload 7, 2, 297), (297, .invokestatic 28, 3, 300), (300, .ireturn, 1, 301)]
theorem dk_X0_run : decOK cX0_run dl_X0_run = true := by decide +kernel
def dl_X1_init : List DRow := [(0, .aload_n 0, 1, 1), (1, .invokespecial 3, 3, 4), (4, .aload_n 0, 1, 5), (5, .bipush 8, 2, 7), (7, .newarray .int, 2, 9), (9, .putfield 9, 3, 12), (12, .aload_n 0, 1, 13), (13, .bipush 8, 2, 15), (15, .newarray .int, 2, 17), (17, .putfield 15, 3, 20), (20, .aload_n 0, 1, 21), (21, .bipush 64, 2, 23), (23, .newarray .int, 2, 25), (25, .putfield 18, 3, 28), (28, .aload_n 0, 1, 29), (29, .iconst 1, 1, 30), (30, .putfield 21, 3, 33), (33, .return_, 1, 34)]
theorem dk_X1_init : decOK cX1_init dl_X1_init = true := by decide +kernel
def dl_X1_becomeAs : List DRow := [(0, .aload_n 1, 1, 1), (1, .getfield 9, 3, 4), (4, .iconst 0, 1, 5), (5, .aload_n 0, 1, 6), (6, .getfield 9, 3, 9), (9, .iconst 0, 1, 10), (10, .bipush 8, 2, 12), (12, .invokestatic 25, 3, 15), (15, .aload_n 1, 1, 16), (16, .getfield 15, 3, 19), (19, .iconst 0, 1, 20), (20, .aload_n 0, 1, 21), (21, .getfield 15, 3, 24), (24, .iconst 0, 1, 25), (25, .bipush 8, 2, 27), (27, .invokestatic 25, 3, 30), (30, .aload_n 1, 1, 31), (31, .getfield 18, 3, 34), (34, .iconst 0, 1, 35), (35, .aload_n 0, 1, 36), (36, .getfield 18, 3, 39), (39, .iconst 0, 1, 40), (40, .bipush 64, 2, 42), (42, .invokestatic 25, 3, 45), (45, .aload_n 0, 1, 46), (46, .aload_n 1, 1, 47), (47, .getfield 31, 3, 50), (50, .putfield 31, 3, 53), (53, .aload_n 0, 1, 54), (54, .aload_n 1, 1, 55), (55, .getfield 34, 3, 58), (58, .putfield 34, 3, 61), (61, .aload_n 0, 1, 62), (62, .aload_n 1, 1, 63), (63, .getfield 37, 3, 66), (66, .putfield 37, 3, 69), (69, .aload_n 0, 1, 70), (70, .aload_n 1, 1, 71), (71, .getfield 21, 3, 74), (74, .putfield 21, 3, 77), (77, .return_, 1, 78)]
theorem dk_X1_becomeAs : decOK cX1_becomeAs dl_X1_becomeAs = true := by decide +kernel
def dl_X1_has : List DRow := [(0, .iload_n 1, 1, 1), (1, .ifCond .lt 15, 3, 4), (4, .iload_n 1, 1, 5), (5, .aload_n 0, 1, 6), (6, .getfield 31, 3, 9), (9, .if_icmp .ge 7, 3, 12), (12, .iconst 1, 1, 13), (13, .goto 4, 3, 16), (16, .iconst 0, 1, 17), (17, .ireturn, 1, 18)]
theorem dk_X1_has : decOK cX1_has dl_X1_has = true := by decide +kernel
def dl_X1_hasBoth : List DRow := [(0, .iload_n 1, 1, 1), (1, .ifCond .lt 27, 3, 4), (4, .iload_n 1, 1, 5), (5, .aload_n 0, 1, 6), (6, .getfield 31, 3, 9), (9, .if_icmp .ge 19, 3, 12), (12, .iload_n 2, 1, 13), (13, .ifCond .lt 15, 3, 16), (16, .iload_n 2, 1, 17), (17, .aload_n 0, 1, 18), (18, .getfield 31, 3, 21), (21, .if_icmp .ge 7, 3, 24), (24, .iconst 1, 1, 25), (25, .goto 4, 3, 28), (28, .iconst 0, 1, 29), (29, .ireturn, 1, 30)]
theorem dk_X1_hasBoth : decOK cX1_hasBoth dl_X1_hasBoth = true := by decide +kernel
def dl_X1_hasRoom : List DRow := [(0, .aload_n 0, 1, 1), (1, .getfield 31, 3, 4), (4, .bipush 8, 2, 6), (6, .if_icmp .ge 7, 3, 9), (9, .iconst 1, 1, 10), (10, .goto 4, 3, 13), (13, .iconst 0, 1, 14), (14, .ireturn, 1, 15)]
theorem dk_X1_hasRoom : decOK cX1_hasRoom dl_X1_hasRoom = true := by decide +kernel
def dl_X1_found : List DRow := [(0, .aload_n 0, 1, 1), (1, .invokevirtual 40, 3, 4), (4, .ifCond .ne 5, 3, 7), (7, .iconst (-1), 1, 8), (8, .ireturn, 1, 9), (9, .aload_n 0, 1, 10), (10, .getfield 9, 3, 13), (13, .aload_n 0, 1, 14), (14, .getfield 31, 3, 17), (17, .iload_n 1, 1, 18), (18, .iastore, 1, 19), (19, .aload_n 0, 1, 20), (20, .getfield 15, 3, 23), (23, .aload_n 0, 1, 24), (24, .getfield 31, 3, 27), (27, .iload_n 2, 1, 28), (28, .iastore, 1, 29), (29, .aload_n 0, 1, 30), (30, .dup, 1, 31), (31, .getfield 31, 3, 34), (34, .iconst 1, 1, 35), (35, .iadd, 1, 36), (36, .putfield 31, 3, 39), (39, .aload_n 0, 1, 40), (40, .getfield 31, 3, 43), (43, .iconst 1, 1, 44), (44, .isub, 1, 45), (45, .ireturn, 1, 46)]
theorem dk_X1_found : decOK cX1_found dl_X1_found = true := by decide +kernel
def dl_X1_isOf : List DRow := [(0, .iload_n 1, 1, 1), (1, .ifCond .lt 20, 3, 4), (4, .iload_n 1, 1, 5), (5, .aload_n 0, 1, 6), (6, .getfield 31, 3, 9), (9, .if_icmp .ge 12, 3, 12), (12, .aload_n 0, 1, 13), (13, .getfield 9, 3, 16), (16, .iload_n 1, 1, 17), (17, .iaload, 1, 18), (18, .goto 4, 3, 21), (21, .iconst (-1), 1, 22), (22, .istore_n 3, 1, 23), (23, .iconst 0, 1, 24), (24, .istore 4, 2, 26), (26, .iload 4, 2, 28), (28, .iconst 3, 1, 29), (29, .if_icmp .ge 34, 3, 32), (32, .iload_n 3, 1, 33), (33, .ifCond .lt 30, 3, 36), (36, .iload_n 3, 1, 37), (37, .getstatic 44, 3, 40), (40, .arraylength, 1, 41), (41, .if_icmp .ge 22, 3, 44), (44, .iload_n 3, 1, 45), (45, .iload_n 2, 1, 46), (46, .if_icmp .ne 5, 3, 49), (49, .iconst 1, 1, 50), (50, .ireturn, 1, 51), (51, .getstatic 44, 3, 54), (54, .iload_n 3, 1, 55), (55, .iaload, 1, 56), (56, .istore_n 3, 1, 57), (57, .iinc 4 1, 3, 60), (60, .goto (-34), 3, 63), (63, .iconst 0, 1, 64), (64, .ireturn, 1, 65)]
theorem dk_X1_isOf : decOK cX1_isOf dl_X1_isOf = true := by decide +kernel
def dl_X1_between : List DRow := [(0, .iload_n 1, 1, 1), (1, .ifCond .lt 37, 3, 4), (4, .iload_n 1, 1, 5), (5, .aload_n 0, 1, 6), (6, .getfield 31, 3, 9), (9, .if_icmp .ge 29, 3, 12), (12, .iload_n 2, 1, 13), (13, .ifCond .lt 25, 3, 16), (16, .iload_n 2, 1, 17), (17, .aload_n 0, 1, 18), (18, .getfield 31, 3, 21), (21, .if_icmp .ge 17, 3, 24), (24, .aload_n 0, 1, 25), (25, .getfield 18, 3, 28), (28, .iload_n 1, 1, 29), (29, .bipush 8, 2, 31), (31, .imul, 1, 32), (32, .iload_n 2, 1, 33), (33, .iadd, 1, 34), (34, .iaload, 1, 35), (35, .goto 4, 3, 38), (38, .iconst 0, 1, 39), (39, .ireturn, 1, 40)]
theorem dk_X1_between : decOK cX1_between dl_X1_between = true := by decide +kernel
def dl_X1_lay : List DRow := [(0, .aload_n 0, 1, 1), (1, .iload_n 1, 1, 2), (2, .iload_n 2, 1, 3), (3, .invokevirtual 47, 3, 6), (6, .ifCond .eq 32, 3, 9), (9, .iload_n 1, 1, 10), (10, .iload_n 2, 1, 11), (11, .if_icmp .eq 27, 3, 14), (14, .aload_n 0, 1, 15), (15, .getfield 18, 3, 18), (18, .iload_n 1, 1, 19), (19, .bipush 8, 2, 21), (21, .imul, 1, 22), (22, .iload_n 2, 1, 23), (23, .iadd, 1, 24), (24, .iload_n 3, 1, 25), (25, .iastore, 1, 26), (26, .aload_n 0, 1, 27), (27, .getfield 18, 3, 30), (30, .iload_n 2, 1, 31), (31, .bipush 8, 2, 33), (33, .imul, 1, 34), (34, .iload_n 1, 1, 35), (35, .iadd, 1, 36), (36, .iload_n 3, 1, 37), (37, .iastore, 1, 38), (38, .return_, 1, 39)]
theorem dk_X1_lay : decOK cX1_lay dl_X1_lay = true := by decide +kernel
def dl_X1_neighbours : List DRow := [(0, .iconst 0, 1, 1), (1, .istore_n 2, 1, 2), (2, .iconst 0, 1, 3), (3, .istore_n 3, 1, 4), (4, .iload_n 3, 1, 5), (5, .aload_n 0, 1, 6), (6, .getfield 31, 3, 9), (9, .if_icmp .ge 24, 3, 12), (12, .aload_n 0, 1, 13), (13, .iload_n 1, 1, 14), (14, .iload_n 3, 1, 15), (15, .invokevirtual 51, 3, 18), (18, .ifCond .eq 9, 3, 21), (21, .iload_n 2, 1, 22), (22, .iconst 1, 1, 23), (23, .iload_n 3, 1, 24), (24, .ishl, 1, 25), (25, .ior, 1, 26), (26, .istore_n 2, 1, 27), (27, .iinc 3 1, 3, 30), (30, .goto (-26), 3, 33), (33, .iload_n 2, 1, 34), (34, .ireturn, 1, 35)]
theorem dk_X1_neighbours : decOK cX1_neighbours dl_X1_neighbours = true := by decide +kernel
def dl_X1_milesOf : List DRow := [(0, .iconst 0, 1, 1), (1, .istore_n 2, 1, 2), (2, .iconst 0, 1, 3), (3, .istore_n 3, 1, 4), (4, .iload_n 3, 1, 5), (5, .aload_n 0, 1, 6), (6, .getfield 31, 3, 9), (9, .if_icmp .ge 18, 3, 12), (12, .iload_n 2, 1, 13), (13, .aload_n 0, 1, 14), (14, .iload_n 1, 1, 15), (15, .iload_n 3, 1, 16), (16, .invokevirtual 51, 3, 19), (19, .iadd, 1, 20), (20, .istore_n 2, 1, 21), (21, .iinc 3 1, 3, 24), (24, .goto (-20), 3, 27), (27, .iload_n 2, 1, 28), (28, .ireturn, 1, 29)]
theorem dk_X1_milesOf : decOK cX1_milesOf dl_X1_milesOf = true := by decide +kernel
def dl_X1_countRoads : List DRow := [(0, .iconst 0, 1, 1), (1, .istore_n 1, 1, 2), (2, .iconst 0, 1, 3), (3, .istore_n 2, 1, 4), (4, .iload_n 2, 1, 5), (5, .aload_n 0, 1, 6), (6, .getfield 31, 3, 9), (9, .if_icmp .ge 20, 3, 12), (12, .iload_n 1, 1, 13), (13, .aload_n 0, 1, 14), (14, .iload_n 2, 1, 15), (15, .invokevirtual 55, 3, 18), (18, .invokestatic 59, 3, 21), (21, .iadd, 1, 22), (22, .istore_n 1, 1, 23), (23, .iinc 2 1, 3, 26), (26, .goto (-22), 3, 29), (29, .iload_n 1, 1, 30), (30, .iconst 2, 1, 31), (31, .idiv, 1, 32), (32, .ireturn, 1, 33)]
theorem dk_X1_countRoads : decOK cX1_countRoads dl_X1_countRoads = true := by decide +kernel
def dl_X1_allMiles : List DRow := [(0, .iconst 0, 1, 1), (1, .istore_n 1, 1, 2), (2, .iconst 0, 1, 3), (3, .istore_n 2, 1, 4), (4, .iload_n 2, 1, 5), (5, .aload_n 0, 1, 6), (6, .getfield 31, 3, 9), (9, .if_icmp .ge 17, 3, 12), (12, .iload_n 1, 1, 13), (13, .aload_n 0, 1, 14), (14, .iload_n 2, 1, 15), (15, .invokevirtual 64, 3, 18), (18, .iadd, 1, 19), (19, .istore_n 1, 1, 20), (20, .iinc 2 1, 3, 23), (23, .goto (-19), 3, 26), (26, .iload_n 1, 1, 27), (27, .iconst 2, 1, 28), (28, .idiv, 1, 29), (29, .ireturn, 1, 30)]
theorem dk_X1_allMiles : decOK cX1_allMiles dl_X1_allMiles = true := by decide +kernel
def dl_X1_asks : List DRow := [(0, .iload_n 1, 1, 1), (1, .ifCond .lt 11, 3, 4), (4, .iload_n 1, 1, 5), (5, .aload_n 0, 1, 6), (6, .getfield 31, 3, 9), (9, .if_icmp .lt 5, 3, 12), (12, .iconst 0, 1, 13), (13, .ireturn, 1, 14), (14, .iload_n 2, 1, 15), (15, .iload_n 2, 1, 16), (16, .bipush 10, 2, 18), (18, .idiv, 1, 19), (19, .isub, 1, 20), (20, .istore_n 3, 1, 21), (21, .aload_n 0, 1, 22), (22, .getfield 9, 3, 25), (25, .iload_n 1, 1, 26), (26, .iaload, 1, 27), (27, .tableswitch 80 1 6 #[37, 45, 41, 65, 54, 67], 37, 64), (64, .iconst 2, 1, 65), (65, .iload_n 2, 1, 66), (66, .imul, 1, 67), (67, .ireturn, 1, 68), (68, .iconst 3, 1, 69), (69, .iload_n 2, 1, 70), (70, .imul, 1, 71), (71, .ireturn, 1, 72), (72, .iload_n 2, 1, 73), (73, .aload_n 0, 1, 74), (74, .getfield 15, 3, 77), (77, .iload_n 1, 1, 78), (78, .iaload, 1, 79), (79, .iadd, 1, 80), (80, .ireturn, 1, 81), (81, .iconst 2, 1, 82), (82, .iload_n 2, 1, 83), (83, .imul, 1, 84), (84, .aload_n 0, 1, 85), (85, .getfield 15, 3, 88), (88, .iload_n 1, 1, 89), (89, .iaload, 1, 90), (90, .iadd, 1, 91), (91, .ireturn, 1, 92), (92, .iload_n 3, 1, 93), (93, .ireturn, 1, 94), (94, .iload_n 3, 1, 95), (95, .iconst 1, 1, 96), (96, .if_icmp .ge 7, 3, 99), (99, .iconst 0, 1, 100), (100, .goto 6, 3, 103), (103, .iload_n 3, 1, 104), (104, .iconst 1, 1, 105), (105, .isub, 1, 106), (106, .ireturn, 1, 107), (107, .iload_n 2, 1, 108), (108, .ireturn, 1, 109)]
theorem dk_X1_asks : decOK cX1_asks dl_X1_asks = true := by decide +kernel
def dl_X1_costOf : List DRow := [(0, .aload_n 0, 1, 1), (1, .iload_n 1, 1, 2), (2, .iload_n 3, 1, 3), (3, .invokevirtual 67, 3, 6), (6, .aload_n 0, 1, 7), (7, .iload_n 2, 1, 8), (8, .iload_n 3, 1, 9), (9, .invokevirtual 67, 3, 12), (12, .invokestatic 70, 3, 15), (15, .ireturn, 1, 16)]
theorem dk_X1_costOf : decOK cX1_costOf dl_X1_costOf = true := by decide +kernel
def dl_X1_yieldOf : List DRow := [(0, .aload_n 0, 1, 1), (1, .iload_n 1, 1, 2), (2, .iload_n 2, 1, 3), (3, .invokevirtual 51, 3, 6), (6, .istore_n 3, 1, 7), (7, .aload_n 0, 1, 8), (8, .iload_n 1, 1, 9), (9, .iconst 1, 1, 10), (10, .invokevirtual 75, 3, 13), (13, .ifCond .ne 12, 3, 16), (16, .aload_n 0, 1, 17), (17, .iload_n 2, 1, 18), (18, .iconst 1, 1, 19), (19, .invokevirtual 75, 3, 22), (22, .ifCond .eq 9, 3, 25), (25, .iload_n 3, 1, 26), (26, .iload_n 3, 1, 27), (27, .iconst 4, 1, 28), (28, .idiv, 1, 29), (29, .isub, 1, 30), (30, .istore_n 3, 1, 31), (31, .aload_n 0, 1, 32), (32, .iload_n 1, 1, 33), (33, .iconst 2, 1, 34), (34, .invokevirtual 75, 3, 37), (37, .ifCond .ne 12, 3, 40), (40, .aload_n 0, 1, 41), (41, .iload_n 2, 1, 42), (42, .iconst 2, 1, 43), (43, .invokevirtual 75, 3, 46), (46, .ifCond .eq 7, 3, 49), (49, .iload_n 3, 1, 50), (50, .iconst 2, 1, 51), (51, .idiv, 1, 52), (52, .istore_n 3, 1, 53), (53, .iload_n 3, 1, 54), (54, .ireturn, 1, 55)]
theorem dk_X1_yieldOf : decOK cX1_yieldOf dl_X1_yieldOf = true := by decide +kernel
def dl_X1_grindRoad : List DRow := [(0, .aload_n 0, 1, 1), (1, .ldc 78, 2, 3), (3, .aload_n 0, 1, 4), (4, .getfield 34, 3, 7), (7, .aload_n 0, 1, 8), (8, .iload_n 1, 1, 9), (9, .iload_n 2, 1, 10), (10, .invokevirtual 79, 3, 13), (13, .iadd, 1, 14), (14, .invokestatic 82, 3, 17), (17, .putfield 34, 3, 20), (20, .aload_n 0, 1, 21), (21, .iload_n 1, 1, 22), (22, .iload_n 2, 1, 23), (23, .iconst 0, 1, 24), (24, .invokevirtual 85, 3, 27), (27, .return_, 1, 28)]
theorem dk_X1_grindRoad : decOK cX1_grindRoad dl_X1_grindRoad = true := by decide +kernel
def dl_X1_mayPinch : List DRow := [(0, .aload_n 0, 1, 1), (1, .iload_n 1, 1, 2), (2, .iload_n 2, 1, 3), (3, .invokevirtual 51, 3, 6), (6, .istore 4, 2, 8), (8, .iload 4, 2, 10), (10, .ifCond .eq 21, 3, 13), (13, .iload_n 3, 1, 14), (14, .ifCond .eq 17, 3, 17), (17, .iload_n 3, 1, 18), (18, .sipush (-998), 3, 21), (21, .if_icmp .lt 10, 3, 24), (24, .iload_n 3, 1, 25), (25, .sipush 998, 3, 28), (28, .if_icmp .le 5, 3, 31), (31, .iconst 0, 1, 32), (32, .ireturn, 1, 33), (33, .iload 4, 2, 35), (35, .iload_n 3, 1, 36), (36, .iadd, 1, 37), (37, .iconst 1, 1, 38), (38, .if_icmp .lt 34, 3, 41), (41, .iload 4, 2, 43), (43, .iload_n 3, 1, 44), (44, .iadd, 1, 45), (45, .sipush 999, 3, 48), (48, .if_icmp .gt 24, 3, 51), (51, .aload_n 0, 1, 52), (52, .iload_n 1, 1, 53), (53, .iload_n 2, 1, 54), (54, .iload_n 3, 1, 55), (55, .invokestatic 89, 3, 58), (58, .invokevirtual 92, 3, 61), (61, .aload_n 0, 1, 62), (62, .getfield 34, 3, 65), (65, .if_icmp .gt 7, 3, 68), (68, .iconst 1, 1, 69), (69, .goto 4, 3, 72), (72, .iconst 0, 1, 73), (73, .ireturn, 1, 74)]
theorem dk_X1_mayPinch : decOK cX1_mayPinch dl_X1_mayPinch = true := by decide +kernel
def dl_X1_pinch : List DRow := [(0, .aload_n 0, 1, 1), (1, .dup, 1, 2), (2, .getfield 34, 3, 5), (5, .aload_n 0, 1, 6), (6, .iload_n 1, 1, 7), (7, .iload_n 2, 1, 8), (8, .iload_n 3, 1, 9), (9, .invokestatic 89, 3, 12), (12, .invokevirtual 92, 3, 15), (15, .isub, 1, 16), (16, .putfield 34, 3, 19), (19, .aload_n 0, 1, 20), (20, .iload_n 1, 1, 21), (21, .iload_n 2, 1, 22), (22, .aload_n 0, 1, 23), (23, .iload_n 1, 1, 24), (24, .iload_n 2, 1, 25), (25, .invokevirtual 51, 3, 28), (28, .iload_n 3, 1, 29), (29, .iadd, 1, 30), (30, .invokevirtual 85, 3, 33), (33, .return_, 1, 34)]
theorem dk_X1_pinch : decOK cX1_pinch dl_X1_pinch = true := by decide +kernel
def dl_X1_bend : List DRow := [(0, .aload_n 0, 1, 1), (1, .iload_n 1, 1, 2), (2, .iload_n 2, 1, 3), (3, .invokevirtual 51, 3, 6), (6, .i2l, 1, 7), (7, .iload_n 3, 1, 8), (8, .i2l, 1, 9), (9, .ladd, 1, 10), (10, .lstore 4, 2, 12), (12, .aload_n 0, 1, 13), (13, .iload_n 1, 1, 14), (14, .iload_n 2, 1, 15), (15, .lconst 1, 1, 16), (16, .ldc2_w 96, 3, 19), (19, .lload 4, 2, 21), (21, .invokestatic 98, 3, 24), (24, .invokestatic 101, 3, 27), (27, .l2i, 1, 28), (28, .invokevirtual 85, 3, 31), (31, .return_, 1, 32)]
theorem dk_X1_bend : decOK cX1_bend dl_X1_bend = true := by decide +kernel
def dl_X1_draw : List DRow := [(0, .aload_n 0, 1, 1), (1, .aload_n 0, 1, 2), (2, .getfield 21, 3, 5), (5, .ldc 103, 2, 7), (7, .imul, 1, 8), (8, .sipush 12345, 3, 11), (11, .iadd, 1, 12), (12, .putfield 21, 3, 15), (15, .iload_n 1, 1, 16), (16, .iconst 1, 1, 17), (17, .if_icmp .ge 7, 3, 20), (20, .iconst 0, 1, 21), (21, .goto 12, 3, 24), (24, .aload_n 0, 1, 25), (25, .getfield 21, 3, 28), (28, .bipush 16, 2, 30), (30, .iushr, 1, 31), (31, .iload_n 1, 1, 32), (32, .irem, 1, 33), (33, .ireturn, 1, 34)]
theorem dk_X1_draw : decOK cX1_draw dl_X1_draw = true := by decide +kernel
def dl_X1_gust : List DRow := [(0, .aload_n 0, 1, 1), (1, .aload_n 0, 1, 2), (2, .getfield 31, 3, 5), (5, .invokevirtual 104, 3, 8), (8, .istore_n 1, 1, 9), (9, .aload_n 0, 1, 10), (10, .aload_n 0, 1, 11), (11, .getfield 31, 3, 14), (14, .invokevirtual 104, 3, 17), (17, .istore_n 2, 1, 18), (18, .aload_n 0, 1, 19), (19, .iload_n 1, 1, 20), (20, .iload_n 2, 1, 21), (21, .invokevirtual 51, 3, 24), (24, .istore_n 3, 1, 25), (25, .iload_n 3, 1, 26), (26, .ifCond .ne 5, 3, 29), (29, .iconst 0, 1, 30), (30, .ireturn, 1, 31), (31, .aload_n 0, 1, 32), (32, .aload_n 0, 1, 33), (33, .getfield 37, 3, 36), (36, .iconst 1, 1, 37), (37, .iadd, 1, 38), (38, .invokevirtual 104, 3, 41), (41, .istore 4, 2, 43), (43, .aload_n 0, 1, 44), (44, .iconst 0, 1, 45), (45, .aload_n 0, 1, 46), (46, .getfield 34, 3, 49), (49, .iload 4, 2, 51), (51, .isub, 1, 52), (52, .invokestatic 70, 3, 55), (55, .putfield 34, 3, 58), (58, .aload_n 0, 1, 59), (59, .iload_n 1, 1, 60), (60, .iload_n 2, 1, 61), (61, .sipush 999, 3, 64), (64, .iload_n 3, 1, 65), (65, .iload 4, 2, 67), (67, .iadd, 1, 68), (68, .invokestatic 82, 3, 71), (71, .invokevirtual 85, 3, 74), (74, .aload_n 0, 1, 75), (75, .iload_n 1, 1, 76), (76, .iload_n 2, 1, 77), (77, .invokevirtual 51, 3, 80), (80, .iload_n 3, 1, 81), (81, .isub, 1, 82), (82, .ireturn, 1, 83)]
theorem dk_X1_gust : decOK cX1_gust dl_X1_gust = true := by decide +kernel
def dl_X1_leastMilesThatKeep : List DRow := [(0, .iconst 0, 1, 1), (1, .istore_n 1, 1, 2), (2, .iconst 0, 1, 3), (3, .istore_n 2, 1, 4), (4, .iconst 0, 1, 5), (5, .istore_n 3, 1, 6), (6, .iload_n 3, 1, 7), (7, .aload_n 0, 1, 8), (8, .getfield 31, 3, 11), (11, .if_icmp .ge 104, 3, 14), (14, .iconst (-1), 1, 15), (15, .istore 4, 2, 17), (17, .iconst 0, 1, 18), (18, .istore 5, 2, 20), (20, .iconst 0, 1, 21), (21, .istore 6, 2, 23), (23, .iload 6, 2, 25), (25, .aload_n 0, 1, 26), (26, .getfield 31, 3, 29), (29, .if_icmp .ge 58, 3, 32), (32, .iload_n 1, 1, 33), (33, .iload 6, 2, 35), (35, .ishr, 1, 36), (36, .iconst 1, 1, 37), (37, .iand, 1, 38), (38, .ifCond .ne 43, 3, 41), (41, .aload_n 0, 1, 42), (42, .iload_n 1, 1, 43), (43, .iload 6, 2, 45), (45, .invokevirtual 107, 3, 48), (48, .istore 7, 2, 50), (50, .iload 4, 2, 52), (52, .iconst (-1), 1, 53), (53, .if_icmp .eq 20, 3, 56), (56, .iload 7, 2, 58), (58, .ifCond .eq 23, 3, 61), (61, .iload 5, 2, 63), (63, .ifCond .eq 10, 3, 66), (66, .iload 7, 2, 68), (68, .iload 5, 2, 70), (70, .if_icmp .ge 11, 3, 73), (73, .iload 6, 2, 75), (75, .istore 4, 2, 77), (77, .iload 7, 2, 79), (79, .istore 5, 2, 81), (81, .iinc 6 1, 3, 84), (84, .goto (-61), 3, 87), (87, .iload_n 1, 1, 88), (88, .iload 4, 2, 90), (90, .iconst (-1), 1, 91), (91, .if_icmp .ne 7, 3, 94), (94, .iconst 0, 1, 95), (95, .goto 7, 3, 98), (98, .iconst 1, 1, 99), (99, .iload 4, 2, 101), (101, .ishl, 1, 102), (102, .ior, 1, 103), (103, .istore_n 1, 1, 104), (104, .iload_n 2, 1, 105), (105, .iload 5, 2, 107), (107, .iadd, 1, 108), (108, .istore_n 2, 1, 109), (109, .iinc 3 1, 3, 112), (112, .goto (-106), 3, 115), (115, .iload_n 2, 1, 116), (116, .ireturn, 1, 117)]
theorem dk_X1_leastMilesThatKeep : decOK cX1_leastMilesThatKeep dl_X1_leastMilesThatKeep = true := by decide +kernel
def dl_X1_leastMilesFrom : List DRow := [(0, .iconst 0, 1, 1), (1, .istore_n 3, 1, 2), (2, .iconst 0, 1, 3), (3, .istore 4, 2, 5), (5, .iload 4, 2, 7), (7, .aload_n 0, 1, 8), (8, .getfield 31, 3, 11), (11, .if_icmp .ge 45, 3, 14), (14, .aload_n 0, 1, 15), (15, .iload 4, 2, 17), (17, .iload_n 2, 1, 18), (18, .invokevirtual 51, 3, 21), (21, .istore 5, 2, 23), (23, .iload_n 1, 1, 24), (24, .iload 4, 2, 26), (26, .ishr, 1, 27), (27, .iconst 1, 1, 28), (28, .iand, 1, 29), (29, .ifCond .eq 21, 3, 32), (32, .iload 5, 2, 34), (34, .ifCond .eq 16, 3, 37), (37, .iload_n 3, 1, 38), (38, .ifCond .eq 9, 3, 41), (41, .iload 5, 2, 43), (43, .iload_n 3, 1, 44), (44, .if_icmp .ge 6, 3, 47), (47, .iload 5, 2, 49), (49, .istore_n 3, 1, 50), (50, .iinc 4 1, 3, 53), (53, .goto (-48), 3, 56), (56, .iload_n 3, 1, 57), (57, .ireturn, 1, 58)]
theorem dk_X1_leastMilesFrom : decOK cX1_leastMilesFrom dl_X1_leastMilesFrom = true := by decide +kernel
def dl_X2_init : List DRow := [(0, .aload_n 0, 1, 1), (1, .invokespecial 3, 3, 4), (4, .aload_n 0, 1, 5), (5, .bipush 64, 2, 7), (7, .newarray .int, 2, 9), (9, .putfield 9, 3, 12), (12, .return_, 1, 13)]
theorem dk_X2_init : decOK cX2_init dl_X2_init = true := by decide +kernel
def dl_X2_measure : List DRow := [(0, .aload_n 0, 1, 1), (1, .aload_n 1, 1, 2), (2, .invokevirtual 15, 3, 5), (5, .aload_n 0, 1, 6), (6, .invokevirtual 19, 3, 9), (9, .return_, 1, 10)]
theorem dk_X2_measure : decOK cX2_measure dl_X2_measure = true := by decide +kernel
def dl_X2_measureWithout : List DRow := [(0, .aload_n 0, 1, 1), (1, .aload_n 1, 1, 2), (2, .invokevirtual 15, 3, 5), (5, .aload_n 0, 1, 6), (6, .iload_n 2, 1, 7), (7, .iload_n 3, 1, 8), (8, .sipush 10000, 3, 11), (11, .invokevirtual 22, 3, 14), (14, .aload_n 0, 1, 15), (15, .invokevirtual 19, 3, 18), (18, .return_, 1, 19)]
theorem dk_X2_measureWithout : decOK cX2_measureWithout dl_X2_measureWithout = true := by decide +kernel
def dl_X2_measureTable : List DRow := [(0, .aload_n 0, 1, 1), (1, .iload_n 2, 1, 2), (2, .putfield 26, 3, 5), (5, .iconst 0, 1, 6), (6, .istore_n 3, 1, 7), (7, .iload_n 3, 1, 8), (8, .aload_n 0, 1, 9), (9, .getfield 26, 3, 12), (12, .if_icmp .ge 57, 3, 15), (15, .aload_n 0, 1, 16), (16, .iload_n 3, 1, 17), (17, .iload_n 3, 1, 18), (18, .iconst 0, 1, 19), (19, .invokevirtual 22, 3, 22), (22, .iload_n 3, 1, 23), (23, .iconst 1, 1, 24), (24, .iadd, 1, 25), (25, .istore 4, 2, 27), (27, .iload 4, 2, 29), (29, .aload_n 0, 1, 30), (30, .getfield 26, 3, 33), (33, .if_icmp .ge 30, 3, 36), (36, .aload_n 0, 1, 37), (37, .iload_n 3, 1, 38), (38, .iload 4, 2, 40), (40, .aload_n 1, 1, 41), (41, .iload_n 3, 1, 42), (42, .iload 4, 2, 44), (44, .aload_n 0, 1, 45), (45, .getfield 26, 3, 48), (48, .invokestatic 30, 3, 51), (51, .invokevirtual 34, 3, 54), (54, .invokevirtual 22, 3, 57), (57, .iinc 4 1, 3, 60), (60, .goto (-33), 3, 63), (63, .iinc 3 1, 3, 66), (66, .goto (-59), 3, 69), (69, .aload_n 0, 1, 70), (70, .invokevirtual 19, 3, 73), (73, .return_, 1, 74)]
theorem dk_X2_measureTable : decOK cX2_measureTable dl_X2_measureTable = true := by decide +kernel
def dl_X2_takeRoads : List DRow := [(0, .aload_n 0, 1, 1), (1, .aload_n 1, 1, 2), (2, .getfield 40, 3, 5), (5, .putfield 26, 3, 8), (8, .iconst 0, 1, 9), (9, .istore_n 2, 1, 10), (10, .iload_n 2, 1, 11), (11, .aload_n 0, 1, 12), (12, .getfield 26, 3, 15), (15, .if_icmp .ge 61, 3, 18), (18, .aload_n 0, 1, 19), (19, .iload_n 2, 1, 20), (20, .iload_n 2, 1, 21), (21, .iconst 0, 1, 22), (22, .invokevirtual 22, 3, 25), (25, .iload_n 2, 1, 26), (26, .iconst 1, 1, 27), (27, .iadd, 1, 28), (28, .istore_n 3, 1, 29), (29, .iload_n 3, 1, 30), (30, .aload_n 0, 1, 31), (31, .getfield 26, 3, 34), (34, .if_icmp .ge 36, 3, 37), (37, .aload_n 1, 1, 38), (38, .iload_n 2, 1, 39), (39, .iload_n 3, 1, 40), (40, .invokevirtual 43, 3, 43), (43, .istore 4, 2, 45), (45, .aload_n 0, 1, 46), (46, .iload_n 2, 1, 47), (47, .iload_n 3, 1, 48), (48, .iload 4, 2, 50), (50, .ifCond .ne 9, 3, 53), (53, .sipush 10000, 3, 56), (56, .goto 5, 3, 59), (59, .iload 4, 2, 61), (61, .invokevirtual 22, 3, 64), (64, .iinc 3 1, 3, 67), (67, .goto (-38), 3, 70), (70, .iinc 2 1, 3, 73), (73, .goto (-63), 3, 76), (76, .return_, 1, 77)]
theorem dk_X2_takeRoads : decOK cX2_takeRoads dl_X2_takeRoads = true := by decide +kernel
def dl_X2_note : List DRow := [(0, .aload_n 0, 1, 1), (1, .iload_n 1, 1, 2), (2, .iload_n 2, 1, 3), (3, .invokevirtual 47, 3, 6), (6, .ifCond .eq 27, 3, 9), (9, .aload_n 0, 1, 10), (10, .getfield 9, 3, 13), (13, .iload_n 1, 1, 14), (14, .bipush 8, 2, 16), (16, .imul, 1, 17), (17, .iload_n 2, 1, 18), (18, .iadd, 1, 19), (19, .iload_n 3, 1, 20), (20, .iastore, 1, 21), (21, .aload_n 0, 1, 22), (22, .getfield 9, 3, 25), (25, .iload_n 2, 1, 26), (26, .bipush 8, 2, 28), (28, .imul, 1, 29), (29, .iload_n 1, 1, 30), (30, .iadd, 1, 31), (31, .iload_n 3, 1, 32), (32, .iastore, 1, 33), (33, .return_, 1, 34)]
theorem dk_X2_note : decOK cX2_note dl_X2_note = true := by decide +kernel
def dl_X2_isInside : List DRow := [(0, .iload_n 1, 1, 1), (1, .ifCond .lt 27, 3, 4), (4, .iload_n 1, 1, 5), (5, .aload_n 0, 1, 6), (6, .getfield 26, 3, 9), (9, .if_icmp .ge 19, 3, 12), (12, .iload_n 2, 1, 13), (13, .ifCond .lt 15, 3, 16), (16, .iload_n 2, 1, 17), (17, .aload_n 0, 1, 18), (18, .getfield 26, 3, 21), (21, .if_icmp .ge 7, 3, 24), (24, .iconst 1, 1, 25), (25, .goto 4, 3, 28), (28, .iconst 0, 1, 29), (29, .ireturn, 1, 30)]
theorem dk_X2_isInside : decOK cX2_isInside dl_X2_isInside = true := by decide +kernel
def dl_X2_close : List DRow := [(0, .aload_n 0, 1, 1), (1, .getfield 26, 3, 4), (4, .bipush 8, 2, 6), (6, .invokestatic 51, 3, 9), (9, .istore_n 1, 1, 10), (10, .iconst 0, 1, 11), (11, .istore_n 2, 1, 12), (12, .iload_n 2, 1, 13), (13, .iload_n 1, 1, 14), (14, .if_icmp .ge 122, 3, 17), (17, .iconst 0, 1, 18), (18, .istore_n 3, 1, 19), (19, .iload_n 3, 1, 20), (20, .iload_n 1, 1, 21), (21, .if_icmp .ge 109, 3, 24), (24, .aload_n 0, 1, 25), (25, .getfield 9, 3, 28), (28, .iload_n 3, 1, 29), (29, .bipush 8, 2, 31), (31, .imul, 1, 32), (32, .iload_n 2, 1, 33), (33, .iadd, 1, 34), (34, .iaload, 1, 35), (35, .istore 4, 2, 37), (37, .iload_n 3, 1, 38), (38, .iconst 1, 1, 39), (39, .iadd, 1, 40), (40, .istore 5, 2, 42), (42, .iload 5, 2, 44), (44, .iload_n 1, 1, 45), (45, .if_icmp .ge 79, 3, 48), (48, .iload 4, 2, 50), (50, .sipush 10000, 3, 53), (53, .if_icmp .ge 71, 3, 56), (56, .iload 4, 2, 58), (58, .aload_n 0, 1, 59), (59, .getfield 9, 3, 62), (62, .iload_n 2, 1, 63), (63, .bipush 8, 2, 65), (65, .imul, 1, 66), (66, .iload 5, 2, 68), (68, .iadd, 1, 69), (69, .iaload, 1, 70), (70, .iadd, 1, 71), (71, .istore 6, 2, 73), (73, .iload 6, 2, 75), (75, .aload_n 0, 1, 76), (76, .getfield 9, 3, 79), (79, .iload_n 3, 1, 80), (80, .bipush 8, 2, 82), (82, .imul, 1, 83), (83, .iload 5, 2, 85), (85, .iadd, 1, 86), (86, .iaload, 1, 87), (87, .if_icmp .ge 31, 3, 90), (90, .aload_n 0, 1, 91), (91, .getfield 9, 3, 94), (94, .iload_n 3, 1, 95), (95, .bipush 8, 2, 97), (97, .imul, 1, 98), (98, .iload 5, 2, 100), (100, .iadd, 1, 101), (101, .iload 6, 2, 103), (103, .iastore, 1, 104), (104, .aload_n 0, 1, 105), (105, .getfield 9, 3, 108), (108, .iload 5, 2, 110), (110, .bipush 8, 2, 112), (112, .imul, 1, 113), (113, .iload_n 3, 1, 114), (114, .iadd, 1, 115), (115, .iload 6, 2, 117), (117, .iastore, 1, 118), (118, .iinc 5 1, 3, 121), (121, .goto (-79), 3, 124), (124, .iinc 3 1, 3, 127), (127, .goto (-108), 3, 130), (130, .iinc 2 1, 3, 133), (133, .goto (-121), 3, 136), (136, .return_, 1, 137)]
theorem dk_X2_close : decOK cX2_close dl_X2_close = true := by decide +kernel
def dl_X2_length : List DRow := [(0, .aload_n 0, 1, 1), (1, .iload_n 1, 1, 2), (2, .iload_n 2, 1, 3), (3, .invokevirtual 47, 3, 6), (6, .ifCond .eq 17, 3, 9), (9, .aload_n 0, 1, 10), (10, .getfield 9, 3, 13), (13, .iload_n 1, 1, 14), (14, .bipush 8, 2, 16), (16, .imul, 1, 17), (17, .iload_n 2, 1, 18), (18, .iadd, 1, 19), (19, .iaload, 1, 20), (20, .goto 6, 3, 23), (23, .sipush 10000, 3, 26), (26, .ireturn, 1, 27)]
theorem dk_X2_length : decOK cX2_length dl_X2_length = true := by decide +kernel
def dl_X2_joins : List DRow := [(0, .aload_n 0, 1, 1), (1, .iload_n 1, 1, 2), (2, .iload_n 2, 1, 3), (3, .invokevirtual 56, 3, 6), (6, .sipush 10000, 3, 9), (9, .if_icmp .ge 7, 3, 12), (12, .iconst 1, 1, 13), (13, .goto 4, 3, 16), (16, .iconst 0, 1, 17), (17, .ireturn, 1, 18)]
theorem dk_X2_joins : decOK cX2_joins dl_X2_joins = true := by decide +kernel
def dl_X2_lengthOrNone : List DRow := [(0, .aload_n 0, 1, 1), (1, .iload_n 1, 1, 2), (2, .iload_n 2, 1, 3), (3, .invokevirtual 59, 3, 6), (6, .ifCond .eq 12, 3, 9), (9, .aload_n 0, 1, 10), (10, .iload_n 1, 1, 11), (11, .iload_n 2, 1, 12), (12, .invokevirtual 56, 3, 15), (15, .goto 4, 3, 18), (18, .iconst (-1), 1, 19), (19, .ireturn, 1, 20)]
theorem dk_X2_lengthOrNone : decOK cX2_lengthOrNone dl_X2_lengthOrNone = true := by decide +kernel
def dl_X2_lengthBeside : List DRow := [(0, .aload_n 0, 1, 1), (1, .iload_n 1, 1, 2), (2, .iload_n 3, 1, 3), (3, .invokevirtual 56, 3, 6), (6, .aload_n 0, 1, 7), (7, .iload 4, 2, 9), (9, .iload_n 2, 1, 10), (10, .invokevirtual 56, 3, 13), (13, .iadd, 1, 14), (14, .aload_n 0, 1, 15), (15, .iload_n 1, 1, 16), (16, .iload 4, 2, 18), (18, .invokevirtual 56, 3, 21), (21, .aload_n 0, 1, 22), (22, .iload_n 3, 1, 23), (23, .iload_n 2, 1, 24), (24, .invokevirtual 56, 3, 27), (27, .iadd, 1, 28), (28, .invokestatic 51, 3, 31), (31, .ireturn, 1, 32)]
theorem dk_X2_lengthBeside : decOK cX2_lengthBeside dl_X2_lengthBeside = true := by decide +kernel
def dl_X2_nextOnTheWay : List DRow := [(0, .iconst 0, 1, 1), (1, .istore 4, 2, 3), (3, .iload 4, 2, 5), (5, .aload_n 0, 1, 6), (6, .getfield 26, 3, 9), (9, .if_icmp .ge 45, 3, 12), (12, .aload_n 1, 1, 13), (13, .iload_n 2, 1, 14), (14, .iload 4, 2, 16), (16, .invokevirtual 43, 3, 19), (19, .istore 5, 2, 21), (21, .iload 5, 2, 23), (23, .ifCond .eq 25, 3, 26), (26, .iload 5, 2, 28), (28, .aload_n 0, 1, 29), (29, .iload 4, 2, 31), (31, .iload_n 3, 1, 32), (32, .invokevirtual 56, 3, 35), (35, .iadd, 1, 36), (36, .aload_n 0, 1, 37), (37, .iload_n 2, 1, 38), (38, .iload_n 3, 1, 39), (39, .invokevirtual 56, 3, 42), (42, .if_icmp .ne 6, 3, 45), (45, .iload 4, 2, 47), (47, .ireturn, 1, 48), (48, .iinc 4 1, 3, 51), (51, .goto (-48), 3, 54), (54, .iload_n 2, 1, 55), (55, .ireturn, 1, 56)]
theorem dk_X2_nextOnTheWay : decOK cX2_nextOnTheWay dl_X2_nextOnTheWay = true := by decide +kernel
def dl_X2_reach : List DRow := [(0, .iconst 0, 1, 1), (1, .istore_n 3, 1, 2), (2, .iconst 0, 1, 3), (3, .istore 4, 2, 5), (5, .iload 4, 2, 7), (7, .aload_n 0, 1, 8), (8, .getfield 26, 3, 11), (11, .if_icmp .ge 27, 3, 14), (14, .aload_n 0, 1, 15), (15, .iload_n 1, 1, 16), (16, .iload 4, 2, 18), (18, .invokevirtual 56, 3, 21), (21, .iload_n 2, 1, 22), (22, .if_icmp .gt 10, 3, 25), (25, .iload_n 3, 1, 26), (26, .iconst 1, 1, 27), (27, .iload 4, 2, 29), (29, .ishl, 1, 30), (30, .ior, 1, 31), (31, .istore_n 3, 1, 32), (32, .iinc 4 1, 3, 35), (35, .goto (-30), 3, 38), (38, .iload_n 3, 1, 39), (39, .ireturn, 1, 40)]
theorem dk_X2_reach : decOK cX2_reach dl_X2_reach = true := by decide +kernel
def dl_X2_total : List DRow := [(0, .iconst 0, 1, 1), (1, .istore_n 1, 1, 2), (2, .iconst 0, 1, 3), (3, .istore_n 2, 1, 4), (4, .iload_n 2, 1, 5), (5, .aload_n 0, 1, 6), (6, .getfield 26, 3, 9), (9, .if_icmp .ge 36, 3, 12), (12, .iload_n 2, 1, 13), (13, .iconst 1, 1, 14), (14, .iadd, 1, 15), (15, .istore_n 3, 1, 16), (16, .iload_n 3, 1, 17), (17, .aload_n 0, 1, 18), (18, .getfield 26, 3, 21), (21, .if_icmp .ge 18, 3, 24), (24, .iload_n 1, 1, 25), (25, .aload_n 0, 1, 26), (26, .iload_n 2, 1, 27), (27, .iload_n 3, 1, 28), (28, .invokevirtual 56, 3, 31), (31, .iadd, 1, 32), (32, .istore_n 1, 1, 33), (33, .iinc 3 1, 3, 36), (36, .goto (-20), 3, 39), (39, .iinc 2 1, 3, 42), (42, .goto (-38), 3, 45), (45, .iload_n 1, 1, 46), (46, .ireturn, 1, 47)]
theorem dk_X2_total : decOK cX2_total dl_X2_total = true := by decide +kernel
def dl_X2_parts : List DRow := [(0, .iconst 0, 1, 1), (1, .istore_n 1, 1, 2), (2, .iconst 0, 1, 3), (3, .istore_n 2, 1, 4), (4, .iload_n 2, 1, 5), (5, .aload_n 0, 1, 6), (6, .getfield 26, 3, 9), (9, .if_icmp .ge 31, 3, 12), (12, .iconst 1, 1, 13), (13, .iload_n 2, 1, 14), (14, .ishl, 1, 15), (15, .iconst 1, 1, 16), (16, .isub, 1, 17), (17, .istore_n 3, 1, 18), (18, .aload_n 0, 1, 19), (19, .iload_n 2, 1, 20), (20, .sipush 9999, 3, 23), (23, .invokevirtual 62, 3, 26), (26, .iload_n 3, 1, 27), (27, .iand, 1, 28), (28, .ifCond .ne 6, 3, 31), (31, .iinc 1 1, 3, 34), (34, .iinc 2 1, 3, 37), (37, .goto (-33), 3, 40), (40, .iload_n 1, 1, 41), (41, .ireturn, 1, 42)]
theorem dk_X2_parts : decOK cX2_parts dl_X2_parts = true := by decide +kernel
def dl_X2_middle : List DRow := [(0, .iconst (-1), 1, 1), (1, .istore_n 1, 1, 2), (2, .iconst 0, 1, 3), (3, .istore_n 2, 1, 4), (4, .iconst 0, 1, 5), (5, .istore_n 3, 1, 6), (6, .iload_n 3, 1, 7), (7, .aload_n 0, 1, 8), (8, .getfield 26, 3, 11), (11, .if_icmp .ge 60, 3, 14), (14, .iconst 0, 1, 15), (15, .istore 4, 2, 17), (17, .iconst 0, 1, 18), (18, .istore 5, 2, 20), (20, .iload 5, 2, 22), (22, .aload_n 0, 1, 23), (23, .getfield 26, 3, 26), (26, .if_icmp .ge 23, 3, 29), (29, .iload 4, 2, 31), (31, .aload_n 0, 1, 32), (32, .iload_n 3, 1, 33), (33, .iload 5, 2, 35), (35, .invokevirtual 56, 3, 38), (38, .invokestatic 65, 3, 41), (41, .istore 4, 2, 43), (43, .iinc 5 1, 3, 46), (46, .goto (-26), 3, 49), (49, .iload_n 1, 1, 50), (50, .iconst (-1), 1, 51), (51, .if_icmp .eq 9, 3, 54), (54, .iload 4, 2, 56), (56, .iload_n 2, 1, 57), (57, .if_icmp .ge 8, 3, 60), (60, .iload_n 3, 1, 61), (61, .istore_n 1, 1, 62), (62, .iload 4, 2, 64), (64, .istore_n 2, 1, 65), (65, .iinc 3 1, 3, 68), (68, .goto (-62), 3, 71), (71, .iload_n 1, 1, 72), (72, .ireturn, 1, 73)]
theorem dk_X2_middle : decOK cX2_middle dl_X2_middle = true := by decide +kernel
def dl_X2_greatest : List DRow := [(0, .iconst 0, 1, 1), (1, .istore_n 1, 1, 2), (2, .iconst 0, 1, 3), (3, .istore_n 2, 1, 4), (4, .iload_n 2, 1, 5), (5, .aload_n 0, 1, 6), (6, .getfield 26, 3, 9), (9, .if_icmp .ge 38, 3, 12), (12, .iload_n 2, 1, 13), (13, .iconst 1, 1, 14), (14, .iadd, 1, 15), (15, .istore_n 3, 1, 16), (16, .iload_n 3, 1, 17), (17, .aload_n 0, 1, 18), (18, .getfield 26, 3, 21), (21, .if_icmp .ge 20, 3, 24), (24, .iload_n 1, 1, 25), (25, .aload_n 0, 1, 26), (26, .iload_n 2, 1, 27), (27, .iload_n 3, 1, 28), (28, .invokevirtual 68, 3, 31), (31, .invokestatic 65, 3, 34), (34, .istore_n 1, 1, 35), (35, .iinc 3 1, 3, 38), (38, .goto (-22), 3, 41), (41, .iinc 2 1, 3, 44), (44, .goto (-40), 3, 47), (47, .iload_n 1, 1, 48), (48, .ireturn, 1, 49)]
theorem dk_X2_greatest : decOK cX2_greatest dl_X2_greatest = true := by decide +kernel
def dl_X3_init : List DRow := [(0, .aload_n 0, 1, 1), (1, .invokespecial 3, 3, 4), (4, .aload_n 0, 1, 5), (5, .iconst (-1), 1, 6), (6, .putfield 9, 3, 9), (9, .aload_n 0, 1, 10), (10, .iconst 3, 1, 11), (11, .newarray .int, 2, 13), (13, .putfield 15, 3, 16), (16, .return_, 1, 17)]
theorem dk_X3_init : decOK cX3_init dl_X3_init = true := by decide +kernel
def dl_X3_read : List DRow := [(0, .aload_n 0, 1, 1), (1, .iconst (-1), 1, 2), (2, .putfield 9, 3, 5), (5, .aload_n 0, 1, 6), (6, .iconst 0, 1, 7), (7, .putfield 19, 3, 10), (10, .iconst 0, 1, 11), (11, .istore_n 3, 1, 12), (12, .iload_n 3, 1, 13), (13, .sipush 160, 3, 16), (16, .if_icmp .gt 64, 3, 19), (19, .aload_n 0, 1, 20), (20, .aload_n 1, 1, 21), (21, .aload_n 2, 1, 22), (22, .invokevirtual 22, 3, 25), (25, .ifCond .eq 55, 3, 28), (28, .iinc 3 1, 3, 31), (31, .aload_n 0, 1, 32), (32, .getfield 19, 3, 35), (35, .aload_n 1, 1, 36), (36, .getfield 26, 3, 39), (39, .if_icmp .lt 5, 3, 42), (42, .iload_n 3, 1, 43), (43, .ireturn, 1, 44), (44, .aload_n 1, 1, 45), (45, .aload_n 0, 1, 46), (46, .getfield 19, 3, 49), (49, .invokevirtual 31, 3, 52), (52, .bipush 59, 2, 54), (54, .if_icmp .eq 13, 3, 57), (57, .aload_n 0, 1, 58), (58, .aload_n 0, 1, 59), (59, .getfield 19, 3, 62), (62, .putfield 9, 3, 65), (65, .iload_n 3, 1, 66), (66, .ireturn, 1, 67), (67, .aload_n 0, 1, 68), (68, .dup, 1, 69), (69, .getfield 19, 3, 72), (72, .iconst 1, 1, 73), (73, .iadd, 1, 74), (74, .putfield 19, 3, 77), (77, .goto (-65), 3, 80), (80, .iload_n 3, 1, 81), (81, .ireturn, 1, 82)]
theorem dk_X3_read : decOK cX3_read dl_X3_read = true := by decide +kernel
def dl_X3_readItem : List DRow := [(0, .aload_n 0, 1, 1), (1, .getfield 19, 3, 4), (4, .istore_n 3, 1, 5), (5, .aload_n 0, 1, 6), (6, .aload_n 1, 1, 7), (7, .invokevirtual 35, 3, 10), (10, .istore 4, 2, 12), (12, .iload 4, 2, 14), (14, .ifCond .lt 12, 3, 17), (17, .iload 4, 2, 19), (19, .getstatic 39, 3, 22), (22, .arraylength, 1, 23), (23, .if_icmp .lt 5, 3, 26), (26, .iconst 0, 1, 27), (27, .ireturn, 1, 28), (28, .iload 4, 2, 30), (30, .ifCond .ne 17, 3, 33), (33, .aload_n 2, 1, 34), (34, .invokevirtual 42, 3, 37), (37, .ifCond .ne 10, 3, 40), (40, .aload_n 0, 1, 41), (41, .iload_n 3, 1, 42), (42, .putfield 9, 3, 45), (45, .iconst 0, 1, 46), (46, .ireturn, 1, 47), (47, .iconst 0, 1, 48), (48, .istore 5, 2, 50), (50, .iload 5, 2, 52), (52, .getstatic 39, 3, 55), (55, .iload 4, 2, 57), (57, .iaload, 1, 58), (58, .if_icmp .ge 53, 3, 61), (61, .iload 5, 2, 63), (63, .aload_n 0, 1, 64), (64, .getfield 15, 3, 67), (67, .arraylength, 1, 68), (68, .if_icmp .ge 43, 3, 71), (71, .aload_n 0, 1, 72), (72, .aload_n 1, 1, 73), (73, .iload 5, 2, 75), (75, .invokevirtual 48, 3, 78), (78, .ifCond .ne 5, 3, 81), (81, .iconst 0, 1, 82), (82, .ireturn, 1, 83), (83, .aload_n 0, 1, 84), (84, .iload 4, 2, 86), (86, .iload 5, 2, 88), (88, .aload_n 2, 1, 89), (89, .invokevirtual 52, 3, 92), (92, .ifCond .ne 13, 3, 95), (95, .aload_n 0, 1, 96), (96, .aload_n 0, 1, 97), (97, .getfield 56, 3, 100), (100, .putfield 9, 3, 103), (103, .iconst 0, 1, 104), (104, .ireturn, 1, 105), (105, .iinc 5 1, 3, 108), (108, .goto (-58), 3, 111), (111, .aload_n 0, 1, 112), (112, .iload 4, 2, 114), (114, .aload_n 2, 1, 115), (115, .invokevirtual 59, 3, 118), (118, .iconst 1, 1, 119), (119, .ireturn, 1, 120)]
theorem dk_X3_readItem : decOK cX3_readItem dl_X3_readItem = true := by decide +kernel
def dl_X3_readWord : List DRow := [(0, .iconst 0, 1, 1), (1, .istore_n 2, 1, 2), (2, .iconst 0, 1, 3), (3, .istore_n 3, 1, 4), (4, .iload_n 3, 1, 5), (5, .getstatic 39, 3, 8), (8, .arraylength, 1, 9), (9, .if_icmp .ge 54, 3, 12), (12, .iload_n 3, 1, 13), (13, .invokestatic 63, 3, 16), (16, .astore 4, 2, 18), (18, .aload_n 0, 1, 19), (19, .aload_n 1, 1, 20), (20, .aload 4, 2, 22), (22, .invokevirtual 67, 3, 25), (25, .istore 5, 2, 27), (27, .iload 5, 2, 29), (29, .aload 4, 2, 31), (31, .invokevirtual 71, 3, 34), (34, .if_icmp .ne 16, 3, 37), (37, .aload_n 0, 1, 38), (38, .dup, 1, 39), (39, .getfield 19, 3, 42), (42, .iload 5, 2, 44), (44, .iadd, 1, 45), (45, .putfield 19, 3, 48), (48, .iload_n 3, 1, 49), (49, .ireturn, 1, 50), (50, .iload_n 2, 1, 51), (51, .iload 5, 2, 53), (53, .invokestatic 77, 3, 56), (56, .istore_n 2, 1, 57), (57, .iinc 3 1, 3, 60), (60, .goto (-56), 3, 63), (63, .aload_n 0, 1, 64), (64, .aload_n 0, 1, 65), (65, .getfield 19, 3, 68), (68, .iload_n 2, 1, 69), (69, .iadd, 1, 70), (70, .putfield 9, 3, 73), (73, .iconst (-1), 1, 74), (74, .ireturn, 1, 75)]
theorem dk_X3_readWord : decOK cX3_readWord dl_X3_readWord = true := by decide +kernel
def dl_X3_sameLetters : List DRow := [(0, .iconst 0, 1, 1), (1, .istore_n 3, 1, 2), (2, .iload_n 3, 1, 3), (3, .aload_n 2, 1, 4), (4, .invokevirtual 71, 3, 7), (7, .if_icmp .ge 40, 3, 10), (10, .aload_n 0, 1, 11), (11, .getfield 19, 3, 14), (14, .iload_n 3, 1, 15), (15, .iadd, 1, 16), (16, .aload_n 1, 1, 17), (17, .getfield 26, 3, 20), (20, .if_icmp .ge 27, 3, 23), (23, .aload_n 1, 1, 24), (24, .aload_n 0, 1, 25), (25, .getfield 19, 3, 28), (28, .iload_n 3, 1, 29), (29, .iadd, 1, 30), (30, .invokevirtual 31, 3, 33), (33, .aload_n 2, 1, 34), (34, .iload_n 3, 1, 35), (35, .invokevirtual 83, 3, 38), (38, .if_icmp .ne 9, 3, 41), (41, .iinc 3 1, 3, 44), (44, .goto (-42), 3, 47), (47, .iload_n 3, 1, 48), (48, .ireturn, 1, 49)]
theorem dk_X3_sameLetters : decOK cX3_sameLetters dl_X3_sameLetters = true := by decide +kernel
def dl_X3_wordOf : List DRow := [(0, .iload_n 0, 1, 1), (1, .tableswitch 57 0 5 #[39, 42, 45, 48, 51, 54], 39, 40), (40, .ldc 87, 2, 42), (42, .areturn, 1, 43), (43, .ldc 89, 2, 45), (45, .areturn, 1, 46), (46, .ldc 91, 2, 48), (48, .areturn, 1, 49), (49, .ldc 93, 2, 51), (51, .areturn, 1, 52), (52, .ldc 95, 2, 54), (54, .areturn, 1, 55), (55, .ldc 97, 2, 57), (57, .areturn, 1, 58), (58, .ldc 99, 2, 60), (60, .areturn, 1, 61)]
theorem dk_X3_wordOf : decOK cX3_wordOf dl_X3_wordOf = true := by decide +kernel
def dl_X3_readNumber : List DRow := [(0, .aload_n 0, 1, 1), (1, .getfield 19, 3, 4), (4, .aload_n 1, 1, 5), (5, .getfield 26, 3, 8), (8, .if_icmp .ge 16, 3, 11), (11, .aload_n 1, 1, 12), (12, .aload_n 0, 1, 13), (13, .getfield 19, 3, 16), (16, .invokevirtual 31, 3, 19), (19, .bipush 32, 2, 21), (21, .if_icmp .eq 13, 3, 24), (24, .aload_n 0, 1, 25), (25, .aload_n 0, 1, 26), (26, .getfield 19, 3, 29), (29, .putfield 9, 3, 32), (32, .iconst 0, 1, 33), (33, .ireturn, 1, 34), (34, .aload_n 0, 1, 35), (35, .dup, 1, 36), (36, .getfield 19, 3, 39), (39, .iconst 1, 1, 40), (40, .iadd, 1, 41), (41, .putfield 19, 3, 44), (44, .aload_n 0, 1, 45), (45, .aload_n 0, 1, 46), (46, .getfield 19, 3, 49), (49, .putfield 56, 3, 52), (52, .iconst 0, 1, 53), (53, .istore_n 3, 1, 54), (54, .iconst 0, 1, 55), (55, .istore 4, 2, 57), (57, .iload_n 3, 1, 58), (58, .iconst 5, 1, 59), (59, .if_icmp .ge 49, 3, 62), (62, .aload_n 1, 1, 63), (63, .aload_n 0, 1, 64), (64, .getfield 19, 3, 67), (67, .invokestatic 101, 3, 70), (70, .ifCond .eq 38, 3, 73), (73, .iload 4, 2, 75), (75, .bipush 10, 2, 77), (77, .imul, 1, 78), (78, .aload_n 1, 1, 79), (79, .aload_n 0, 1, 80), (80, .getfield 19, 3, 83), (83, .invokevirtual 31, 3, 86), (86, .iadd, 1, 87), (87, .bipush 48, 2, 89), (89, .isub, 1, 90), (90, .istore 4, 2, 92), (92, .iinc 3 1, 3, 95), (95, .aload_n 0, 1, 96), (96, .dup, 1, 97), (97, .getfield 19, 3, 100), (100, .iconst 1, 1, 101), (101, .iadd, 1, 102), (102, .putfield 19, 3, 105), (105, .goto (-48), 3, 108), (108, .iload_n 3, 1, 109), (109, .ifCond .ne 13, 3, 112), (112, .aload_n 0, 1, 113), (113, .aload_n 0, 1, 114), (114, .getfield 19, 3, 117), (117, .putfield 9, 3, 120), (120, .iconst 0, 1, 121), (121, .ireturn, 1, 122), (122, .aload_n 0, 1, 123), (123, .getfield 15, 3, 126), (126, .iload_n 2, 1, 127), (127, .iload 4, 2, 129), (129, .iastore, 1, 130), (130, .iconst 1, 1, 131), (131, .ireturn, 1, 132)]
theorem dk_X3_readNumber : decOK cX3_readNumber dl_X3_readNumber = true := by decide +kernel
def dl_X3_isDigit : List DRow := [(0, .aload_n 0, 1, 1), (1, .iload_n 1, 1, 2), (2, .invokevirtual 31, 3, 5), (5, .istore_n 2, 1, 6), (6, .iload_n 2, 1, 7), (7, .bipush 48, 2, 9), (9, .if_icmp .lt 13, 3, 12), (12, .iload_n 2, 1, 13), (13, .bipush 57, 2, 15), (15, .if_icmp .gt 7, 3, 18), (18, .iconst 1, 1, 19), (19, .goto 4, 3, 22), (22, .iconst 0, 1, 23), (23, .ireturn, 1, 24)]
theorem dk_X3_isDigit : decOK cX3_isDigit dl_X3_isDigit = true := by decide +kernel
def dl_X3_stands : List DRow := [(0, .aload_n 0, 1, 1), (1, .getfield 15, 3, 4), (4, .iload_n 2, 1, 5), (5, .iaload, 1, 6), (6, .istore 4, 2, 8), (8, .iload_n 1, 1, 9), (9, .tableswitch 83 0 4 #[35, 83, 83, 57, 70], 35, 44), (44, .iload 4, 2, 46), (46, .iload_n 2, 1, 47), (47, .ifCond .ne 8, 3, 50), (50, .bipush 6, 2, 52), (52, .goto 5, 3, 55), (55, .bipush 9, 2, 57), (57, .if_icmp .gt 7, 3, 60), (60, .iconst 1, 1, 61), (61, .goto 4, 3, 64), (64, .iconst 0, 1, 65), (65, .ireturn, 1, 66), (66, .iload 4, 2, 68), (68, .ldc 104, 2, 70), (70, .if_icmp .gt 7, 3, 73), (73, .iconst 1, 1, 74), (74, .goto 4, 3, 77), (77, .iconst 0, 1, 78), (78, .ireturn, 1, 79), (79, .iload 4, 2, 81), (81, .bipush 9, 2, 83), (83, .if_icmp .gt 7, 3, 86), (86, .iconst 1, 1, 87), (87, .goto 4, 3, 90), (90, .iconst 0, 1, 91), (91, .ireturn, 1, 92), (92, .iload_n 2, 1, 93), (93, .ifCond .ne 10, 3, 96), (96, .aload_n 3, 1, 97), (97, .iload 4, 2, 99), (99, .invokevirtual 105, 3, 102), (102, .ireturn, 1, 103), (103, .iload_n 2, 1, 104), (104, .iconst 1, 1, 105), (105, .if_icmp .ne 61, 3, 108), (108, .aload_n 3, 1, 109), (109, .aload_n 0, 1, 110), (110, .getfield 15, 3, 113), (113, .iconst 0, 1, 114), (114, .iaload, 1, 115), (115, .iload 4, 2, 117), (117, .invokevirtual 109, 3, 120), (120, .ifCond .eq 7, 3, 123), (123, .iconst 1, 1, 124), (124, .goto 4, 3, 127), (127, .iconst 0, 1, 128), (128, .istore 5, 2, 130), (130, .aload_n 3, 1, 131), (131, .iload 4, 2, 133), (133, .invokevirtual 105, 3, 136), (136, .ifCond .eq 28, 3, 139), (139, .iload 4, 2, 141), (141, .aload_n 0, 1, 142), (142, .getfield 15, 3, 145), (145, .iconst 0, 1, 146), (146, .iaload, 1, 147), (147, .if_icmp .eq 17, 3, 150), (150, .iload_n 1, 1, 151), (151, .iconst 2, 1, 152), (152, .if_icmp .ne 8, 3, 155), (155, .iload 5, 2, 157), (157, .ifCond .eq 7, 3, 160), (160, .iconst 1, 1, 161), (161, .goto 4, 3, 164), (164, .iconst 0, 1, 165), (165, .ireturn, 1, 166), (166, .iload_n 1, 1, 167), (167, .iconst 1, 1, 168), (168, .if_icmp .ne 23, 3, 171), (171, .iload 4, 2, 173), (173, .iconst 1, 1, 174), (174, .if_icmp .lt 15, 3, 177), (177, .iload 4, 2, 179), (179, .sipush 999, 3, 182), (182, .if_icmp .gt 7, 3, 185), (185, .iconst 1, 1, 186), (186, .goto 4, 3, 189), (189, .iconst 0, 1, 190), (190, .ireturn, 1, 191), (191, .aload_n 3, 1, 192), (192, .aload_n 0, 1, 193), (193, .getfield 15, 3, 196), (196, .iconst 0, 1, 197), (197, .iaload, 1, 198), (198, .aload_n 0, 1, 199), (199, .getfield 15, 3, 202), (202, .iconst 1, 1, 203), (203, .iaload, 1, 204), (204, .iload_n 1, 1, 205), (205, .iconst 5, 1, 206), (206, .if_icmp .ne 9, 3, 209), (209, .iload 4, 2, 211), (211, .ineg, 1, 212), (212, .goto 5, 3, 215), (215, .iload 4, 2, 217), (217, .invokevirtual 112, 3, 220), (220, .ireturn, 1, 221)]
theorem dk_X3_stands : decOK cX3_stands dl_X3_stands = true := by decide +kernel
def dl_X3_tell : List DRow := [(0, .iload_n 1, 1, 1), (1, .tableswitch 155 0 5 #[39, 59, 84, 103, 116, 129], 39, 40), (40, .aload_n 2, 1, 41), (41, .aload_n 0, 1, 42), (42, .getfield 15, 3, 45), (45, .iconst 0, 1, 46), (46, .iaload, 1, 47), (47, .aload_n 0, 1, 48), (48, .getfield 15, 3, 51), (51, .iconst 1, 1, 52), (52, .iaload, 1, 53), (53, .invokevirtual 116, 3, 56), (56, .pop, 1, 57), (57, .goto 121, 3, 60), (60, .aload_n 2, 1, 61), (61, .aload_n 0, 1, 62), (62, .getfield 15, 3, 65), (65, .iconst 0, 1, 66), (66, .iaload, 1, 67), (67, .aload_n 0, 1, 68), (68, .getfield 15, 3, 71), (71, .iconst 1, 1, 72), (72, .iaload, 1, 73), (73, .aload_n 0, 1, 74), (74, .getfield 15, 3, 77), (77, .iconst 2, 1, 78), (78, .iaload, 1, 79), (79, .invokevirtual 119, 3, 82), (82, .goto 96, 3, 85), (85, .aload_n 2, 1, 86), (86, .aload_n 0, 1, 87), (87, .getfield 15, 3, 90), (90, .iconst 0, 1, 91), (91, .iaload, 1, 92), (92, .aload_n 0, 1, 93), (93, .getfield 15, 3, 96), (96, .iconst 1, 1, 97), (97, .iaload, 1, 98), (98, .invokevirtual 123, 3, 101), (101, .goto 77, 3, 104), (104, .aload_n 2, 1, 105), (105, .aload_n 0, 1, 106), (106, .getfield 15, 3, 109), (109, .iconst 0, 1, 110), (110, .iaload, 1, 111), (111, .putfield 127, 3, 114), (114, .goto 64, 3, 117), (117, .aload_n 2, 1, 118), (118, .aload_n 0, 1, 119), (119, .getfield 15, 3, 122), (122, .iconst 0, 1, 123), (123, .iaload, 1, 124), (124, .putfield 129, 3, 127), (127, .goto 51, 3, 130), (130, .aload_n 2, 1, 131), (131, .aload_n 0, 1, 132), (132, .getfield 15, 3, 135), (135, .iconst 0, 1, 136), (136, .iaload, 1, 137), (137, .aload_n 0, 1, 138), (138, .getfield 15, 3, 141), (141, .iconst 1, 1, 142), (142, .iaload, 1, 143), (143, .aload_n 0, 1, 144), (144, .getfield 15, 3, 147), (147, .iconst 2, 1, 148), (148, .iaload, 1, 149), (149, .ineg, 1, 150), (150, .invokevirtual 131, 3, 153), (153, .goto 25, 3, 156), (156, .aload_n 2, 1, 157), (157, .aload_n 0, 1, 158), (158, .getfield 15, 3, 161), (161, .iconst 0, 1, 162), (162, .iaload, 1, 163), (163, .aload_n 0, 1, 164), (164, .getfield 15, 3, 167), (167, .iconst 1, 1, 168), (168, .iaload, 1, 169), (169, .aload_n 0, 1, 170), (170, .getfield 15, 3, 173), (173, .iconst 2, 1, 174), (174, .iaload, 1, 175), (175, .invokevirtual 131, 3, 178), (178, .return_, 1, 179)]
theorem dk_X3_tell : decOK cX3_tell dl_X3_tell = true := by decide +kernel
def dl_X4_init : List DRow := [(0, .aload_n 0, 1, 1), (1, .invokespecial 3, 3, 4), (4, .aload_n 0, 1, 5), (5, .sipush 160, 3, 8), (8, .newarray .long, 2, 10), (10, .putfield 9, 3, 13), (13, .aload_n 0, 1, 14), (14, .iconst (-1), 1, 15), (15, .putfield 15, 3, 18), (18, .aload_n 0, 1, 19), (19, .iconst (-1), 1, 20), (20, .putfield 19, 3, 23), (23, .return_, 1, 24)]
theorem dk_X4_init : decOK cX4_init dl_X4_init = true := by decide +kernel
def dl_X4_holdsRow : List DRow := [(0, .aload_n 0, 1, 1), (1, .getfield 15, 3, 4), (4, .iconst (-1), 1, 5), (5, .if_icmp .eq 7, 3, 8), (8, .iconst 1, 1, 9), (9, .goto 4, 3, 12), (12, .iconst 0, 1, 13), (13, .ireturn, 1, 14)]
theorem dk_X4_holdsRow : decOK cX4_holdsRow dl_X4_holdsRow = true := by decide +kernel
def dl_X4_holdsPlace : List DRow := [(0, .aload_n 0, 1, 1), (1, .getfield 19, 3, 4), (4, .iconst (-1), 1, 5), (5, .if_icmp .eq 7, 3, 8), (8, .iconst 1, 1, 9), (9, .goto 4, 3, 12), (12, .iconst 0, 1, 13), (13, .ireturn, 1, 14)]
theorem dk_X4_holdsPlace : decOK cX4_holdsPlace dl_X4_holdsPlace = true := by decide +kernel
def dl_X4_takeRow : List DRow := [(0, .aload_n 0, 1, 1), (1, .iconst (-1), 1, 2), (2, .putfield 19, 3, 5), (5, .aload_n 0, 1, 6), (6, .iload_n 1, 1, 7), (7, .putfield 15, 3, 10), (10, .aload_n 0, 1, 11), (11, .iload_n 2, 1, 12), (12, .putfield 22, 3, 15), (15, .aload_n 0, 1, 16), (16, .getfield 9, 3, 19), (19, .lconst 0, 1, 20), (20, .invokestatic 25, 3, 23), (23, .return_, 1, 24)]
theorem dk_X4_takeRow : decOK cX4_takeRow dl_X4_takeRow = true := by decide +kernel
def dl_X4_takePlace : List DRow := [(0, .aload_n 0, 1, 1), (1, .iload_n 1, 1, 2), (2, .putfield 19, 3, 5), (5, .aload_n 0, 1, 6), (6, .iconst (-1), 1, 7), (7, .putfield 15, 3, 10), (10, .aload_n 0, 1, 11), (11, .iconst 0, 1, 12), (12, .putfield 22, 3, 15), (15, .return_, 1, 16)]
theorem dk_X4_takePlace : decOK cX4_takePlace dl_X4_takePlace = true := by decide +kernel
def dl_X4_hasElements : List DRow := [(0, .iload_n 1, 1, 1), (1, .ifCond .lt 29, 3, 4), (4, .iload_n 2, 1, 5), (5, .ifCond .lt 25, 3, 8), (8, .iload_n 1, 1, 9), (9, .aload_n 0, 1, 10), (10, .getfield 22, 3, 13), (13, .if_icmp .gt 17, 3, 16), (16, .iload_n 2, 1, 17), (17, .aload_n 0, 1, 18), (18, .getfield 22, 3, 21), (21, .iload_n 1, 1, 22), (22, .isub, 1, 23), (23, .if_icmp .gt 7, 3, 26), (26, .iconst 1, 1, 27), (27, .goto 4, 3, 30), (30, .iconst 0, 1, 31), (31, .ireturn, 1, 32)]
theorem dk_X4_hasElements : decOK cX4_hasElements dl_X4_hasElements = true := by decide +kernel
def dl_X4_at : List DRow := [(0, .iload_n 1, 1, 1), (1, .ifCond .lt 20, 3, 4), (4, .iload_n 1, 1, 5), (5, .aload_n 0, 1, 6), (6, .getfield 22, 3, 9), (9, .if_icmp .ge 12, 3, 12), (12, .aload_n 0, 1, 13), (13, .getfield 9, 3, 16), (16, .iload_n 1, 1, 17), (17, .laload, 1, 18), (18, .goto 4, 3, 21), (21, .lconst 0, 1, 22), (22, .lreturn, 1, 23)]
theorem dk_X4_at : decOK cX4_at dl_X4_at = true := by decide +kernel
def dl_X4_asInt : List DRow := [(0, .iload_n 1, 1, 1), (1, .ifCond .lt 21, 3, 4), (4, .iload_n 1, 1, 5), (5, .aload_n 0, 1, 6), (6, .getfield 22, 3, 9), (9, .if_icmp .ge 13, 3, 12), (12, .aload_n 0, 1, 13), (13, .getfield 9, 3, 16), (16, .iload_n 1, 1, 17), (17, .laload, 1, 18), (18, .l2i, 1, 19), (19, .goto 4, 3, 22), (22, .iconst 0, 1, 23), (23, .ireturn, 1, 24)]
theorem dk_X4_asInt : decOK cX4_asInt dl_X4_asInt = true := by decide +kernel
def dl_X4_put : List DRow := [(0, .aload_n 0, 1, 1), (1, .iload_n 1, 1, 2), (2, .iconst 1, 1, 3), (3, .invokevirtual 31, 3, 6), (6, .ifCond .eq 14, 3, 9), (9, .aload_n 0, 1, 10), (10, .getfield 9, 3, 13), (13, .iload_n 1, 1, 14), (14, .aload_n 0, 1, 15), (15, .lload_n 2, 1, 16), (16, .invokevirtual 35, 3, 19), (19, .lastore, 1, 20), (20, .return_, 1, 21)]
theorem dk_X4_put : decOK cX4_put dl_X4_put = true := by decide +kernel
def dl_X4_kept : List DRow := [(0, .aload_n 0, 1, 1), (1, .getfield 15, 3, 4), (4, .tableswitch 42 0 2 #[28, 33, 38], 28, 32), (32, .lload_n 1, 1, 33), (33, .l2i, 1, 34), (34, .i2b, 1, 35), (35, .i2l, 1, 36), (36, .lreturn, 1, 37), (37, .lload_n 1, 1, 38), (38, .l2i, 1, 39), (39, .i2s, 1, 40), (40, .i2l, 1, 41), (41, .lreturn, 1, 42), (42, .lload_n 1, 1, 43), (43, .l2i, 1, 44), (44, .i2l, 1, 45), (45, .lreturn, 1, 46), (46, .lload_n 1, 1, 47), (47, .lreturn, 1, 48)]
theorem dk_X4_kept : decOK cX4_kept dl_X4_kept = true := by decide +kernel
def dl_X5_init : List DRow := [(0, .aload_n 0, 1, 1), (1, .invokespecial 1, 3, 4), (4, .aload_n 0, 1, 5), (5, .new 7, 3, 8), (8, .dup, 1, 9), (9, .invokespecial 9, 3, 12), (12, .putfield 10, 3, 15), (15, .aload_n 0, 1, 16), (16, .new 7, 3, 19), (19, .dup, 1, 20), (20, .invokespecial 9, 3, 23), (23, .putfield 16, 3, 26), (26, .aload_n 0, 1, 27), (27, .new 7, 3, 30), (30, .dup, 1, 31), (31, .invokespecial 9, 3, 34), (34, .putfield 19, 3, 37), (37, .aload_n 0, 1, 38), (38, .new 22, 3, 41), (41, .dup, 1, 42), (42, .invokespecial 24, 3, 45), (45, .putfield 25, 3, 48), (48, .aload_n 0, 1, 49), (49, .new 22, 3, 52), (52, .dup, 1, 53), (53, .invokespecial 24, 3, 56), (56, .putfield 29, 3, 59), (59, .aload_n 0, 1, 60), (60, .bipush 8, 2, 62), (62, .anewarray 32, 3, 65), (65, .putfield 34, 3, 68), (68, .aload_n 0, 1, 69), (69, .bipush 8, 2, 71), (71, .newarray .int, 2, 73), (73, .putfield 38, 3, 76), (76, .aload_n 0, 1, 77), (77, .new 42, 3, 80), (80, .dup, 1, 81), (81, .invokespecial 44, 3, 84), (84, .putfield 45, 3, 87), (87, .aload_n 0, 1, 88), (88, .new 49, 3, 91), (91, .dup, 1, 92), (92, .invokespecial 51, 3, 95), (95, .putfield 52, 3, 98), (98, .iconst 0, 1, 99), (99, .istore_n 1, 1, 100), (100, .iload_n 1, 1, 101), (101, .bipush 8, 2, 103), (103, .if_icmp .ge 22, 3, 106), (106, .aload_n 0, 1, 107), (107, .getfield 34, 3, 110), (110, .iload_n 1, 1, 111), (111, .new 32, 3, 114), (114, .dup, 1, 115), (115, .invokespecial 56, 3, 118), (118, .aastore, 1, 119), (119, .iinc 1 1, 3, 122), (122, .goto (-22), 3, 125), (125, .return_, 1, 126)]
theorem dk_X5_init : decOK cX5_init dl_X5_init = true := by decide +kernel
def dl_X5_row : List DRow := [(0, .aload_n 0, 1, 1), (1, .iload_n 1, 1, 2), (2, .invokevirtual 57, 3, 5), (5, .astore 4, 2, 7), (7, .aload 4, 2, 9), (9, .ifnonnull 9, 3, 12), (12, .aload_n 0, 1, 13), (13, .iconst (-1), 1, 14), (14, .invokevirtual 61, 3, 17), (17, .ireturn, 1, 18), (18, .iload_n 3, 1, 19), (19, .ifCond .ge 10, 3, 22), (22, .aload_n 0, 1, 23), (23, .bipush (-4), 2, 25), (25, .invokevirtual 61, 3, 28), (28, .ireturn, 1, 29), (29, .iload_n 2, 1, 30), (30, .ifCond .lt 8, 3, 33), (33, .iload_n 2, 1, 34), (34, .iconst 3, 1, 35), (35, .if_icmp .le 10, 3, 38), (38, .aload_n 0, 1, 39), (39, .bipush (-6), 2, 41), (41, .invokevirtual 61, 3, 44), (44, .ireturn, 1, 45), (45, .iload_n 3, 1, 46), (46, .sipush 160, 3, 49), (49, .if_icmp .le 10, 3, 52), (52, .aload_n 0, 1, 53), (53, .bipush (-7), 2, 55), (55, .invokevirtual 61, 3, 58), (58, .ireturn, 1, 59), (59, .aload 4, 2, 61), (61, .iload_n 2, 1, 62), (62, .iload_n 3, 1, 63), (63, .invokevirtual 65, 3, 66), (66, .iconst 1, 1, 67), (67, .ireturn, 1, 68)]
theorem dk_X5_row : decOK cX5_row dl_X5_row = true := by decide +kernel
def dl_X5_set : List DRow := [(0, .aload_n 0, 1, 1), (1, .iload_n 1, 1, 2), (2, .invokevirtual 57, 3, 5), (5, .astore 5, 2, 7), (7, .aload 5, 2, 9), (9, .invokestatic 69, 3, 12), (12, .istore 6, 2, 14), (14, .iload 6, 2, 16), (16, .ifCond .ne 17, 3, 19), (19, .aload 5, 2, 21), (21, .iload_n 2, 1, 22), (22, .iconst 1, 1, 23), (23, .invokevirtual 73, 3, 26), (26, .ifCond .ne 7, 3, 29), (29, .bipush (-5), 2, 31), (31, .istore 6, 2, 33), (33, .iload 6, 2, 35), (35, .ifCond .eq 10, 3, 38), (38, .aload_n 0, 1, 39), (39, .iload 6, 2, 41), (41, .invokevirtual 61, 3, 44), (44, .ireturn, 1, 45), (45, .aload 5, 2, 47), (47, .iload_n 2, 1, 48), (48, .lload_n 3, 1, 49), (49, .invokevirtual 77, 3, 52), (52, .iconst 1, 1, 53), (53, .ireturn, 1, 54)]
theorem dk_X5_set : decOK cX5_set dl_X5_set = true := by decide +kernel
def dl_X5_copy : List DRow := [(0, .aload_n 0, 1, 1), (1, .iload_n 1, 1, 2), (2, .invokevirtual 57, 3, 5), (5, .astore 6, 2, 7), (7, .aload_n 0, 1, 8), (8, .iload_n 2, 1, 9), (9, .invokevirtual 57, 3, 12), (12, .astore 7, 2, 14), (14, .aload 6, 2, 16), (16, .aload 7, 2, 18), (18, .invokestatic 81, 3, 21), (21, .istore 8, 2, 23), (23, .iload 8, 2, 25), (25, .ifCond .ne 12, 3, 28), (28, .iload 5, 2, 30), (30, .ifCond .ge 7, 3, 33), (33, .bipush (-4), 2, 35), (35, .istore 8, 2, 37), (37, .iload 8, 2, 39), (39, .ifCond .ne 30, 3, 42), (42, .aload 6, 2, 44), (44, .iload_n 3, 1, 45), (45, .iload 5, 2, 47), (47, .invokevirtual 73, 3, 50), (50, .ifCond .eq 15, 3, 53), (53, .aload 7, 2, 55), (55, .iload 4, 2, 57), (57, .iload 5, 2, 59), (59, .invokevirtual 73, 3, 62), (62, .ifCond .ne 7, 3, 65), (65, .bipush (-5), 2, 67), (67, .istore 8, 2, 69), (69, .iload 8, 2, 71), (71, .ifCond .eq 10, 3, 74), (74, .aload_n 0, 1, 75), (75, .iload 8, 2, 77), (77, .invokevirtual 61, 3, 80), (80, .ireturn, 1, 81), (81, .aload 6, 2, 83), (83, .getfield 85, 3, 86), (86, .iload_n 3, 1, 87), (87, .aload 7, 2, 89), (89, .getfield 85, 3, 92), (92, .iload 4, 2, 94), (94, .iload 5, 2, 96), (96, .invokestatic 89, 3, 99), (99, .iconst 1, 1, 100), (100, .ireturn, 1, 101)]
theorem dk_X5_copy : decOK cX5_copy dl_X5_copy = true := by decide +kernel
def dl_X5_element : List DRow := [(0, .aload_n 0, 1, 1), (1, .iload_n 1, 1, 2), (2, .invokevirtual 57, 3, 5), (5, .astore_n 3, 1, 6), (6, .aload_n 3, 1, 7), (7, .invokestatic 69, 3, 10), (10, .ifCond .ne 11, 3, 13), (13, .aload_n 3, 1, 14), (14, .iload_n 2, 1, 15), (15, .invokevirtual 95, 3, 18), (18, .goto 4, 3, 21), (21, .lconst 0, 1, 22), (22, .lreturn, 1, 23)]
theorem dk_X5_element : decOK cX5_element dl_X5_element = true := by decide +kernel
def dl_X5_show : List DRow := [(0, .aload_n 0, 1, 1), (1, .iload_n 1, 1, 2), (2, .invokevirtual 57, 3, 5), (5, .astore_n 3, 1, 6), (6, .aload_n 3, 1, 7), (7, .ifnull 19, 3, 10), (10, .iload_n 2, 1, 11), (11, .iconst (-1), 1, 12), (12, .if_icmp .eq 20, 3, 15), (15, .aload_n 0, 1, 16), (16, .getfield 10, 3, 19), (19, .iload_n 2, 1, 20), (20, .invokevirtual 99, 3, 23), (23, .ifCond .ne 9, 3, 26), (26, .aload_n 0, 1, 27), (27, .iconst (-1), 1, 28), (28, .invokevirtual 61, 3, 31), (31, .ireturn, 1, 32), (32, .aload_n 3, 1, 33), (33, .iload_n 2, 1, 34), (34, .invokevirtual 103, 3, 37), (37, .iload_n 2, 1, 38), (38, .iconst (-1), 1, 39), (39, .if_icmp .ne 7, 3, 42), (42, .iconst 0, 1, 43), (43, .goto 4, 3, 46), (46, .iconst 1, 1, 47), (47, .ireturn, 1, 48)]
theorem dk_X5_show : decOK cX5_show dl_X5_show = true := by decide +kernel
def dl_X5_holds : List DRow := [(0, .aload_n 0, 1, 1), (1, .iload_n 1, 1, 2), (2, .invokevirtual 57, 3, 5), (5, .astore_n 2, 1, 6), (6, .aload_n 2, 1, 7), (7, .ifnonnull 5, 3, 10), (10, .iconst (-1), 1, 11), (11, .ireturn, 1, 12), (12, .aload_n 2, 1, 13), (13, .invokevirtual 107, 3, 16), (16, .ifCond .eq 13, 3, 19), (19, .bipush 100, 2, 21), (21, .aload_n 2, 1, 22), (22, .getfield 111, 3, 25), (25, .iadd, 1, 26), (26, .goto 7, 3, 29), (29, .aload_n 2, 1, 30), (30, .getfield 115, 3, 33), (33, .ireturn, 1, 34)]
theorem dk_X5_holds : decOK cX5_holds dl_X5_holds = true := by decide +kernel
def dl_X5_says : List DRow := [(0, .aload_n 0, 1, 1), (1, .iload_n 1, 1, 2), (2, .invokevirtual 57, 3, 5), (5, .astore_n 3, 1, 6), (6, .iconst 0, 1, 7), (7, .istore 4, 2, 9), (9, .aload_n 3, 1, 10), (10, .ifnull 10, 3, 13), (13, .iload_n 2, 1, 14), (14, .invokestatic 118, 3, 17), (17, .ifCond .ne 9, 3, 20), (20, .iconst (-1), 1, 21), (21, .istore 4, 2, 23), (23, .goto 50, 3, 26), (26, .aload_n 3, 1, 27), (27, .invokevirtual 107, 3, 30), (30, .ifCond .eq 10, 3, 33), (33, .bipush (-2), 2, 35), (35, .istore 4, 2, 37), (37, .goto 36, 3, 40), (40, .aload_n 3, 1, 41), (41, .invokevirtual 121, 3, 44), (44, .ifCond .ne 10, 3, 47), (47, .bipush (-3), 2, 49), (49, .istore 4, 2, 51), (51, .goto 22, 3, 54), (54, .aload_n 0, 1, 55), (55, .getfield 10, 3, 58), (58, .aload_n 3, 1, 59), (59, .getfield 115, 3, 62), (62, .iload_n 2, 1, 63), (63, .invokevirtual 124, 3, 66), (66, .ifCond .ne 7, 3, 69), (69, .bipush (-2), 2, 71), (71, .istore 4, 2, 73), (73, .iload 4, 2, 75), (75, .ifCond .eq 10, 3, 78), (78, .aload_n 0, 1, 79), (79, .iload 4, 2, 81), (81, .invokevirtual 61, 3, 84), (84, .ireturn, 1, 85), (85, .iload_n 2, 1, 86), (86, .tableswitch 79 1 6 #[38, 52, 38, 65, 52, 65], 38, 124), (124, .aload_n 0, 1, 125), (125, .getfield 10, 3, 128), (128, .aload_n 3, 1, 129), (129, .getfield 115, 3, 132), (132, .bipush 10, 2, 134), (134, .invokevirtual 127, 3, 137), (137, .ireturn, 1, 138), (138, .aload_n 0, 1, 139), (139, .getfield 10, 3, 142), (142, .aload_n 3, 1, 143), (143, .getfield 115, 3, 146), (146, .iconst 1, 1, 147), (147, .invokevirtual 127, 3, 150), (150, .ireturn, 1, 151), (151, .aload_n 0, 1, 152), (152, .getfield 10, 3, 155), (155, .aload_n 3, 1, 156), (156, .getfield 115, 3, 159), (159, .bipush 99, 2, 161), (161, .invokevirtual 127, 3, 164), (164, .ireturn, 1, 165), (165, .aload_n 0, 1, 166), (166, .getfield 10, 3, 169), (169, .aload_n 3, 1, 170), (170, .getfield 115, 3, 173), (173, .invokevirtual 131, 3, 176), (176, .invokestatic 134, 3, 179), (179, .ireturn, 1, 180)]
theorem dk_X5_says : decOK cX5_says dl_X5_says = true := by decide +kernel
def dl_X5_place : List DRow := [(0, .iload_n 1, 1, 1), (1, .invokestatic 118, 3, 4), (4, .ifCond .ne 9, 3, 7), (7, .aload_n 0, 1, 8), (8, .iconst (-1), 1, 9), (9, .invokevirtual 61, 3, 12), (12, .ireturn, 1, 13), (13, .iload_n 2, 1, 14), (14, .ifCond .lt 9, 3, 17), (17, .iload_n 2, 1, 18), (18, .bipush 9, 2, 20), (20, .if_icmp .le 10, 3, 23), (23, .aload_n 0, 1, 24), (24, .bipush (-6), 2, 26), (26, .invokevirtual 61, 3, 29), (29, .ireturn, 1, 30), (30, .aload_n 0, 1, 31), (31, .getfield 10, 3, 34), (34, .invokevirtual 139, 3, 37), (37, .ifCond .ne 10, 3, 40), (40, .aload_n 0, 1, 41), (41, .bipush (-7), 2, 43), (43, .invokevirtual 61, 3, 46), (46, .ireturn, 1, 47), (47, .aload_n 0, 1, 48), (48, .getfield 10, 3, 51), (51, .iload_n 1, 1, 52), (52, .iload_n 2, 1, 53), (53, .invokevirtual 142, 3, 56), (56, .ireturn, 1, 57)]
theorem dk_X5_place : decOK cX5_place dl_X5_place = true := by decide +kernel
def dl_X5_placeOf : List DRow := [(0, .aload_n 0, 1, 1), (1, .getfield 10, 3, 4), (4, .iload_n 1, 1, 5), (5, .invokevirtual 99, 3, 8), (8, .ifCond .eq 12, 3, 11), (11, .iload_n 2, 1, 12), (12, .ifCond .lt 8, 3, 15), (15, .iload_n 2, 1, 16), (16, .iconst 3, 1, 17), (17, .if_icmp .le 10, 3, 20), (20, .aload_n 0, 1, 21), (21, .bipush (-5), 2, 23), (23, .invokevirtual 61, 3, 26), (26, .ireturn, 1, 27), (27, .iload_n 2, 1, 28), (28, .tableswitch 57 0 2 #[28, 38, 48], 28, 56), (56, .aload_n 0, 1, 57), (57, .getfield 10, 3, 60), (60, .getfield 145, 3, 63), (63, .iload_n 1, 1, 64), (64, .iaload, 1, 65), (65, .ireturn, 1, 66), (66, .aload_n 0, 1, 67), (67, .getfield 10, 3, 70), (70, .getfield 148, 3, 73), (73, .iload_n 1, 1, 74), (74, .iaload, 1, 75), (75, .ireturn, 1, 76), (76, .aload_n 0, 1, 77), (77, .getfield 10, 3, 80), (80, .iload_n 1, 1, 81), (81, .invokevirtual 131, 3, 84), (84, .ireturn, 1, 85), (85, .aload_n 0, 1, 86), (86, .getfield 10, 3, 89), (89, .iload_n 1, 1, 90), (90, .invokevirtual 151, 3, 93), (93, .ireturn, 1, 94)]
theorem dk_X5_placeOf : decOK cX5_placeOf dl_X5_placeOf = true := by decide +kernel
def dl_X5_road : List DRow := [(0, .aload_n 0, 1, 1), (1, .getfield 10, 3, 4), (4, .iload_n 1, 1, 5), (5, .iload_n 2, 1, 6), (6, .invokevirtual 154, 3, 9), (9, .ifCond .ne 9, 3, 12), (12, .aload_n 0, 1, 13), (13, .iconst (-1), 1, 14), (14, .invokevirtual 61, 3, 17), (17, .ireturn, 1, 18), (18, .iload_n 1, 1, 19), (19, .iload_n 2, 1, 20), (20, .if_icmp .eq 14, 3, 23), (23, .iload_n 3, 1, 24), (24, .ifCond .lt 10, 3, 27), (27, .iload_n 3, 1, 28), (28, .sipush 999, 3, 31), (31, .if_icmp .le 10, 3, 34), (34, .aload_n 0, 1, 35), (35, .bipush (-6), 2, 37), (37, .invokevirtual 61, 3, 40), (40, .ireturn, 1, 41), (41, .aload_n 0, 1, 42), (42, .getfield 10, 3, 45), (45, .iload_n 1, 1, 46), (46, .iload_n 2, 1, 47), (47, .invokevirtual 157, 3, 50), (50, .istore 4, 2, 52), (52, .aload_n 0, 1, 53), (53, .getfield 10, 3, 56), (56, .iload_n 1, 1, 57), (57, .iload_n 2, 1, 58), (58, .iload_n 3, 1, 59), (59, .invokevirtual 160, 3, 62), (62, .iload 4, 2, 64), (64, .ireturn, 1, 65)]
theorem dk_X5_road : decOK cX5_road dl_X5_road = true := by decide +kernel
def dl_X5_miles : List DRow := [(0, .aload_n 0, 1, 1), (1, .getfield 10, 3, 4), (4, .iload_n 1, 1, 5), (5, .iload_n 2, 1, 6), (6, .invokevirtual 154, 3, 9), (9, .ifCond .ne 9, 3, 12), (12, .aload_n 0, 1, 13), (13, .iconst (-1), 1, 14), (14, .invokevirtual 164, 3, 17), (17, .ireturn, 1, 18), (18, .iload_n 1, 1, 19), (19, .iload_n 2, 1, 20), (20, .if_icmp .ne 12, 3, 23), (23, .aload_n 0, 1, 24), (24, .bipush (-6), 2, 26), (26, .invokevirtual 164, 3, 29), (29, .goto 12, 3, 32), (32, .aload_n 0, 1, 33), (33, .getfield 10, 3, 36), (36, .iload_n 1, 1, 37), (37, .iload_n 2, 1, 38), (38, .invokevirtual 157, 3, 41), (41, .ireturn, 1, 42)]
theorem dk_X5_miles : decOK cX5_miles dl_X5_miles = true := by decide +kernel
def dl_X5_ask : List DRow := [(0, .iload_n 1, 1, 1), (1, .ifCond .ne 31, 3, 4), (4, .iload_n 2, 1, 5), (5, .ifCond .lt 27, 3, 8), (8, .iload_n 2, 1, 9), (9, .ldc 167, 2, 11), (11, .if_icmp .gt 21, 3, 14), (14, .aload_n 0, 1, 15), (15, .getfield 10, 3, 18), (18, .getfield 168, 3, 21), (21, .istore_n 3, 1, 22), (22, .aload_n 0, 1, 23), (23, .getfield 10, 3, 26), (26, .iload_n 2, 1, 27), (27, .putfield 168, 3, 30), (30, .iload_n 3, 1, 31), (31, .ireturn, 1, 32), (32, .iload_n 1, 1, 33), (33, .iconst 1, 1, 34), (34, .if_icmp .ne 31, 3, 37), (37, .iload_n 2, 1, 38), (38, .ifCond .lt 27, 3, 41), (41, .iload_n 2, 1, 42), (42, .bipush 9, 2, 44), (44, .if_icmp .gt 21, 3, 47), (47, .aload_n 0, 1, 48), (48, .getfield 10, 3, 51), (51, .getfield 171, 3, 54), (54, .istore_n 3, 1, 55), (55, .aload_n 0, 1, 56), (56, .getfield 10, 3, 59), (59, .iload_n 2, 1, 60), (60, .putfield 171, 3, 63), (63, .iload_n 3, 1, 64), (64, .ireturn, 1, 65), (65, .aload_n 0, 1, 66), (66, .bipush (-6), 2, 68), (68, .invokevirtual 61, 3, 71), (71, .ireturn, 1, 72)]
theorem dk_X5_ask : decOK cX5_ask dl_X5_ask = true := by decide +kernel
def dl_X5_map : List DRow := [(0, .aload_n 0, 1, 1), (1, .iload_n 1, 1, 2), (2, .invokevirtual 57, 3, 5), (5, .astore_n 2, 1, 6), (6, .aload_n 2, 1, 7), (7, .invokestatic 69, 3, 10), (10, .istore_n 3, 1, 11), (11, .iload_n 3, 1, 12), (12, .ifCond .eq 9, 3, 15), (15, .aload_n 0, 1, 16), (16, .iload_n 3, 1, 17), (17, .invokevirtual 61, 3, 20), (20, .ireturn, 1, 21), (21, .aload_n 0, 1, 22), (22, .getfield 16, 3, 25), (25, .aload_n 0, 1, 26), (26, .getfield 10, 3, 29), (29, .invokevirtual 174, 3, 32), (32, .aload_n 0, 1, 33), (33, .getfield 45, 3, 36), (36, .aload_n 2, 1, 37), (37, .aload_n 0, 1, 38), (38, .getfield 16, 3, 41), (41, .invokevirtual 178, 3, 44), (44, .istore 4, 2, 46), (46, .aload_n 0, 1, 47), (47, .getfield 45, 3, 50), (50, .getfield 182, 3, 53), (53, .iconst (-1), 1, 54), (54, .if_icmp .eq 10, 3, 57), (57, .aload_n 0, 1, 58), (58, .bipush (-6), 2, 60), (60, .invokevirtual 61, 3, 63), (63, .ireturn, 1, 64), (64, .aload_n 0, 1, 65), (65, .getfield 10, 3, 68), (68, .aload_n 0, 1, 69), (69, .getfield 16, 3, 72), (72, .invokevirtual 174, 3, 75), (75, .iload 4, 2, 77), (77, .ireturn, 1, 78)]
theorem dk_X5_map : decOK cX5_map dl_X5_map = true := by decide +kernel
def dl_X5_fault : List DRow := [(0, .aload_n 0, 1, 1), (1, .getfield 45, 3, 4), (4, .getfield 182, 3, 7), (7, .ireturn, 1, 8)]
theorem dk_X5_fault : decOK cX5_fault dl_X5_fault = true := by decide +kernel
def dl_X5_cost : List DRow := [(0, .aload_n 0, 1, 1), (1, .getfield 10, 3, 4), (4, .iload_n 1, 1, 5), (5, .iload_n 2, 1, 6), (6, .invokevirtual 154, 3, 9), (9, .ifCond .ne 9, 3, 12), (12, .aload_n 0, 1, 13), (13, .iconst (-1), 1, 14), (14, .invokevirtual 61, 3, 17), (17, .ireturn, 1, 18), (18, .iload_n 1, 1, 19), (19, .iload_n 2, 1, 20), (20, .if_icmp .eq 15, 3, 23), (23, .iload_n 3, 1, 24), (24, .iconst 1, 1, 25), (25, .if_icmp .lt 10, 3, 28), (28, .iload_n 3, 1, 29), (29, .sipush 998, 3, 32), (32, .if_icmp .le 10, 3, 35), (35, .aload_n 0, 1, 36), (36, .bipush (-6), 2, 38), (38, .invokevirtual 61, 3, 41), (41, .ireturn, 1, 42), (42, .aload_n 0, 1, 43), (43, .getfield 10, 3, 46), (46, .iload_n 1, 1, 47), (47, .iload_n 2, 1, 48), (48, .iload_n 3, 1, 49), (49, .invokevirtual 185, 3, 52), (52, .ireturn, 1, 53)]
theorem dk_X5_cost : decOK cX5_cost dl_X5_cost = true := by decide +kernel
def dl_X5_yields : List DRow := [(0, .aload_n 0, 1, 1), (1, .iload_n 1, 1, 2), (2, .iload_n 2, 1, 3), (3, .invokevirtual 189, 3, 6), (6, .istore_n 3, 1, 7), (7, .iload_n 3, 1, 8), (8, .ifCond .ne 15, 3, 11), (11, .aload_n 0, 1, 12), (12, .getfield 10, 3, 15), (15, .iload_n 1, 1, 16), (16, .iload_n 2, 1, 17), (17, .invokevirtual 192, 3, 20), (20, .goto 8, 3, 23), (23, .aload_n 0, 1, 24), (24, .iload_n 3, 1, 25), (25, .invokevirtual 61, 3, 28), (28, .ireturn, 1, 29)]
theorem dk_X5_yields : decOK cX5_yields dl_X5_yields = true := by decide +kernel
def dl_X5_away : List DRow := [(0, .aload_n 0, 1, 1), (1, .getfield 10, 3, 4), (4, .iload_n 1, 1, 5), (5, .iload_n 2, 1, 6), (6, .invokevirtual 154, 3, 9), (9, .ifCond .ne 9, 3, 12), (12, .aload_n 0, 1, 13), (13, .iconst (-1), 1, 14), (14, .invokevirtual 164, 3, 17), (17, .ireturn, 1, 18), (18, .aload_n 0, 1, 19), (19, .getfield 25, 3, 22), (22, .aload_n 0, 1, 23), (23, .getfield 10, 3, 26), (26, .invokevirtual 195, 3, 29), (29, .aload_n 0, 1, 30), (30, .getfield 25, 3, 33), (33, .iload_n 1, 1, 34), (34, .iload_n 2, 1, 35), (35, .invokevirtual 198, 3, 38), (38, .ireturn, 1, 39)]
theorem dk_X5_away : decOK cX5_away dl_X5_away = true := by decide +kernel
def dl_X5_shortest : List DRow := [(0, .aload_n 0, 1, 1), (1, .getfield 10, 3, 4), (4, .iload_n 1, 1, 5), (5, .iload_n 2, 1, 6), (6, .invokevirtual 154, 3, 9), (9, .ifCond .ne 9, 3, 12), (12, .aload_n 0, 1, 13), (13, .iconst (-1), 1, 14), (14, .invokevirtual 61, 3, 17), (17, .ireturn, 1, 18), (18, .aload_n 0, 1, 19), (19, .getfield 25, 3, 22), (22, .aload_n 0, 1, 23), (23, .getfield 10, 3, 26), (26, .invokevirtual 195, 3, 29), (29, .iload_n 1, 1, 30), (30, .istore 4, 2, 32), (32, .iconst 0, 1, 33), (33, .istore 5, 2, 35), (35, .iload 5, 2, 37), (37, .bipush 8, 2, 39), (39, .if_icmp .ge 72, 3, 42), (42, .aload_n 0, 1, 43), (43, .getfield 25, 3, 46), (46, .iload 4, 2, 48), (48, .iload_n 2, 1, 49), (49, .invokevirtual 201, 3, 52), (52, .ifCond .eq 59, 3, 55), (55, .iload 5, 2, 57), (57, .iload_n 3, 1, 58), (58, .if_icmp .ne 6, 3, 61), (61, .iload 4, 2, 63), (63, .ireturn, 1, 64), (64, .iload 4, 2, 66), (66, .iload_n 2, 1, 67), (67, .if_icmp .ne 22, 3, 70), (70, .iload_n 3, 1, 71), (71, .iconst (-1), 1, 72), (72, .if_icmp .ne 10, 3, 75), (75, .iload 5, 2, 77), (77, .iconst 1, 1, 78), (78, .iadd, 1, 79), (79, .goto 9, 3, 82), (82, .aload_n 0, 1, 83), (83, .bipush (-5), 2, 85), (85, .invokevirtual 61, 3, 88), (88, .ireturn, 1, 89), (89, .aload_n 0, 1, 90), (90, .getfield 25, 3, 93), (93, .aload_n 0, 1, 94), (94, .getfield 10, 3, 97), (97, .iload 4, 2, 99), (99, .iload_n 2, 1, 100), (100, .invokevirtual 204, 3, 103), (103, .istore 4, 2, 105), (105, .iinc 5 1, 3, 108), (108, .goto (-73), 3, 111), (111, .aload_n 0, 1, 112), (112, .bipush (-5), 2, 114), (114, .invokevirtual 61, 3, 117), (117, .ireturn, 1, 118)]
theorem dk_X5_shortest : decOK cX5_shortest dl_X5_shortest = true := by decide +kernel
def dl_X5_within : List DRow := [(0, .aload_n 0, 1, 1), (1, .getfield 10, 3, 4), (4, .iload_n 1, 1, 5), (5, .invokevirtual 99, 3, 8), (8, .ifCond .ne 9, 3, 11), (11, .aload_n 0, 1, 12), (12, .iconst (-1), 1, 13), (13, .invokevirtual 61, 3, 16), (16, .ireturn, 1, 17), (17, .iload_n 2, 1, 18), (18, .ifCond .lt 10, 3, 21), (21, .iload_n 2, 1, 22), (22, .sipush 9999, 3, 25), (25, .if_icmp .le 10, 3, 28), (28, .aload_n 0, 1, 29), (29, .bipush (-6), 2, 31), (31, .invokevirtual 61, 3, 34), (34, .ireturn, 1, 35), (35, .aload_n 0, 1, 36), (36, .getfield 25, 3, 39), (39, .aload_n 0, 1, 40), (40, .getfield 10, 3, 43), (43, .invokevirtual 195, 3, 46), (46, .aload_n 0, 1, 47), (47, .getfield 25, 3, 50), (50, .iload_n 1, 1, 51), (51, .iload_n 2, 1, 52), (52, .invokevirtual 208, 3, 55), (55, .ireturn, 1, 56)]
theorem dk_X5_within : decOK cX5_within dl_X5_within = true := by decide +kernel
def dl_X5_whole : List DRow := [(0, .iload_n 1, 1, 1), (1, .ifCond .lt 23, 3, 4), (4, .iload_n 1, 1, 5), (5, .iconst 3, 1, 6), (6, .if_icmp .gt 18, 3, 9), (9, .iload_n 1, 1, 10), (10, .iconst 1, 1, 11), (11, .if_icmp .ne 20, 3, 14), (14, .aload_n 0, 1, 15), (15, .getfield 10, 3, 18), (18, .getfield 211, 3, 21), (21, .ifCond .ne 10, 3, 24), (24, .aload_n 0, 1, 25), (25, .bipush (-5), 2, 27), (27, .invokevirtual 61, 3, 30), (30, .ireturn, 1, 31), (31, .iload_n 1, 1, 32), (32, .iconst 3, 1, 33), (33, .if_icmp .ne 11, 3, 36), (36, .aload_n 0, 1, 37), (37, .getfield 10, 3, 40), (40, .invokevirtual 214, 3, 43), (43, .ireturn, 1, 44), (44, .aload_n 0, 1, 45), (45, .getfield 25, 3, 48), (48, .aload_n 0, 1, 49), (49, .getfield 10, 3, 52), (52, .invokevirtual 195, 3, 55), (55, .iload_n 1, 1, 56), (56, .lookupswitch 44 #[(0, 28), (1, 36)], 28, 84), (84, .aload_n 0, 1, 85), (85, .getfield 25, 3, 88), (88, .invokevirtual 218, 3, 91), (91, .ireturn, 1, 92), (92, .aload_n 0, 1, 93), (93, .getfield 25, 3, 96), (96, .invokevirtual 221, 3, 99), (99, .ireturn, 1, 100), (100, .aload_n 0, 1, 101), (101, .getfield 25, 3, 104), (104, .invokevirtual 224, 3, 107), (107, .ireturn, 1, 108)]
theorem dk_X5_whole : decOK cX5_whole dl_X5_whole = true := by decide +kernel
def dl_X5_harm : List DRow := [(0, .aload_n 0, 1, 1), (1, .getfield 10, 3, 4), (4, .iload_n 1, 1, 5), (5, .iload_n 2, 1, 6), (6, .invokevirtual 154, 3, 9), (9, .ifCond .ne 9, 3, 12), (12, .aload_n 0, 1, 13), (13, .iconst (-1), 1, 14), (14, .invokevirtual 61, 3, 17), (17, .ireturn, 1, 18), (18, .iload_n 3, 1, 19), (19, .ifCond .lt 8, 3, 22), (22, .iload_n 3, 1, 23), (23, .iconst 1, 1, 24), (24, .if_icmp .le 10, 3, 27), (27, .aload_n 0, 1, 28), (28, .bipush (-5), 2, 30), (30, .invokevirtual 61, 3, 33), (33, .ireturn, 1, 34), (34, .aload_n 0, 1, 35), (35, .iload_n 1, 1, 36), (36, .iload_n 2, 1, 37), (37, .invokevirtual 189, 3, 40), (40, .istore 4, 2, 42), (42, .iload 4, 2, 44), (44, .ifCond .eq 10, 3, 47), (47, .aload_n 0, 1, 48), (48, .iload 4, 2, 50), (50, .invokevirtual 61, 3, 53), (53, .ireturn, 1, 54), (54, .aload_n 0, 1, 55), (55, .getfield 25, 3, 58), (58, .aload_n 0, 1, 59), (59, .getfield 10, 3, 62), (62, .invokevirtual 195, 3, 65), (65, .aload_n 0, 1, 66), (66, .getfield 29, 3, 69), (69, .aload_n 0, 1, 70), (70, .getfield 10, 3, 73), (73, .iload_n 1, 1, 74), (74, .iload_n 2, 1, 75), (75, .invokevirtual 227, 3, 78), (78, .iload_n 3, 1, 79), (79, .ifCond .ne 19, 3, 82), (82, .aload_n 0, 1, 83), (83, .getfield 29, 3, 86), (86, .invokevirtual 231, 3, 89), (89, .aload_n 0, 1, 90), (90, .getfield 25, 3, 93), (93, .invokevirtual 231, 3, 96), (96, .isub, 1, 97), (97, .ireturn, 1, 98), (98, .aload_n 0, 1, 99), (99, .getfield 25, 3, 102), (102, .iload_n 1, 1, 103), (103, .sipush 9999, 3, 106), (106, .invokevirtual 208, 3, 109), (109, .aload_n 0, 1, 110), (110, .getfield 29, 3, 113), (113, .iload_n 1, 1, 114), (114, .sipush 9999, 3, 117), (117, .invokevirtual 208, 3, 120), (120, .iconst (-1), 1, 121), (121, .ixor, 1, 122), (122, .iand, 1, 123), (123, .ireturn, 1, 124)]
theorem dk_X5_harm : decOK cX5_harm dl_X5_harm = true := by decide +kernel
def dl_X5_leastHarm : List DRow := [(0, .iconst (-1), 1, 1), (1, .istore_n 1, 1, 2), (2, .iconst 0, 1, 3), (3, .istore_n 2, 1, 4), (4, .iconst 0, 1, 5), (5, .istore_n 3, 1, 6), (6, .iload_n 3, 1, 7), (7, .aload_n 0, 1, 8), (8, .getfield 10, 3, 11), (11, .getfield 211, 3, 14), (14, .if_icmp .ge 90, 3, 17), (17, .iload_n 3, 1, 18), (18, .iconst 1, 1, 19), (19, .iadd, 1, 20), (20, .istore 4, 2, 22), (22, .iload 4, 2, 24), (24, .aload_n 0, 1, 25), (25, .getfield 10, 3, 28), (28, .getfield 211, 3, 31), (31, .if_icmp .ge 67, 3, 34), (34, .aload_n 0, 1, 35), (35, .getfield 10, 3, 38), (38, .iload_n 3, 1, 39), (39, .iload 4, 2, 41), (41, .invokevirtual 157, 3, 44), (44, .ifCond .eq 48, 3, 47), (47, .aload_n 0, 1, 48), (48, .getfield 29, 3, 51), (51, .aload_n 0, 1, 52), (52, .getfield 10, 3, 55), (55, .iload_n 3, 1, 56), (56, .iload 4, 2, 58), (58, .invokevirtual 227, 3, 61), (61, .aload_n 0, 1, 62), (62, .getfield 29, 3, 65), (65, .invokevirtual 231, 3, 68), (68, .istore 5, 2, 70), (70, .iload_n 1, 1, 71), (71, .iconst (-1), 1, 72), (72, .if_icmp .eq 9, 3, 75), (75, .iload 5, 2, 77), (77, .iload_n 2, 1, 78), (78, .if_icmp .ge 14, 3, 81), (81, .bipush 100, 2, 83), (83, .iload_n 3, 1, 84), (84, .imul, 1, 85), (85, .iload 4, 2, 87), (87, .iadd, 1, 88), (88, .istore_n 1, 1, 89), (89, .iload 5, 2, 91), (91, .istore_n 2, 1, 92), (92, .iinc 4 1, 3, 95), (95, .goto (-73), 3, 98), (98, .iinc 3 1, 3, 101), (101, .goto (-95), 3, 104), (104, .iload_n 1, 1, 105), (105, .iconst (-1), 1, 106), (106, .if_icmp .ne 12, 3, 109), (109, .aload_n 0, 1, 110), (110, .bipush (-5), 2, 112), (112, .invokevirtual 61, 3, 115), (115, .goto 4, 3, 118), (118, .iload_n 1, 1, 119), (119, .ireturn, 1, 120)]
theorem dk_X5_leastHarm : decOK cX5_leastHarm dl_X5_leastHarm = true := by decide +kernel
def dl_X5_cheapest : List DRow := [(0, .aload_n 0, 1, 1), (1, .getfield 10, 3, 4), (4, .iload_n 1, 1, 5), (5, .iload_n 2, 1, 6), (6, .invokevirtual 154, 3, 9), (9, .ifCond .ne 9, 3, 12), (12, .aload_n 0, 1, 13), (13, .iconst (-1), 1, 14), (14, .invokevirtual 164, 3, 17), (17, .ireturn, 1, 18), (18, .iload 4, 2, 20), (20, .ifCond .lt 9, 3, 23), (23, .iload 4, 2, 25), (25, .iconst 2, 1, 26), (26, .if_icmp .le 10, 3, 29), (29, .aload_n 0, 1, 30), (30, .bipush (-5), 2, 32), (32, .invokevirtual 164, 3, 35), (35, .ireturn, 1, 36), (36, .iload_n 1, 1, 37), (37, .iload_n 2, 1, 38), (38, .if_icmp .eq 15, 3, 41), (41, .iload_n 3, 1, 42), (42, .iconst 1, 1, 43), (43, .if_icmp .lt 10, 3, 46), (46, .iload_n 3, 1, 47), (47, .sipush 9999, 3, 50), (50, .if_icmp .le 10, 3, 53), (53, .aload_n 0, 1, 54), (54, .bipush (-6), 2, 56), (56, .invokevirtual 164, 3, 59), (59, .ireturn, 1, 60), (60, .aload_n 0, 1, 61), (61, .getfield 25, 3, 64), (64, .aload_n 0, 1, 65), (65, .getfield 10, 3, 68), (68, .invokevirtual 195, 3, 71), (71, .aload_n 0, 1, 72), (72, .getfield 25, 3, 75), (75, .iload_n 1, 1, 76), (76, .iload_n 2, 1, 77), (77, .invokevirtual 234, 3, 80), (80, .iload_n 3, 1, 81), (81, .if_icmp .gt 14, 3, 84), (84, .iload 4, 2, 86), (86, .ifCond .ne 7, 3, 89), (89, .iconst 0, 1, 90), (90, .goto 4, 3, 93), (93, .iconst (-1), 1, 94), (94, .ireturn, 1, 95), (95, .aload_n 0, 1, 96), (96, .iload_n 1, 1, 97), (97, .iload_n 2, 1, 98), (98, .iload_n 3, 1, 99), (99, .iload 4, 2, 101), (101, .invokevirtual 237, 3, 104), (104, .ireturn, 1, 105)]
theorem dk_X5_cheapest : decOK cX5_cheapest dl_X5_cheapest = true := by decide +kernel
def dl_X5_cheapestPinch : List DRow := [(0, .iconst (-1), 1, 1), (1, .istore 5, 2, 3), (3, .iconst (-1), 1, 4), (4, .istore 6, 2, 6), (6, .iconst (-1), 1, 7), (7, .istore 7, 2, 9), (9, .iconst 0, 1, 10), (10, .istore 8, 2, 12), (12, .iload 8, 2, 14), (14, .aload_n 0, 1, 15), (15, .getfield 10, 3, 18), (18, .getfield 211, 3, 21), (21, .if_icmp .ge 132, 3, 24), (24, .iload 8, 2, 26), (26, .iconst 1, 1, 27), (27, .iadd, 1, 28), (28, .istore 9, 2, 30), (30, .iload 9, 2, 32), (32, .aload_n 0, 1, 33), (33, .getfield 10, 3, 36), (36, .getfield 211, 3, 39), (39, .if_icmp .ge 108, 3, 42), (42, .aload_n 0, 1, 43), (43, .getfield 10, 3, 46), (46, .iload 8, 2, 48), (48, .iload 9, 2, 50), (50, .invokevirtual 157, 3, 53), (53, .istore 10, 2, 55), (55, .iload 10, 2, 57), (57, .aload_n 0, 1, 58), (58, .getfield 25, 3, 61), (61, .iload_n 1, 1, 62), (62, .iload_n 2, 1, 63), (63, .iload 8, 2, 65), (65, .iload 9, 2, 67), (67, .invokevirtual 241, 3, 70), (70, .iadd, 1, 71), (71, .iload_n 3, 1, 72), (72, .isub, 1, 73), (73, .istore 11, 2, 75), (75, .iload 11, 2, 77), (77, .iconst 1, 1, 78), (78, .if_icmp .lt 63, 3, 81), (81, .iload 11, 2, 83), (83, .iload 10, 2, 85), (85, .if_icmp .ge 56, 3, 88), (88, .iload 5, 2, 90), (90, .iconst (-1), 1, 91), (91, .if_icmp .eq 21, 3, 94), (94, .aload_n 0, 1, 95), (95, .getfield 10, 3, 98), (98, .iload 8, 2, 100), (100, .iload 9, 2, 102), (102, .iload 11, 2, 104), (104, .invokevirtual 185, 3, 107), (107, .iload 5, 2, 109), (109, .if_icmp .ge 32, 3, 112), (112, .aload_n 0, 1, 113), (113, .getfield 10, 3, 116), (116, .iload 8, 2, 118), (118, .iload 9, 2, 120), (120, .iload 11, 2, 122), (122, .invokevirtual 185, 3, 125), (125, .istore 5, 2, 127), (127, .bipush 100, 2, 129), (129, .iload 8, 2, 131), (131, .imul, 1, 132), (132, .iload 9, 2, 134), (134, .iadd, 1, 135), (135, .istore 6, 2, 137), (137, .iload 11, 2, 139), (139, .istore 7, 2, 141), (141, .iinc 9 1, 3, 144), (144, .goto (-114), 3, 147), (147, .iinc 8 1, 3, 150), (150, .goto (-138), 3, 153), (153, .iload 4, 2, 155), (155, .lookupswitch 31 #[(0, 25), (1, 28)], 25, 180), (180, .iload 5, 2, 182), (182, .ireturn, 1, 183), (183, .iload 6, 2, 185), (185, .ireturn, 1, 186), (186, .iload 7, 2, 188), (188, .ireturn, 1, 189)]
theorem dk_X5_cheapestPinch : decOK cX5_cheapestPinch dl_X5_cheapestPinch = true := by decide +kernel
def dl_X5_meet : List DRow := [(0, .aload_n 0, 1, 1), (1, .getfield 10, 3, 4), (4, .iload_n 1, 1, 5), (5, .iload_n 2, 1, 6), (6, .invokevirtual 154, 3, 9), (9, .ifCond .ne 9, 3, 12), (12, .aload_n 0, 1, 13), (13, .iconst (-1), 1, 14), (14, .invokevirtual 164, 3, 17), (17, .ireturn, 1, 18), (18, .aload_n 0, 1, 19), (19, .getfield 25, 3, 22), (22, .aload_n 0, 1, 23), (23, .getfield 10, 3, 26), (26, .invokevirtual 195, 3, 29), (29, .iconst (-1), 1, 30), (30, .istore_n 3, 1, 31), (31, .sipush 10000, 3, 34), (34, .istore 4, 2, 36), (36, .iconst 0, 1, 37), (37, .istore 5, 2, 39), (39, .iload 5, 2, 41), (41, .aload_n 0, 1, 42), (42, .getfield 10, 3, 45), (45, .getfield 211, 3, 48), (48, .if_icmp .ge 48, 3, 51), (51, .aload_n 0, 1, 52), (52, .getfield 25, 3, 55), (55, .iload_n 1, 1, 56), (56, .iload 5, 2, 58), (58, .invokevirtual 234, 3, 61), (61, .aload_n 0, 1, 62), (62, .getfield 25, 3, 65), (65, .iload_n 2, 1, 66), (66, .iload 5, 2, 68), (68, .invokevirtual 234, 3, 71), (71, .invokestatic 244, 3, 74), (74, .istore 6, 2, 76), (76, .iload 6, 2, 78), (78, .iload 4, 2, 80), (80, .if_icmp .ge 10, 3, 83), (83, .iload 5, 2, 85), (85, .istore_n 3, 1, 86), (86, .iload 6, 2, 88), (88, .istore 4, 2, 90), (90, .iinc 5 1, 3, 93), (93, .goto (-54), 3, 96), (96, .iload_n 3, 1, 97), (97, .ireturn, 1, 98)]
theorem dk_X5_meet : decOK cX5_meet dl_X5_meet = true := by decide +kernel
def dl_X5_journey : List DRow := [(0, .aload_n 0, 1, 1), (1, .iload_n 3, 1, 2), (2, .invokevirtual 57, 3, 5), (5, .astore 5, 2, 7), (7, .aload_n 0, 1, 8), (8, .getfield 10, 3, 11), (11, .iload_n 1, 1, 12), (12, .iload_n 2, 1, 13), (13, .invokevirtual 154, 3, 16), (16, .ifCond .eq 11, 3, 19), (19, .aload 5, 2, 21), (21, .invokestatic 69, 3, 24), (24, .goto 4, 3, 27), (27, .iconst (-1), 1, 28), (28, .istore 6, 2, 30), (30, .iload 6, 2, 32), (32, .ifCond .ne 15, 3, 35), (35, .aload 5, 2, 37), (37, .iload 4, 2, 39), (39, .iconst 4, 1, 40), (40, .bipush 10, 2, 42), (42, .invokestatic 249, 3, 45), (45, .istore 6, 2, 47), (47, .iload 6, 2, 49), (49, .ifCond .ne 18, 3, 52), (52, .aload_n 0, 1, 53), (53, .aload 5, 2, 55), (55, .iload 4, 2, 57), (57, .invokevirtual 253, 3, 60), (60, .ifCond .ne 7, 3, 63), (63, .bipush (-6), 2, 65), (65, .istore 6, 2, 67), (67, .iload 6, 2, 69), (69, .ifCond .ne 16, 3, 72), (72, .aload_n 0, 1, 73), (73, .iload_n 1, 1, 74), (74, .iload_n 2, 1, 75), (75, .aload 5, 2, 77), (77, .iload 4, 2, 79), (79, .invokevirtual 257, 3, 82), (82, .goto 9, 3, 85), (85, .aload_n 0, 1, 86), (86, .iload 6, 2, 88), (88, .invokevirtual 164, 3, 91), (91, .ireturn, 1, 92)]
theorem dk_X5_journey : decOK cX5_journey dl_X5_journey = true := by decide +kernel
def dl_X5_canBeWalkedBy : List DRow := [(0, .iconst 0, 1, 1), (1, .istore_n 3, 1, 2), (2, .iconst 0, 1, 3), (3, .istore 4, 2, 5), (5, .iload 4, 2, 7), (7, .iload_n 2, 1, 8), (8, .if_icmp .ge 73, 3, 11), (11, .aload_n 1, 1, 12), (12, .iconst 4, 1, 13), (13, .iload 4, 2, 15), (15, .imul, 1, 16), (16, .iconst 3, 1, 17), (17, .iadd, 1, 18), (18, .invokevirtual 261, 3, 21), (21, .istore 5, 2, 23), (23, .aload_n 0, 1, 24), (24, .getfield 10, 3, 27), (27, .aload_n 1, 1, 28), (28, .iconst 4, 1, 29), (29, .iload 4, 2, 31), (31, .imul, 1, 32), (32, .invokevirtual 261, 3, 35), (35, .aload_n 1, 1, 36), (36, .iconst 4, 1, 37), (37, .iload 4, 2, 39), (39, .imul, 1, 40), (40, .iconst 1, 1, 41), (41, .iadd, 1, 42), (42, .invokevirtual 261, 3, 45), (45, .invokevirtual 157, 3, 48), (48, .ifCond .eq 22, 3, 51), (51, .aload_n 1, 1, 52), (52, .iconst 4, 1, 53), (53, .iload 4, 2, 55), (55, .imul, 1, 56), (56, .iconst 2, 1, 57), (57, .iadd, 1, 58), (58, .invokevirtual 261, 3, 61), (61, .ifCond .eq 9, 3, 64), (64, .iload 5, 2, 66), (66, .iload_n 3, 1, 67), (67, .if_icmp .ge 5, 3, 70), (70, .iconst 0, 1, 71), (71, .ireturn, 1, 72), (72, .iload 5, 2, 74), (74, .istore_n 3, 1, 75), (75, .iinc 4 1, 3, 78), (78, .goto (-73), 3, 81), (81, .iconst 1, 1, 82), (82, .ireturn, 1, 83)]
theorem dk_X5_canBeWalkedBy : decOK cX5_canBeWalkedBy dl_X5_canBeWalkedBy = true := by decide +kernel
def dl_X5_walk : List DRow := [(0, .aload_n 0, 1, 1), (1, .getfield 16, 3, 4), (4, .aload_n 0, 1, 5), (5, .getfield 10, 3, 8), (8, .invokevirtual 174, 3, 11), (11, .aload_n 0, 1, 12), (12, .getfield 29, 3, 15), (15, .aload_n 0, 1, 16), (16, .getfield 16, 3, 19), (19, .invokevirtual 195, 3, 22), (22, .iload_n 1, 1, 23), (23, .istore 5, 2, 25), (25, .iconst 0, 1, 26), (26, .istore 6, 2, 28), (28, .iconst 0, 1, 29), (29, .istore 7, 2, 31), (31, .iconst 0, 1, 32), (32, .istore 8, 2, 34), (34, .iload 8, 2, 36), (36, .sipush 9999, 3, 39), (39, .if_icmp .gt 162, 3, 42), (42, .iload 5, 2, 44), (44, .iload_n 2, 1, 45), (45, .if_icmp .eq 156, 3, 48), (48, .iload 7, 2, 50), (50, .istore 9, 2, 52), (52, .iload 7, 2, 54), (54, .iload 4, 2, 56), (56, .if_icmp .ge 59, 3, 59), (59, .aload_n 3, 1, 60), (60, .iconst 4, 1, 61), (61, .iload 7, 2, 63), (63, .imul, 1, 64), (64, .iconst 3, 1, 65), (65, .iadd, 1, 66), (66, .invokevirtual 261, 3, 69), (69, .iload 6, 2, 71), (71, .if_icmp .gt 44, 3, 74), (74, .aload_n 0, 1, 75), (75, .getfield 16, 3, 78), (78, .aload_n 3, 1, 79), (79, .iconst 4, 1, 80), (80, .iload 7, 2, 82), (82, .imul, 1, 83), (83, .invokevirtual 261, 3, 86), (86, .aload_n 3, 1, 87), (87, .iconst 4, 1, 88), (88, .iload 7, 2, 90), (90, .imul, 1, 91), (91, .iconst 1, 1, 92), (92, .iadd, 1, 93), (93, .invokevirtual 261, 3, 96), (96, .aload_n 3, 1, 97), (97, .iconst 4, 1, 98), (98, .iload 7, 2, 100), (100, .imul, 1, 101), (101, .iconst 2, 1, 102), (102, .iadd, 1, 103), (103, .invokevirtual 261, 3, 106), (106, .invokevirtual 264, 3, 109), (109, .iinc 7 1, 3, 112), (112, .goto (-60), 3, 115), (115, .iload 7, 2, 117), (117, .iload 9, 2, 119), (119, .if_icmp .eq 14, 3, 122), (122, .aload_n 0, 1, 123), (123, .getfield 29, 3, 126), (126, .aload_n 0, 1, 127), (127, .getfield 16, 3, 130), (130, .invokevirtual 195, 3, 133), (133, .aload_n 0, 1, 134), (134, .getfield 29, 3, 137), (137, .iload 5, 2, 139), (139, .iload_n 2, 1, 140), (140, .invokevirtual 201, 3, 143), (143, .ifCond .ne 5, 3, 146), (146, .iconst (-1), 1, 147), (147, .ireturn, 1, 148), (148, .aload_n 0, 1, 149), (149, .getfield 29, 3, 152), (152, .aload_n 0, 1, 153), (153, .getfield 16, 3, 156), (156, .iload 5, 2, 158), (158, .iload_n 2, 1, 159), (159, .invokevirtual 204, 3, 162), (162, .istore 10, 2, 164), (164, .iload 6, 2, 166), (166, .aload_n 0, 1, 167), (167, .getfield 16, 3, 170), (170, .iload 5, 2, 172), (172, .iload 10, 2, 174), (174, .invokevirtual 157, 3, 177), (177, .iadd, 1, 178), (178, .istore 6, 2, 180), (180, .iload 10, 2, 182), (182, .istore 5, 2, 184), (184, .iload 6, 2, 186), (186, .sipush 9999, 3, 189), (189, .if_icmp .le 6, 3, 192), (192, .bipush (-2), 2, 194), (194, .ireturn, 1, 195), (195, .iinc 8 1, 3, 198), (198, .goto (-164), 3, 201), (201, .iload 6, 2, 203), (203, .ireturn, 1, 204)]
theorem dk_X5_walk : decOK cX5_walk dl_X5_walk = true := by decide +kernel
def dl_X5_judge : List DRow := [(0, .aload_n 0, 1, 1), (1, .iload_n 1, 1, 2), (2, .invokevirtual 57, 3, 5), (5, .astore_n 2, 1, 6), (6, .aload_n 0, 1, 7), (7, .aload_n 2, 1, 8), (8, .invokevirtual 267, 3, 11), (11, .istore_n 3, 1, 12), (12, .iload_n 3, 1, 13), (13, .ifCond .eq 9, 3, 16), (16, .aload_n 0, 1, 17), (17, .iload_n 3, 1, 18), (18, .invokevirtual 164, 3, 21), (21, .ireturn, 1, 22), (22, .iconst 0, 1, 23), (23, .istore 4, 2, 25), (25, .iload 4, 2, 27), (27, .aload_n 0, 1, 28), (28, .getfield 10, 3, 31), (31, .getfield 211, 3, 34), (34, .if_icmp .ge 60, 3, 37), (37, .iload 4, 2, 39), (39, .iconst 1, 1, 40), (40, .iadd, 1, 41), (41, .istore 5, 2, 43), (43, .iload 5, 2, 45), (45, .aload_n 0, 1, 46), (46, .getfield 10, 3, 49), (49, .getfield 211, 3, 52), (52, .if_icmp .ge 36, 3, 55), (55, .aload_n 0, 1, 56), (56, .aload_n 2, 1, 57), (57, .iload 4, 2, 59), (59, .iload 5, 2, 61), (61, .invokevirtual 270, 3, 64), (64, .ifCond .eq 18, 3, 67), (67, .iload 4, 2, 69), (69, .iload 5, 2, 71), (71, .aload_n 0, 1, 72), (72, .getfield 10, 3, 75), (75, .getfield 211, 3, 78), (78, .invokestatic 274, 3, 81), (81, .ireturn, 1, 82), (82, .iinc 5 1, 3, 85), (85, .goto (-42), 3, 88), (88, .iinc 4 1, 3, 91), (91, .goto (-66), 3, 94), (94, .iconst (-1), 1, 95), (95, .ireturn, 1, 96)]
theorem dk_X5_judge : decOK cX5_judge dl_X5_judge = true := by decide +kernel
def dl_X5_isWrongInTable : List DRow := [(0, .aload_n 1, 1, 1), (1, .iload_n 2, 1, 2), (2, .iload_n 3, 1, 3), (3, .aload_n 0, 1, 4), (4, .getfield 10, 3, 7), (7, .getfield 211, 3, 10), (10, .invokestatic 274, 3, 13), (13, .invokevirtual 261, 3, 16), (16, .i2l, 1, 17), (17, .lstore 4, 2, 19), (19, .lload 4, 2, 21), (21, .lconst 1, 1, 22), (22, .lcmp, 1, 23), (23, .ifCond .ge 5, 3, 26), (26, .iconst 1, 1, 27), (27, .ireturn, 1, 28), (28, .iconst 0, 1, 29), (29, .istore 6, 2, 31), (31, .iload 6, 2, 33), (33, .aload_n 0, 1, 34), (34, .getfield 10, 3, 37), (37, .getfield 211, 3, 40), (40, .if_icmp .ge 70, 3, 43), (43, .iload 6, 2, 45), (45, .iload_n 2, 1, 46), (46, .if_icmp .eq 58, 3, 49), (49, .iload 6, 2, 51), (51, .iload_n 3, 1, 52), (52, .if_icmp .eq 52, 3, 55), (55, .aload_n 1, 1, 56), (56, .iload_n 2, 1, 57), (57, .iload 6, 2, 59), (59, .aload_n 0, 1, 60), (60, .getfield 10, 3, 63), (63, .getfield 211, 3, 66), (66, .invokestatic 274, 3, 69), (69, .invokevirtual 261, 3, 72), (72, .i2l, 1, 73), (73, .aload_n 1, 1, 74), (74, .iload 6, 2, 76), (76, .iload_n 3, 1, 77), (77, .aload_n 0, 1, 78), (78, .getfield 10, 3, 81), (81, .getfield 211, 3, 84), (84, .invokestatic 274, 3, 87), (87, .invokevirtual 261, 3, 90), (90, .i2l, 1, 91), (91, .ladd, 1, 92), (92, .lstore 7, 2, 94), (94, .lload 4, 2, 96), (96, .lload 7, 2, 98), (98, .lcmp, 1, 99), (99, .ifCond .le 5, 3, 102), (102, .iconst 1, 1, 103), (103, .ireturn, 1, 104), (104, .iinc 6 1, 3, 107), (107, .goto (-76), 3, 110), (110, .iconst 0, 1, 111), (111, .ireturn, 1, 112)]
theorem dk_X5_isWrongInTable : decOK cX5_isWrongInTable dl_X5_isWrongInTable = true := by decide +kernel
def dl_X5_mend : List DRow := [(0, .aload_n 0, 1, 1), (1, .iload_n 1, 1, 2), (2, .invokevirtual 57, 3, 5), (5, .astore_n 2, 1, 6), (6, .aload_n 0, 1, 7), (7, .aload_n 2, 1, 8), (8, .invokevirtual 267, 3, 11), (11, .istore_n 3, 1, 12), (12, .iload_n 3, 1, 13), (13, .ifCond .eq 9, 3, 16), (16, .aload_n 0, 1, 17), (17, .iload_n 3, 1, 18), (18, .invokevirtual 61, 3, 21), (21, .ireturn, 1, 22), (22, .iconst 0, 1, 23), (23, .istore 4, 2, 25), (25, .iconst 0, 1, 26), (26, .istore 5, 2, 28), (28, .iload 5, 2, 30), (30, .aload_n 0, 1, 31), (31, .getfield 10, 3, 34), (34, .getfield 211, 3, 37), (37, .invokestatic 277, 3, 40), (40, .if_icmp .ge 45, 3, 43), (43, .aload_n 2, 1, 44), (44, .iload 5, 2, 46), (46, .invokevirtual 261, 3, 49), (49, .istore 6, 2, 51), (51, .iload 6, 2, 53), (53, .iconst 1, 1, 54), (54, .if_icmp .lt 11, 3, 57), (57, .iload 6, 2, 59), (59, .sipush 9999, 3, 62), (62, .if_icmp .le 10, 3, 65), (65, .aload_n 0, 1, 66), (66, .bipush (-6), 2, 68), (68, .invokevirtual 61, 3, 71), (71, .ireturn, 1, 72), (72, .iload 4, 2, 74), (74, .iload 6, 2, 76), (76, .iadd, 1, 77), (77, .istore 4, 2, 79), (79, .iinc 5 1, 3, 82), (82, .goto (-54), 3, 85), (85, .aload_n 0, 1, 86), (86, .getfield 29, 3, 89), (89, .aload_n 2, 1, 90), (90, .aload_n 0, 1, 91), (91, .getfield 10, 3, 94), (94, .getfield 211, 3, 97), (97, .invokevirtual 280, 3, 100), (100, .iload 4, 2, 102), (102, .aload_n 0, 1, 103), (103, .getfield 29, 3, 106), (106, .invokevirtual 231, 3, 109), (109, .isub, 1, 110), (110, .ireturn, 1, 111)]
theorem dk_X5_mend : decOK cX5_mend dl_X5_mend = true := by decide +kernel
def dl_X5_pinches : List DRow := [(0, .aload_n 0, 1, 1), (1, .iload_n 1, 1, 2), (2, .invokevirtual 57, 3, 5), (5, .astore_n 3, 1, 6), (6, .aload_n 3, 1, 7), (7, .iload_n 2, 1, 8), (8, .invokestatic 284, 3, 11), (11, .istore 4, 2, 13), (13, .iload 4, 2, 15), (15, .ifCond .ne 12, 3, 18), (18, .aload_n 0, 1, 19), (19, .aload_n 3, 1, 20), (20, .iload_n 2, 1, 21), (21, .invokevirtual 288, 3, 24), (24, .goto 9, 3, 27), (27, .aload_n 0, 1, 28), (28, .iload 4, 2, 30), (30, .invokevirtual 164, 3, 33), (33, .ireturn, 1, 34)]
theorem dk_X5_pinches : decOK cX5_pinches dl_X5_pinches = true := by decide +kernel
def dl_X5_left : List DRow := [(0, .aload_n 0, 1, 1), (1, .iload_n 1, 1, 2), (2, .invokevirtual 57, 3, 5), (5, .astore_n 3, 1, 6), (6, .aload_n 3, 1, 7), (7, .iload_n 2, 1, 8), (8, .invokestatic 284, 3, 11), (11, .istore 4, 2, 13), (13, .iload 4, 2, 15), (15, .ifCond .ne 17, 3, 18), (18, .aload_n 0, 1, 19), (19, .aload_n 3, 1, 20), (20, .iload_n 2, 1, 21), (21, .invokevirtual 288, 3, 24), (24, .iconst (-1), 1, 25), (25, .if_icmp .eq 7, 3, 28), (28, .bipush (-6), 2, 30), (30, .istore 4, 2, 32), (32, .iload 4, 2, 34), (34, .ifCond .ne 13, 3, 37), (37, .aload_n 0, 1, 38), (38, .getfield 16, 3, 41), (41, .getfield 168, 3, 44), (44, .goto 9, 3, 47), (47, .aload_n 0, 1, 48), (48, .iload 4, 2, 50), (50, .invokevirtual 61, 3, 53), (53, .ireturn, 1, 54)]
theorem dk_X5_left : decOK cX5_left dl_X5_left = true := by decide +kernel
def dl_X5_done : List DRow := [(0, .aload_n 0, 1, 1), (1, .iload_n 1, 1, 2), (2, .invokevirtual 57, 3, 5), (5, .astore_n 3, 1, 6), (6, .aload_n 3, 1, 7), (7, .iload_n 2, 1, 8), (8, .invokestatic 284, 3, 11), (11, .istore 4, 2, 13), (13, .iload 4, 2, 15), (15, .ifCond .ne 17, 3, 18), (18, .aload_n 0, 1, 19), (19, .aload_n 3, 1, 20), (20, .iload_n 2, 1, 21), (21, .invokevirtual 288, 3, 24), (24, .iconst (-1), 1, 25), (25, .if_icmp .eq 7, 3, 28), (28, .bipush (-6), 2, 30), (30, .istore 4, 2, 32), (32, .iload 4, 2, 34), (34, .ifCond .eq 10, 3, 37), (37, .aload_n 0, 1, 38), (38, .iload 4, 2, 40), (40, .invokevirtual 61, 3, 43), (43, .ireturn, 1, 44), (44, .aload_n 0, 1, 45), (45, .getfield 10, 3, 48), (48, .aload_n 0, 1, 49), (49, .getfield 16, 3, 52), (52, .invokevirtual 174, 3, 55), (55, .aload_n 0, 1, 56), (56, .getfield 10, 3, 59), (59, .getfield 168, 3, 62), (62, .ireturn, 1, 63)]
theorem dk_X5_done : decOK cX5_done dl_X5_done = true := by decide +kernel
def dl_X5_firstWrongPinch : List DRow := [(0, .aload_n 0, 1, 1), (1, .getfield 16, 3, 4), (4, .aload_n 0, 1, 5), (5, .getfield 10, 3, 8), (8, .invokevirtual 174, 3, 11), (11, .iconst 0, 1, 12), (12, .istore_n 3, 1, 13), (13, .iload_n 3, 1, 14), (14, .iload_n 2, 1, 15), (15, .if_icmp .ge 71, 3, 18), (18, .aload_n 1, 1, 19), (19, .iconst 3, 1, 20), (20, .iload_n 3, 1, 21), (21, .imul, 1, 22), (22, .invokevirtual 261, 3, 25), (25, .istore 4, 2, 27), (27, .aload_n 1, 1, 28), (28, .iconst 3, 1, 29), (29, .iload_n 3, 1, 30), (30, .imul, 1, 31), (31, .iconst 1, 1, 32), (32, .iadd, 1, 33), (33, .invokevirtual 261, 3, 36), (36, .istore 5, 2, 38), (38, .aload_n 1, 1, 39), (39, .iconst 3, 1, 40), (40, .iload_n 3, 1, 41), (41, .imul, 1, 42), (42, .iconst 2, 1, 43), (43, .iadd, 1, 44), (44, .invokevirtual 261, 3, 47), (47, .istore 6, 2, 49), (49, .aload_n 0, 1, 50), (50, .getfield 16, 3, 53), (53, .iload 4, 2, 55), (55, .iload 5, 2, 57), (57, .iload 6, 2, 59), (59, .invokevirtual 291, 3, 62), (62, .ifCond .ne 5, 3, 65), (65, .iload_n 3, 1, 66), (66, .ireturn, 1, 67), (67, .aload_n 0, 1, 68), (68, .getfield 16, 3, 71), (71, .iload 4, 2, 73), (73, .iload 5, 2, 75), (75, .iload 6, 2, 77), (77, .invokevirtual 295, 3, 80), (80, .iinc 3 1, 3, 83), (83, .goto (-70), 3, 86), (86, .iconst (-1), 1, 87), (87, .ireturn, 1, 88)]
theorem dk_X5_firstWrongPinch : decOK cX5_firstWrongPinch dl_X5_firstWrongPinch = true := by decide +kernel
def dl_X5_theft : List DRow := [(0, .aload_n 0, 1, 1), (1, .iload_n 1, 1, 2), (2, .invokevirtual 57, 3, 5), (5, .astore_n 3, 1, 6), (6, .aload_n 0, 1, 7), (7, .aload_n 3, 1, 8), (8, .invokevirtual 267, 3, 11), (11, .istore 4, 2, 13), (13, .iload 4, 2, 15), (15, .ifCond .ne 16, 3, 18), (18, .iload_n 2, 1, 19), (19, .ifCond .lt 8, 3, 22), (22, .iload_n 2, 1, 23), (23, .iconst 1, 1, 24), (24, .if_icmp .le 7, 3, 27), (27, .bipush (-5), 2, 29), (29, .istore 4, 2, 31), (31, .iload 4, 2, 33), (33, .ifCond .eq 10, 3, 36), (36, .aload_n 0, 1, 37), (37, .iload 4, 2, 39), (39, .invokevirtual 61, 3, 42), (42, .ireturn, 1, 43), (43, .aload_n 0, 1, 44), (44, .getfield 25, 3, 47), (47, .aload_n 0, 1, 48), (48, .getfield 10, 3, 51), (51, .invokevirtual 195, 3, 54), (54, .iconst 0, 1, 55), (55, .istore 5, 2, 57), (57, .iconst (-1), 1, 58), (58, .istore 6, 2, 60), (60, .iconst 0, 1, 61), (61, .istore 7, 2, 63), (63, .iload 7, 2, 65), (65, .aload_n 0, 1, 66), (66, .getfield 10, 3, 69), (69, .getfield 211, 3, 72), (72, .if_icmp .ge 79, 3, 75), (75, .iload 7, 2, 77), (77, .iconst 1, 1, 78), (78, .iadd, 1, 79), (79, .istore 8, 2, 81), (81, .iload 8, 2, 83), (83, .aload_n 0, 1, 84), (84, .getfield 10, 3, 87), (87, .getfield 211, 3, 90), (90, .if_icmp .ge 55, 3, 93), (93, .aload_n 0, 1, 94), (94, .aload_n 3, 1, 95), (95, .iload 7, 2, 97), (97, .iload 8, 2, 99), (99, .invokevirtual 298, 3, 102), (102, .istore 9, 2, 104), (104, .iload 9, 2, 106), (106, .ifCond .eq 33, 3, 109), (109, .iload 5, 2, 111), (111, .ifCond .ne 21, 3, 114), (114, .sipush 10000, 3, 117), (117, .iload 7, 2, 119), (119, .imul, 1, 120), (120, .bipush 100, 2, 122), (122, .iload 8, 2, 124), (124, .imul, 1, 125), (125, .iadd, 1, 126), (126, .iload 9, 2, 128), (128, .iadd, 1, 129), (129, .goto 5, 3, 132), (132, .iload 6, 2, 134), (134, .istore 6, 2, 136), (136, .iinc 5 1, 3, 139), (139, .iinc 8 1, 3, 142), (142, .goto (-61), 3, 145), (145, .iinc 7 1, 3, 148), (148, .goto (-85), 3, 151), (151, .iload_n 2, 1, 152), (152, .ifCond .ne 6, 3, 155), (155, .iload 5, 2, 157), (157, .ireturn, 1, 158), (158, .iload 5, 2, 160), (160, .ifCond .ne 12, 3, 163), (163, .aload_n 0, 1, 164), (164, .bipush (-5), 2, 166), (166, .invokevirtual 61, 3, 169), (169, .goto 5, 3, 172), (172, .iload 6, 2, 174), (174, .ireturn, 1, 175)]
theorem dk_X5_theft : decOK cX5_theft dl_X5_theft = true := by decide +kernel
def dl_X5_stolenOn : List DRow := [(0, .aload_n 0, 1, 1), (1, .aload_n 1, 1, 2), (2, .iload_n 2, 1, 3), (3, .iload_n 3, 1, 4), (4, .iconst 1, 1, 5), (5, .invokevirtual 302, 3, 8), (8, .ifCond .eq 5, 3, 11), (11, .iconst 1, 1, 12), (12, .ireturn, 1, 13), (13, .aload_n 0, 1, 14), (14, .getfield 10, 3, 17), (17, .iload_n 2, 1, 18), (18, .iload_n 3, 1, 19), (19, .invokevirtual 157, 3, 22), (22, .i2l, 1, 23), (23, .aload_n 1, 1, 24), (24, .iload_n 2, 1, 25), (25, .iload_n 3, 1, 26), (26, .aload_n 0, 1, 27), (27, .getfield 10, 3, 30), (30, .getfield 211, 3, 33), (33, .invokestatic 274, 3, 36), (36, .invokevirtual 261, 3, 39), (39, .i2l, 1, 40), (40, .lsub, 1, 41), (41, .lstore 4, 2, 43), (43, .lload 4, 2, 45), (45, .lconst 1, 1, 46), (46, .lcmp, 1, 47), (47, .ifCond .lt 31, 3, 50), (50, .lload 4, 2, 52), (52, .ldc2_w 306, 3, 55), (55, .lcmp, 1, 56), (56, .ifCond .gt 22, 3, 59), (59, .aload_n 0, 1, 60), (60, .aload_n 1, 1, 61), (61, .iload_n 2, 1, 62), (62, .iload_n 3, 1, 63), (63, .lload 4, 2, 65), (65, .l2i, 1, 66), (66, .invokevirtual 302, 3, 69), (69, .ifCond .eq 9, 3, 72), (72, .lload 4, 2, 74), (74, .l2i, 1, 75), (75, .goto 4, 3, 78), (78, .iconst 0, 1, 79), (79, .ireturn, 1, 80)]
theorem dk_X5_stolenOn : decOK cX5_stolenOn dl_X5_stolenOn = true := by decide +kernel
def dl_X5_isTheft : List DRow := [(0, .aload_n 0, 1, 1), (1, .getfield 10, 3, 4), (4, .iload_n 2, 1, 5), (5, .iload_n 3, 1, 6), (6, .invokevirtual 157, 3, 9), (9, .iload 4, 2, 11), (11, .isub, 1, 12), (12, .istore 5, 2, 14), (14, .iload 5, 2, 16), (16, .iconst 1, 1, 17), (17, .if_icmp .ge 5, 3, 20), (20, .iconst 0, 1, 21), (21, .ireturn, 1, 22), (22, .iconst 0, 1, 23), (23, .istore 6, 2, 25), (25, .iload 6, 2, 27), (27, .aload_n 0, 1, 28), (28, .getfield 10, 3, 31), (31, .getfield 211, 3, 34), (34, .if_icmp .ge 106, 3, 37), (37, .iload 6, 2, 39), (39, .iconst 1, 1, 40), (40, .iadd, 1, 41), (41, .istore 7, 2, 43), (43, .iload 7, 2, 45), (45, .aload_n 0, 1, 46), (46, .getfield 10, 3, 49), (49, .getfield 211, 3, 52), (52, .if_icmp .ge 82, 3, 55), (55, .aload_n 0, 1, 56), (56, .getfield 25, 3, 59), (59, .iload 6, 2, 61), (61, .iload 7, 2, 63), (63, .invokevirtual 234, 3, 66), (66, .iload 5, 2, 68), (68, .aload_n 0, 1, 69), (69, .getfield 25, 3, 72), (72, .iload 6, 2, 74), (74, .iload 7, 2, 76), (76, .iload_n 2, 1, 77), (77, .iload_n 3, 1, 78), (78, .invokevirtual 241, 3, 81), (81, .iadd, 1, 82), (82, .invokestatic 308, 3, 85), (85, .istore 8, 2, 87), (87, .aload_n 1, 1, 88), (88, .iload 6, 2, 90), (90, .iload 7, 2, 92), (92, .aload_n 0, 1, 93), (93, .getfield 10, 3, 96), (96, .getfield 211, 3, 99), (99, .invokestatic 274, 3, 102), (102, .invokevirtual 261, 3, 105), (105, .istore 9, 2, 107), (107, .iload 9, 2, 109), (109, .iload 8, 2, 111), (111, .sipush 10000, 3, 114), (114, .if_icmp .ge 8, 3, 117), (117, .iload 8, 2, 119), (119, .goto 4, 3, 122), (122, .iconst (-1), 1, 123), (123, .if_icmp .eq 5, 3, 126), (126, .iconst 0, 1, 127), (127, .ireturn, 1, 128), (128, .iinc 7 1, 3, 131), (131, .goto (-88), 3, 134), (134, .iinc 6 1, 3, 137), (137, .goto (-112), 3, 140), (140, .iconst 1, 1, 141), (141, .ireturn, 1, 142)]
theorem dk_X5_isTheft : decOK cX5_isTheft dl_X5_isTheft = true := by decide +kernel
def dl_X5_mill : List DRow := [(0, .aload_n 0, 1, 1), (1, .iload_n 1, 1, 2), (2, .iload_n 2, 1, 3), (3, .invokevirtual 189, 3, 6), (6, .istore_n 3, 1, 7), (7, .iload_n 3, 1, 8), (8, .ifCond .eq 9, 3, 11), (11, .aload_n 0, 1, 12), (12, .iload_n 3, 1, 13), (13, .invokevirtual 61, 3, 16), (16, .ireturn, 1, 17), (17, .aload_n 0, 1, 18), (18, .getfield 10, 3, 21), (21, .iload_n 1, 1, 22), (22, .iload_n 2, 1, 23), (23, .invokevirtual 311, 3, 26), (26, .aload_n 0, 1, 27), (27, .getfield 10, 3, 30), (30, .getfield 168, 3, 33), (33, .ireturn, 1, 34)]
theorem dk_X5_mill : decOK cX5_mill dl_X5_mill = true := by decide +kernel
def dl_X5_spread : List DRow := [(0, .aload_n 0, 1, 1), (1, .getfield 10, 3, 4), (4, .iload_n 1, 1, 5), (5, .iload_n 2, 1, 6), (6, .invokevirtual 154, 3, 9), (9, .ifCond .ne 9, 3, 12), (12, .aload_n 0, 1, 13), (13, .iconst (-1), 1, 14), (14, .invokevirtual 61, 3, 17), (17, .ireturn, 1, 18), (18, .aload_n 0, 1, 19), (19, .getfield 10, 3, 22), (22, .iload_n 1, 1, 23), (23, .iload_n 2, 1, 24), (24, .iload_n 3, 1, 25), (25, .invokevirtual 291, 3, 28), (28, .ifCond .ne 10, 3, 31), (31, .aload_n 0, 1, 32), (32, .bipush (-6), 2, 34), (34, .invokevirtual 61, 3, 37), (37, .ireturn, 1, 38), (38, .aload_n 0, 1, 39), (39, .getfield 10, 3, 42), (42, .iload_n 1, 1, 43), (43, .iload_n 2, 1, 44), (44, .iload_n 3, 1, 45), (45, .invokevirtual 295, 3, 48), (48, .aload_n 0, 1, 49), (49, .getfield 10, 3, 52), (52, .iload_n 1, 1, 53), (53, .iload_n 2, 1, 54), (54, .invokevirtual 157, 3, 57), (57, .ireturn, 1, 58)]
theorem dk_X5_spread : decOK cX5_spread dl_X5_spread = true := by decide +kernel
def dl_X5_gale : List DRow := [(0, .aload_n 0, 1, 1), (1, .getfield 10, 3, 4), (4, .getfield 211, 3, 7), (7, .ifCond .ne 10, 3, 10), (10, .aload_n 0, 1, 11), (11, .bipush (-5), 2, 13), (13, .invokevirtual 61, 3, 16), (16, .ireturn, 1, 17), (17, .iload_n 1, 1, 18), (18, .iconst 1, 1, 19), (19, .if_icmp .lt 9, 3, 22), (22, .iload_n 1, 1, 23), (23, .bipush 60, 2, 25), (25, .if_icmp .le 10, 3, 28), (28, .aload_n 0, 1, 29), (29, .bipush (-6), 2, 31), (31, .invokevirtual 61, 3, 34), (34, .ireturn, 1, 35), (35, .iconst 0, 1, 36), (36, .istore_n 2, 1, 37), (37, .iconst 0, 1, 38), (38, .istore_n 3, 1, 39), (39, .iload_n 3, 1, 40), (40, .iload_n 1, 1, 41), (41, .if_icmp .ge 19, 3, 44), (44, .iload_n 2, 1, 45), (45, .aload_n 0, 1, 46), (46, .getfield 10, 3, 49), (49, .invokevirtual 314, 3, 52), (52, .iadd, 1, 53), (53, .istore_n 2, 1, 54), (54, .iinc 3 1, 3, 57), (57, .goto (-18), 3, 60), (60, .iload_n 2, 1, 61), (61, .ireturn, 1, 62)]
theorem dk_X5_gale : decOK cX5_gale dl_X5_gale = true := by decide +kernel
def dl_X5_seed : List DRow := [(0, .aload_n 0, 1, 1), (1, .getfield 10, 3, 4), (4, .getfield 317, 3, 7), (7, .istore_n 2, 1, 8), (8, .aload_n 0, 1, 9), (9, .getfield 10, 3, 12), (12, .iload_n 1, 1, 13), (13, .putfield 317, 3, 16), (16, .iload_n 2, 1, 17), (17, .ireturn, 1, 18)]
theorem dk_X5_seed : decOK cX5_seed dl_X5_seed = true := by decide +kernel
def dl_X5_act : List DRow := [(0, .aload_n 0, 1, 1), (1, .getfield 52, 3, 4), (4, .invokevirtual 320, 3, 7), (7, .aload_n 0, 1, 8), (8, .getfield 10, 3, 11), (11, .iload_n 1, 1, 12), (12, .invokevirtual 99, 3, 15), (15, .ifCond .eq 12, 3, 18), (18, .iload_n 2, 1, 19), (19, .ifCond .lt 8, 3, 22), (22, .iload_n 2, 1, 23), (23, .iconst 2, 1, 24), (24, .if_icmp .le 5, 3, 27), (27, .iconst 0, 1, 28), (28, .ireturn, 1, 29), (29, .aload_n 0, 1, 30), (30, .getfield 52, 3, 33), (33, .aload_n 0, 1, 34), (34, .getfield 10, 3, 37), (37, .getfield 145, 3, 40), (40, .iload_n 1, 1, 41), (41, .iaload, 1, 42), (42, .iload_n 1, 1, 43), (43, .aload_n 0, 1, 44), (44, .getfield 10, 3, 47), (47, .getfield 148, 3, 50), (50, .iload_n 1, 1, 51), (51, .iaload, 1, 52), (52, .iload_n 2, 1, 53), (53, .iload_n 3, 1, 54), (54, .invokevirtual 323, 3, 57), (57, .ireturn, 1, 58)]
theorem dk_X5_act : decOK cX5_act dl_X5_act = true := by decide +kernel
def dl_X5_trace : List DRow := [(0, .aload_n 0, 1, 1), (1, .getfield 52, 3, 4), (4, .iload_n 1, 1, 5), (5, .invokevirtual 327, 3, 8), (8, .ireturn, 1, 9)]
theorem dk_X5_trace : decOK cX5_trace dl_X5_trace = true := by decide +kernel
def dl_X5_image : List DRow := [(0, .aload_n 0, 1, 1), (1, .getfield 19, 3, 4), (4, .aload_n 0, 1, 5), (5, .getfield 10, 3, 8), (8, .invokevirtual 174, 3, 11), (11, .aload_n 0, 1, 12), (12, .iconst 1, 1, 13), (13, .putfield 330, 3, 16), (16, .aload_n 0, 1, 17), (17, .getfield 10, 3, 20), (20, .getfield 211, 3, 23), (23, .ireturn, 1, 24)]
theorem dk_X5_image : decOK cX5_image dl_X5_image = true := by decide +kernel
def dl_X5_restore : List DRow := [(0, .aload_n 0, 1, 1), (1, .getfield 330, 3, 4), (4, .ifCond .ne 10, 3, 7), (7, .aload_n 0, 1, 8), (8, .bipush (-6), 2, 10), (10, .invokevirtual 61, 3, 13), (13, .ireturn, 1, 14), (14, .aload_n 0, 1, 15), (15, .getfield 10, 3, 18), (18, .aload_n 0, 1, 19), (19, .getfield 19, 3, 22), (22, .invokevirtual 174, 3, 25), (25, .iconst 0, 1, 26), (26, .istore_n 1, 1, 27), (27, .iload_n 1, 1, 28), (28, .bipush 8, 2, 30), (30, .if_icmp .ge 42, 3, 33), (33, .aload_n 0, 1, 34), (34, .getfield 34, 3, 37), (37, .iload_n 1, 1, 38), (38, .aaload, 1, 39), (39, .astore_n 2, 1, 40), (40, .aload_n 2, 1, 41), (41, .invokevirtual 121, 3, 44), (44, .ifCond .eq 22, 3, 47), (47, .aload_n 0, 1, 48), (48, .getfield 10, 3, 51), (51, .aload_n 2, 1, 52), (52, .getfield 115, 3, 55), (55, .invokevirtual 99, 3, 58), (58, .ifCond .ne 8, 3, 61), (61, .aload_n 2, 1, 62), (62, .iconst (-1), 1, 63), (63, .invokevirtual 103, 3, 66), (66, .iinc 1 1, 3, 69), (69, .goto (-42), 3, 72), (72, .aload_n 0, 1, 73), (73, .getfield 10, 3, 76), (76, .getfield 211, 3, 79), (79, .ireturn, 1, 80)]
theorem dk_X5_restore : decOK cX5_restore dl_X5_restore = true := by decide +kernel
def dl_X5_status : List DRow := [(0, .iload_n 1, 1, 1), (1, .bipush 11, 2, 3), (3, .if_icmp .lt 19, 3, 6), (6, .iload_n 1, 1, 7), (7, .bipush 17, 2, 9), (9, .if_icmp .gt 13, 3, 12), (12, .aload_n 0, 1, 13), (13, .getfield 38, 3, 16), (16, .iload_n 1, 1, 17), (17, .bipush 10, 2, 19), (19, .isub, 1, 20), (20, .iaload, 1, 21), (21, .ireturn, 1, 22), (22, .iload_n 1, 1, 23), (23, .tableswitch 97 0 6 #[41, 49, 57, 65, 73, 81, 89], 41, 64), (64, .aload_n 0, 1, 65), (65, .getfield 10, 3, 68), (68, .getfield 211, 3, 71), (71, .ireturn, 1, 72), (72, .aload_n 0, 1, 73), (73, .getfield 10, 3, 76), (76, .invokevirtual 334, 3, 79), (79, .ireturn, 1, 80), (80, .aload_n 0, 1, 81), (81, .getfield 10, 3, 84), (84, .invokevirtual 337, 3, 87), (87, .ireturn, 1, 88), (88, .aload_n 0, 1, 89), (89, .getfield 10, 3, 92), (92, .getfield 168, 3, 95), (95, .ireturn, 1, 96), (96, .aload_n 0, 1, 97), (97, .getfield 10, 3, 100), (100, .getfield 171, 3, 103), (103, .ireturn, 1, 104), (104, .aload_n 0, 1, 105), (105, .getfield 10, 3, 108), (108, .getfield 317, 3, 111), (111, .ireturn, 1, 112), (112, .aload_n 0, 1, 113), (113, .getfield 52, 3, 116), (116, .getfield 340, 3, 119), (119, .ireturn, 1, 120), (120, .iconst (-1), 1, 121), (121, .ireturn, 1, 122)]
theorem dk_X5_status : decOK cX5_status dl_X5_status = true := by decide +kernel
def dl_X5_refuse : List DRow := [(0, .iload_n 1, 1, 1), (1, .bipush (-7), 2, 3), (3, .if_icmp .lt 19, 3, 6), (6, .iload_n 1, 1, 7), (7, .iconst (-1), 1, 8), (8, .if_icmp .gt 14, 3, 11), (11, .aload_n 0, 1, 12), (12, .getfield 38, 3, 15), (15, .iload_n 1, 1, 16), (16, .ineg, 1, 17), (17, .dup2, 1, 18), (18, .iaload, 1, 19), (19, .iconst 1, 1, 20), (20, .iadd, 1, 21), (21, .iastore, 1, 22), (22, .iload_n 1, 1, 23), (23, .ireturn, 1, 24)]
theorem dk_X5_refuse : decOK cX5_refuse dl_X5_refuse = true := by decide +kernel
def dl_X5_refuseBelowTen : List DRow := [(0, .aload_n 0, 1, 1), (1, .iload_n 1, 1, 2), (2, .invokevirtual 61, 3, 5), (5, .bipush 10, 2, 7), (7, .isub, 1, 8), (8, .ireturn, 1, 9)]
theorem dk_X5_refuseBelowTen : decOK cX5_refuseBelowTen dl_X5_refuseBelowTen = true := by decide +kernel
def dl_X5_shelfAt : List DRow := [(0, .iload_n 1, 1, 1), (1, .ifCond .lt 18, 3, 4), (4, .iload_n 1, 1, 5), (5, .bipush 8, 2, 7), (7, .if_icmp .ge 12, 3, 10), (10, .aload_n 0, 1, 11), (11, .getfield 34, 3, 14), (14, .iload_n 1, 1, 15), (15, .aaload, 1, 16), (16, .goto 4, 3, 19), (19, .aconst_null, 1, 20), (20, .areturn, 1, 21)]
theorem dk_X5_shelfAt : decOK cX5_shelfAt dl_X5_shelfAt = true := by decide +kernel
def dl_X5_rowProblem : List DRow := [(0, .aload_n 0, 1, 1), (1, .ifnonnull 5, 3, 4), (4, .iconst (-1), 1, 5), (5, .ireturn, 1, 6), (6, .aload_n 0, 1, 7), (7, .invokevirtual 121, 3, 10), (10, .ifCond .eq 6, 3, 13), (13, .bipush (-2), 2, 15), (15, .ireturn, 1, 16), (16, .aload_n 0, 1, 17), (17, .invokevirtual 107, 3, 20), (20, .ifCond .eq 7, 3, 23), (23, .iconst 0, 1, 24), (24, .goto 5, 3, 27), (27, .bipush (-3), 2, 29), (29, .ireturn, 1, 30)]
theorem dk_X5_rowProblem : decOK cX5_rowProblem dl_X5_rowProblem = true := by decide +kernel
def dl_X5_rowsProblem : List DRow := [(0, .aload_n 0, 1, 1), (1, .ifnull 7, 3, 4), (4, .aload_n 1, 1, 5), (5, .ifnonnull 5, 3, 8), (8, .iconst (-1), 1, 9), (9, .ireturn, 1, 10), (10, .aload_n 0, 1, 11), (11, .invokevirtual 121, 3, 14), (14, .ifCond .ne 10, 3, 17), (17, .aload_n 1, 1, 18), (18, .invokevirtual 121, 3, 21), (21, .ifCond .eq 6, 3, 24), (24, .bipush (-2), 2, 26), (26, .ireturn, 1, 27), (27, .aload_n 0, 1, 28), (28, .invokevirtual 107, 3, 31), (31, .ifCond .eq 10, 3, 34), (34, .aload_n 1, 1, 35), (35, .invokevirtual 107, 3, 38), (38, .ifCond .ne 6, 3, 41), (41, .bipush (-3), 2, 43), (43, .ireturn, 1, 44), (44, .aload_n 0, 1, 45), (45, .getfield 111, 3, 48), (48, .aload_n 1, 1, 49), (49, .getfield 111, 3, 52), (52, .if_icmp .ne 7, 3, 55), (55, .iconst 0, 1, 56), (56, .goto 5, 3, 59), (59, .bipush (-2), 2, 61), (61, .ireturn, 1, 62)]
theorem dk_X5_rowsProblem : decOK cX5_rowsProblem dl_X5_rowsProblem = true := by decide +kernel
def dl_X5_roadProblem : List DRow := [(0, .aload_n 0, 1, 1), (1, .getfield 10, 3, 4), (4, .iload_n 1, 1, 5), (5, .iload_n 2, 1, 6), (6, .invokevirtual 154, 3, 9), (9, .ifCond .ne 5, 3, 12), (12, .iconst (-1), 1, 13), (13, .ireturn, 1, 14), (14, .aload_n 0, 1, 15), (15, .getfield 10, 3, 18), (18, .iload_n 1, 1, 19), (19, .iload_n 2, 1, 20), (20, .invokevirtual 157, 3, 23), (23, .ifCond .ne 8, 3, 26), (26, .bipush (-6), 2, 28), (28, .goto 4, 3, 31), (31, .iconst 0, 1, 32), (32, .ireturn, 1, 33)]
theorem dk_X5_roadProblem : decOK cX5_roadProblem dl_X5_roadProblem = true := by decide +kernel
def dl_X5_tableProblem : List DRow := [(0, .aload_n 1, 1, 1), (1, .invokestatic 69, 3, 4), (4, .istore_n 2, 1, 5), (5, .iload_n 2, 1, 6), (6, .ifCond .ne 25, 3, 9), (9, .aload_n 1, 1, 10), (10, .getfield 343, 3, 13), (13, .aload_n 0, 1, 14), (14, .getfield 10, 3, 17), (17, .getfield 211, 3, 20), (20, .invokestatic 277, 3, 23), (23, .if_icmp .ge 8, 3, 26), (26, .bipush (-5), 2, 28), (28, .goto 4, 3, 31), (31, .iload_n 2, 1, 32), (32, .ireturn, 1, 33)]
theorem dk_X5_tableProblem : decOK cX5_tableProblem dl_X5_tableProblem = true := by decide +kernel
def dl_X5_pinchesProblem : List DRow := [(0, .aload_n 0, 1, 1), (1, .invokestatic 69, 3, 4), (4, .istore_n 2, 1, 5), (5, .iload_n 2, 1, 6), (6, .ifCond .ne 14, 3, 9), (9, .aload_n 0, 1, 10), (10, .iload_n 1, 1, 11), (11, .iconst 3, 1, 12), (12, .bipush 20, 2, 14), (14, .invokestatic 249, 3, 17), (17, .goto 4, 3, 20), (20, .iload_n 2, 1, 21), (21, .ireturn, 1, 22)]
theorem dk_X5_pinchesProblem : decOK cX5_pinchesProblem dl_X5_pinchesProblem = true := by decide +kernel
def dl_X5_toldProblem : List DRow := [(0, .iload_n 1, 1, 1), (1, .ifCond .ge 6, 3, 4), (4, .bipush (-4), 2, 6), (6, .ireturn, 1, 7), (7, .iload_n 1, 1, 8), (8, .i2l, 1, 9), (9, .iload_n 2, 1, 10), (10, .i2l, 1, 11), (11, .lmul, 1, 12), (12, .aload_n 0, 1, 13), (13, .getfield 343, 3, 16), (16, .i2l, 1, 17), (17, .lcmp, 1, 18), (18, .ifCond .le 6, 3, 21), (21, .bipush (-5), 2, 23), (23, .ireturn, 1, 24), (24, .iload_n 1, 1, 25), (25, .iload_n 3, 1, 26), (26, .if_icmp .le 8, 3, 29), (29, .bipush (-6), 2, 31), (31, .goto 4, 3, 34), (34, .iconst 0, 1, 35), (35, .ireturn, 1, 36)]
theorem dk_X5_toldProblem : decOK cX5_toldProblem dl_X5_toldProblem = true := by decide +kernel
def dl_X5_isKind : List DRow := [(0, .iload_n 0, 1, 1), (1, .ifCond .lt 13, 3, 4), (4, .iload_n 0, 1, 5), (5, .bipush 6, 2, 7), (7, .if_icmp .gt 7, 3, 10), (10, .iconst 1, 1, 11), (11, .goto 4, 3, 14), (14, .iconst 0, 1, 15), (15, .ireturn, 1, 16)]
theorem dk_X5_isKind : decOK cX5_isKind dl_X5_isKind = true := by decide +kernel
def dl_X5_kindAbove : List DRow := [(0, .iload_n 0, 1, 1), (1, .invokestatic 118, 3, 4), (4, .ifCond .eq 11, 3, 7), (7, .getstatic 346, 3, 10), (10, .iload_n 0, 1, 11), (11, .iaload, 1, 12), (12, .goto 4, 3, 15), (15, .iconst (-1), 1, 16), (16, .ireturn, 1, 17)]
theorem dk_X5_kindAbove : decOK cX5_kindAbove dl_X5_kindAbove = true := by decide +kernel
def dl_X5_pairsOf : List DRow := [(0, .iload_n 0, 1, 1), (1, .iload_n 0, 1, 2), (2, .iconst 1, 1, 3), (3, .isub, 1, 4), (4, .imul, 1, 5), (5, .iconst 2, 1, 6), (6, .idiv, 1, 7), (7, .ireturn, 1, 8)]
theorem dk_X5_pairsOf : decOK cX5_pairsOf dl_X5_pairsOf = true := by decide +kernel
def dl_X5_pairOf : List DRow := [(0, .iload_n 0, 1, 1), (1, .iload_n 1, 1, 2), (2, .invokestatic 308, 3, 5), (5, .istore_n 3, 1, 6), (6, .iload_n 0, 1, 7), (7, .iload_n 1, 1, 8), (8, .invokestatic 244, 3, 11), (11, .istore 4, 2, 13), (13, .iload_n 3, 1, 14), (14, .iload_n 2, 1, 15), (15, .imul, 1, 16), (16, .iload_n 3, 1, 17), (17, .iload_n 3, 1, 18), (18, .iconst 1, 1, 19), (19, .iadd, 1, 20), (20, .imul, 1, 21), (21, .iconst 2, 1, 22), (22, .idiv, 1, 23), (23, .isub, 1, 24), (24, .iload 4, 2, 26), (26, .iadd, 1, 27), (27, .iload_n 3, 1, 28), (28, .isub, 1, 29), (29, .iconst 1, 1, 30), (30, .isub, 1, 31), (31, .ireturn, 1, 32)]
theorem dk_X5_pairOf : decOK cX5_pairOf dl_X5_pairOf = true := by decide +kernel
def dl_X6_init : List DRow := [(0, .aload_n 0, 1, 1), (1, .invokespecial 1, 3, 4), (4, .aload_n 0, 1, 5), (5, .bipush 8, 2, 7), (7, .newarray .int, 2, 9), (9, .putfield 7, 3, 12), (12, .aload_n 0, 1, 13), (13, .bipush 8, 2, 15), (15, .newarray .int, 2, 17), (17, .putfield 13, 3, 20), (20, .aload_n 0, 1, 21), (21, .sipush 1280, 3, 24), (24, .newarray .long, 2, 26), (26, .putfield 16, 3, 29), (29, .aload_n 0, 1, 30), (30, .bipush 8, 2, 32), (32, .newarray .int, 2, 34), (34, .putfield 20, 3, 37), (37, .aload_n 0, 1, 38), (38, .bipush 8, 2, 40), (40, .newarray .int, 2, 42), (42, .putfield 23, 3, 45), (45, .aload_n 0, 1, 46), (46, .bipush 64, 2, 48), (48, .newarray .int, 2, 50), (50, .putfield 26, 3, 53), (53, .aload_n 0, 1, 54), (54, .bipush 8, 2, 56), (56, .newarray .int, 2, 58), (58, .putfield 29, 3, 61), (61, .aload_n 0, 1, 62), (62, .bipush 20, 2, 64), (64, .newarray .int, 2, 66), (66, .putfield 32, 3, 69), (69, .aload_n 0, 1, 70), (70, .bipush 84, 2, 72), (72, .newarray .int, 2, 74), (74, .putfield 35, 3, 77), (77, .aload_n 0, 1, 78), (78, .bipush 84, 2, 80), (80, .newarray .int, 2, 82), (82, .putfield 38, 3, 85), (85, .aload_n 0, 1, 86), (86, .iconst 3, 1, 87), (87, .newarray .int, 2, 89), (89, .putfield 41, 3, 92), (92, .aload_n 0, 1, 93), (93, .bipush 64, 2, 95), (95, .newarray .int, 2, 97), (97, .putfield 44, 3, 100), (100, .aload_n 0, 1, 101), (101, .bipush 64, 2, 103), (103, .newarray .int, 2, 105), (105, .putfield 47, 3, 108), (108, .iconst 0, 1, 109), (109, .istore_n 1, 1, 110), (110, .iload_n 1, 1, 111), (111, .bipush 8, 2, 113), (113, .if_icmp .ge 16, 3, 116), (116, .aload_n 0, 1, 117), (117, .getfield 7, 3, 120), (120, .iload_n 1, 1, 121), (121, .iconst (-1), 1, 122), (122, .iastore, 1, 123), (123, .iinc 1 1, 3, 126), (126, .goto (-16), 3, 129), (129, .aload_n 0, 1, 130), (130, .iconst 1, 1, 131), (131, .putfield 50, 3, 134), (134, .aload_n 0, 1, 135), (135, .iconst (-1), 1, 136), (136, .putfield 54, 3, 139), (139, .return_, 1, 140)]
theorem dk_X6_init : decOK cX6_init dl_X6_init = true := by decide +kernel
def dl_X6_no : List DRow := [(0, .aload_n 0, 1, 1), (1, .getfield 29, 3, 4), (4, .iload_n 1, 1, 5), (5, .ineg, 1, 6), (6, .dup2, 1, 7), (7, .iaload, 1, 8), (8, .iconst 1, 1, 9), (9, .iadd, 1, 10), (10, .iastore, 1, 11), (11, .iload_n 1, 1, 12), (12, .ireturn, 1, 13)]
theorem dk_X6_no : decOK cX6_no dl_X6_no = true := by decide +kernel
def dl_X6_no10 : List DRow := [(0, .aload_n 0, 1, 1), (1, .getfield 29, 3, 4), (4, .iload_n 1, 1, 5), (5, .ineg, 1, 6), (6, .dup2, 1, 7), (7, .iaload, 1, 8), (8, .iconst 1, 1, 9), (9, .iadd, 1, 10), (10, .iastore, 1, 11), (11, .iload_n 1, 1, 12), (12, .bipush 10, 2, 14), (14, .isub, 1, 15), (15, .ireturn, 1, 16)]
theorem dk_X6_no10 : decOK cX6_no10 dl_X6_no10 = true := by decide +kernel
def dl_X6_within : List DRow := [(0, .iload_n 0, 1, 1), (1, .iload_n 1, 1, 2), (2, .if_icmp .lt 12, 3, 5), (5, .iload_n 0, 1, 6), (6, .iload_n 2, 1, 7), (7, .if_icmp .gt 7, 3, 10), (10, .iconst 1, 1, 11), (11, .goto 4, 3, 14), (14, .iconst 0, 1, 15), (15, .ireturn, 1, 16)]
theorem dk_X6_within : decOK cX6_within dl_X6_within = true := by decide +kernel
def dl_X6_has : List DRow := [(0, .iload_n 0, 1, 1), (1, .iload_n 1, 1, 2), (2, .ishr, 1, 3), (3, .iconst 1, 1, 4), (4, .iand, 1, 5), (5, .iconst 1, 1, 6), (6, .if_icmp .ne 7, 3, 9), (9, .iconst 1, 1, 10), (10, .goto 4, 3, 13), (13, .iconst 0, 1, 14), (14, .ireturn, 1, 15)]
theorem dk_X6_has : decOK cX6_has dl_X6_has = true := by decide +kernel
def dl_X6_isPlace : List DRow := [(0, .iload_n 1, 1, 1), (1, .iconst 0, 1, 2), (2, .aload_n 0, 1, 3), (3, .getfield 57, 3, 6), (6, .iconst 1, 1, 7), (7, .isub, 1, 8), (8, .invokestatic 60, 3, 11), (11, .ireturn, 1, 12)]
theorem dk_X6_isPlace : decOK cX6_isPlace dl_X6_isPlace = true := by decide +kernel
def dl_X6_isRow : List DRow := [(0, .aload_n 0, 1, 1), (1, .getfield 7, 3, 4), (4, .iload_n 1, 1, 5), (5, .iaload, 1, 6), (6, .bipush 100, 2, 8), (8, .if_icmp .lt 7, 3, 11), (11, .iconst 1, 1, 12), (12, .goto 4, 3, 15), (15, .iconst 0, 1, 16), (16, .ireturn, 1, 17)]
theorem dk_X6_isRow : decOK cX6_isRow dl_X6_isRow = true := by decide +kernel
def dl_X6_row : List DRow := [(0, .iload_n 1, 1, 1), (1, .iconst 0, 1, 2), (2, .bipush 7, 2, 4), (4, .invokestatic 60, 3, 7), (7, .ifCond .ne 9, 3, 10), (10, .aload_n 0, 1, 11), (11, .iconst (-1), 1, 12), (12, .invokevirtual 64, 3, 15), (15, .ireturn, 1, 16), (16, .iload_n 3, 1, 17), (17, .ifCond .ge 10, 3, 20), (20, .aload_n 0, 1, 21), (21, .bipush (-4), 2, 23), (23, .invokevirtual 64, 3, 26), (26, .ireturn, 1, 27), (27, .iload_n 2, 1, 28), (28, .iconst 0, 1, 29), (29, .iconst 3, 1, 30), (30, .invokestatic 60, 3, 33), (33, .ifCond .ne 10, 3, 36), (36, .aload_n 0, 1, 37), (37, .bipush (-6), 2, 39), (39, .invokevirtual 64, 3, 42), (42, .ireturn, 1, 43), (43, .iload_n 3, 1, 44), (44, .sipush 160, 3, 47), (47, .if_icmp .le 10, 3, 50), (50, .aload_n 0, 1, 51), (51, .bipush (-7), 2, 53), (53, .invokevirtual 64, 3, 56), (56, .ireturn, 1, 57), (57, .aload_n 0, 1, 58), (58, .getfield 7, 3, 61), (61, .iload_n 1, 1, 62), (62, .bipush 100, 2, 64), (64, .iload_n 2, 1, 65), (65, .iadd, 1, 66), (66, .iastore, 1, 67), (67, .aload_n 0, 1, 68), (68, .getfield 13, 3, 71), (71, .iload_n 1, 1, 72), (72, .iload_n 3, 1, 73), (73, .iastore, 1, 74), (74, .iconst 0, 1, 75), (75, .istore 4, 2, 77), (77, .iload 4, 2, 79), (79, .sipush 160, 3, 82), (82, .if_icmp .ge 23, 3, 85), (85, .aload_n 0, 1, 86), (86, .getfield 16, 3, 89), (89, .sipush 160, 3, 92), (92, .iload_n 1, 1, 93), (93, .imul, 1, 94), (94, .iload 4, 2, 96), (96, .iadd, 1, 97), (97, .lconst 0, 1, 98), (98, .lastore, 1, 99), (99, .iinc 4 1, 3, 102), (102, .goto (-25), 3, 105), (105, .iconst 1, 1, 106), (106, .ireturn, 1, 107)]
theorem dk_X6_row : decOK cX6_row dl_X6_row = true := by decide +kernel
def dl_X6_noRow : List DRow := [(0, .iload_n 1, 1, 1), (1, .iconst 0, 1, 2), (2, .bipush 7, 2, 4), (4, .invokestatic 60, 3, 7), (7, .ifCond .ne 5, 3, 10), (10, .iconst (-1), 1, 11), (11, .ireturn, 1, 12), (12, .aload_n 0, 1, 13), (13, .getfield 7, 3, 16), (16, .iload_n 1, 1, 17), (17, .iaload, 1, 18), (18, .ifCond .lt 14, 3, 21), (21, .aload_n 0, 1, 22), (22, .iload_n 1, 1, 23), (23, .invokevirtual 68, 3, 26), (26, .ifCond .ne 6, 3, 29), (29, .bipush (-2), 2, 31), (31, .ireturn, 1, 32), (32, .aload_n 0, 1, 33), (33, .getfield 7, 3, 36), (36, .iload_n 1, 1, 37), (37, .iaload, 1, 38), (38, .ifCond .ge 8, 3, 41), (41, .bipush (-3), 2, 43), (43, .goto 4, 3, 46), (46, .iconst 0, 1, 47), (47, .ireturn, 1, 48)]
theorem dk_X6_noRow : decOK cX6_noRow dl_X6_noRow = true := by decide +kernel
def dl_X6_set : List DRow := [(0, .aload_n 0, 1, 1), (1, .iload_n 1, 1, 2), (2, .invokevirtual 72, 3, 5), (5, .istore 5, 2, 7), (7, .iload 5, 2, 9), (9, .ifCond .ge 10, 3, 12), (12, .aload_n 0, 1, 13), (13, .iload 5, 2, 15), (15, .invokevirtual 64, 3, 18), (18, .ireturn, 1, 19), (19, .iload_n 2, 1, 20), (20, .iconst 0, 1, 21), (21, .aload_n 0, 1, 22), (22, .getfield 13, 3, 25), (25, .iload_n 1, 1, 26), (26, .iaload, 1, 27), (27, .iconst 1, 1, 28), (28, .isub, 1, 29), (29, .invokestatic 60, 3, 32), (32, .ifCond .ne 10, 3, 35), (35, .aload_n 0, 1, 36), (36, .bipush (-5), 2, 38), (38, .invokevirtual 64, 3, 41), (41, .ireturn, 1, 42), (42, .aload_n 0, 1, 43), (43, .getfield 7, 3, 46), (46, .iload_n 1, 1, 47), (47, .iaload, 1, 48), (48, .bipush 100, 2, 50), (50, .isub, 1, 51), (51, .istore 6, 2, 53), (53, .aload_n 0, 1, 54), (54, .getfield 16, 3, 57), (57, .sipush 160, 3, 60), (60, .iload_n 1, 1, 61), (61, .imul, 1, 62), (62, .iload_n 2, 1, 63), (63, .iadd, 1, 64), (64, .iload 6, 2, 66), (66, .ifCond .ne 10, 3, 69), (69, .lload_n 3, 1, 70), (70, .l2i, 1, 71), (71, .i2b, 1, 72), (72, .i2l, 1, 73), (73, .goto 29, 3, 76), (76, .iload 6, 2, 78), (78, .iconst 1, 1, 79), (79, .if_icmp .ne 10, 3, 82), (82, .lload_n 3, 1, 83), (83, .l2i, 1, 84), (84, .i2s, 1, 85), (85, .i2l, 1, 86), (86, .goto 16, 3, 89), (89, .iload 6, 2, 91), (91, .iconst 2, 1, 92), (92, .if_icmp .ne 9, 3, 95), (95, .lload_n 3, 1, 96), (96, .l2i, 1, 97), (97, .i2l, 1, 98), (98, .goto 4, 3, 101), (101, .lload_n 3, 1, 102), (102, .lastore, 1, 103), (103, .iconst 1, 1, 104), (104, .ireturn, 1, 105)]
theorem dk_X6_set : decOK cX6_set dl_X6_set = true := by decide +kernel
def dl_X6_copy : List DRow := [(0, .iload_n 1, 1, 1), (1, .iconst 0, 1, 2), (2, .bipush 7, 2, 4), (4, .invokestatic 60, 3, 7), (7, .ifCond .eq 13, 3, 10), (10, .iload_n 2, 1, 11), (11, .iconst 0, 1, 12), (12, .bipush 7, 2, 14), (14, .invokestatic 60, 3, 17), (17, .ifCond .ne 9, 3, 20), (20, .aload_n 0, 1, 21), (21, .iconst (-1), 1, 22), (22, .invokevirtual 64, 3, 25), (25, .ireturn, 1, 26), (26, .aload_n 0, 1, 27), (27, .getfield 7, 3, 30), (30, .iload_n 1, 1, 31), (31, .iaload, 1, 32), (32, .ifCond .lt 11, 3, 35), (35, .aload_n 0, 1, 36), (36, .iload_n 1, 1, 37), (37, .invokevirtual 68, 3, 40), (40, .ifCond .eq 51, 3, 43), (43, .aload_n 0, 1, 44), (44, .getfield 7, 3, 47), (47, .iload_n 2, 1, 48), (48, .iaload, 1, 49), (49, .ifCond .lt 11, 3, 52), (52, .aload_n 0, 1, 53), (53, .iload_n 2, 1, 54), (54, .invokevirtual 68, 3, 57), (57, .ifCond .eq 34, 3, 60), (60, .aload_n 0, 1, 61), (61, .iload_n 1, 1, 62), (62, .invokevirtual 68, 3, 65), (65, .ifCond .eq 33, 3, 68), (68, .aload_n 0, 1, 69), (69, .iload_n 2, 1, 70), (70, .invokevirtual 68, 3, 73), (73, .ifCond .eq 25, 3, 76), (76, .aload_n 0, 1, 77), (77, .getfield 7, 3, 80), (80, .iload_n 1, 1, 81), (81, .iaload, 1, 82), (82, .aload_n 0, 1, 83), (83, .getfield 7, 3, 86), (86, .iload_n 2, 1, 87), (87, .iaload, 1, 88), (88, .if_icmp .eq 10, 3, 91), (91, .aload_n 0, 1, 92), (92, .bipush (-2), 2, 94), (94, .invokevirtual 64, 3, 97), (97, .ireturn, 1, 98), (98, .aload_n 0, 1, 99), (99, .getfield 7, 3, 102), (102, .iload_n 1, 1, 103), (103, .iaload, 1, 104), (104, .ifCond .lt 12, 3, 107), (107, .aload_n 0, 1, 108), (108, .getfield 7, 3, 111), (111, .iload_n 2, 1, 112), (112, .iaload, 1, 113), (113, .ifCond .ge 10, 3, 116), (116, .aload_n 0, 1, 117), (117, .bipush (-3), 2, 119), (119, .invokevirtual 64, 3, 122), (122, .ireturn, 1, 123), (123, .iload 5, 2, 125), (125, .ifCond .ge 10, 3, 128), (128, .aload_n 0, 1, 129), (129, .bipush (-4), 2, 131), (131, .invokevirtual 64, 3, 134), (134, .ireturn, 1, 135), (135, .iload_n 3, 1, 136), (136, .ifCond .lt 43, 3, 139), (139, .iload 4, 2, 141), (141, .ifCond .lt 38, 3, 144), (144, .iload_n 3, 1, 145), (145, .i2l, 1, 146), (146, .iload 5, 2, 148), (148, .i2l, 1, 149), (149, .ladd, 1, 150), (150, .aload_n 0, 1, 151), (151, .getfield 13, 3, 154), (154, .iload_n 1, 1, 155), (155, .iaload, 1, 156), (156, .i2l, 1, 157), (157, .lcmp, 1, 158), (158, .ifCond .gt 21, 3, 161), (161, .iload 4, 2, 163), (163, .i2l, 1, 164), (164, .iload 5, 2, 166), (166, .i2l, 1, 167), (167, .ladd, 1, 168), (168, .aload_n 0, 1, 169), (169, .getfield 13, 3, 172), (172, .iload_n 2, 1, 173), (173, .iaload, 1, 174), (174, .i2l, 1, 175), (175, .lcmp, 1, 176), (176, .ifCond .le 10, 3, 179), (179, .aload_n 0, 1, 180), (180, .bipush (-5), 2, 182), (182, .invokevirtual 64, 3, 185), (185, .ireturn, 1, 186), (186, .iload_n 1, 1, 187), (187, .iload_n 2, 1, 188), (188, .if_icmp .ne 60, 3, 191), (191, .iload_n 3, 1, 192), (192, .iload 4, 2, 194), (194, .if_icmp .ge 54, 3, 197), (197, .iload 5, 2, 199), (199, .iconst 1, 1, 200), (200, .isub, 1, 201), (201, .istore 6, 2, 203), (203, .iload 6, 2, 205), (205, .ifCond .lt 40, 3, 208), (208, .aload_n 0, 1, 209), (209, .getfield 16, 3, 212), (212, .sipush 160, 3, 215), (215, .iload_n 2, 1, 216), (216, .imul, 1, 217), (217, .iload 4, 2, 219), (219, .iadd, 1, 220), (220, .iload 6, 2, 222), (222, .iadd, 1, 223), (223, .aload_n 0, 1, 224), (224, .getfield 16, 3, 227), (227, .sipush 160, 3, 230), (230, .iload_n 1, 1, 231), (231, .imul, 1, 232), (232, .iload_n 3, 1, 233), (233, .iadd, 1, 234), (234, .iload 6, 2, 236), (236, .iadd, 1, 237), (237, .laload, 1, 238), (238, .lastore, 1, 239), (239, .iinc 6 (-1), 3, 242), (242, .goto (-39), 3, 245), (245, .goto 50, 3, 248), (248, .iconst 0, 1, 249), (249, .istore 6, 2, 251), (251, .iload 6, 2, 253), (253, .iload 5, 2, 255), (255, .if_icmp .ge 40, 3, 258), (258, .aload_n 0, 1, 259), (259, .getfield 16, 3, 262), (262, .sipush 160, 3, 265), (265, .iload_n 2, 1, 266), (266, .imul, 1, 267), (267, .iload 4, 2, 269), (269, .iadd, 1, 270), (270, .iload 6, 2, 272), (272, .iadd, 1, 273), (273, .aload_n 0, 1, 274), (274, .getfield 16, 3, 277), (277, .sipush 160, 3, 280), (280, .iload_n 1, 1, 281), (281, .imul, 1, 282), (282, .iload_n 3, 1, 283), (283, .iadd, 1, 284), (284, .iload 6, 2, 286), (286, .iadd, 1, 287), (287, .laload, 1, 288), (288, .lastore, 1, 289), (289, .iinc 6 1, 3, 292), (292, .goto (-41), 3, 295), (295, .iconst 1, 1, 296), (296, .ireturn, 1, 297)]
theorem dk_X6_copy : decOK cX6_copy dl_X6_copy = true := by decide +kernel
def dl_X6_element : List DRow := [(0, .iload_n 1, 1, 1), (1, .iconst 0, 1, 2), (2, .bipush 7, 2, 4), (4, .invokestatic 60, 3, 7), (7, .ifCond .eq 42, 3, 10), (10, .aload_n 0, 1, 11), (11, .iload_n 1, 1, 12), (12, .invokevirtual 68, 3, 15), (15, .ifCond .eq 34, 3, 18), (18, .iload_n 2, 1, 19), (19, .iconst 0, 1, 20), (20, .aload_n 0, 1, 21), (21, .getfield 13, 3, 24), (24, .iload_n 1, 1, 25), (25, .iaload, 1, 26), (26, .iconst 1, 1, 27), (27, .isub, 1, 28), (28, .invokestatic 60, 3, 31), (31, .ifCond .eq 18, 3, 34), (34, .aload_n 0, 1, 35), (35, .getfield 16, 3, 38), (38, .sipush 160, 3, 41), (41, .iload_n 1, 1, 42), (42, .imul, 1, 43), (43, .iload_n 2, 1, 44), (44, .iadd, 1, 45), (45, .laload, 1, 46), (46, .goto 4, 3, 49), (49, .lconst 0, 1, 50), (50, .lreturn, 1, 51)]
theorem dk_X6_element : decOK cX6_element dl_X6_element = true := by decide +kernel
def dl_X6_show : List DRow := [(0, .iload_n 1, 1, 1), (1, .iconst 0, 1, 2), (2, .bipush 7, 2, 4), (4, .invokestatic 60, 3, 7), (7, .ifCond .eq 16, 3, 10), (10, .iload_n 2, 1, 11), (11, .iconst (-1), 1, 12), (12, .if_icmp .eq 17, 3, 15), (15, .aload_n 0, 1, 16), (16, .iload_n 2, 1, 17), (17, .invokevirtual 75, 3, 20), (20, .ifCond .ne 9, 3, 23), (23, .aload_n 0, 1, 24), (24, .iconst (-1), 1, 25), (25, .invokevirtual 64, 3, 28), (28, .ireturn, 1, 29), (29, .aload_n 0, 1, 30), (30, .getfield 7, 3, 33), (33, .iload_n 1, 1, 34), (34, .iload_n 2, 1, 35), (35, .iastore, 1, 36), (36, .iload_n 2, 1, 37), (37, .iconst (-1), 1, 38), (38, .if_icmp .ne 7, 3, 41), (41, .iconst 0, 1, 42), (42, .goto 4, 3, 45), (45, .iconst 1, 1, 46), (46, .ireturn, 1, 47)]
theorem dk_X6_show : decOK cX6_show dl_X6_show = true := by decide +kernel
def dl_X6_holds : List DRow := [(0, .iload_n 1, 1, 1), (1, .iconst 0, 1, 2), (2, .bipush 7, 2, 4), (4, .invokestatic 60, 3, 7), (7, .ifCond .eq 12, 3, 10), (10, .aload_n 0, 1, 11), (11, .getfield 7, 3, 14), (14, .iload_n 1, 1, 15), (15, .iaload, 1, 16), (16, .goto 4, 3, 19), (19, .iconst (-1), 1, 20), (20, .ireturn, 1, 21)]
theorem dk_X6_holds : decOK cX6_holds dl_X6_holds = true := by decide +kernel
def dl_X6_above : List DRow := [(0, .iload_n 0, 1, 1), (1, .iconst 3, 1, 2), (2, .if_icmp .ne 7, 3, 5), (5, .iconst 1, 1, 6), (6, .goto 23, 3, 9), (9, .iload_n 0, 1, 10), (10, .iconst 5, 1, 11), (11, .if_icmp .ne 7, 3, 14), (14, .iconst 2, 1, 15), (15, .goto 14, 3, 18), (18, .iload_n 0, 1, 19), (19, .bipush 6, 2, 21), (21, .if_icmp .ne 7, 3, 24), (24, .iconst 4, 1, 25), (25, .goto 4, 3, 28), (28, .iconst 0, 1, 29), (29, .ireturn, 1, 30)]
theorem dk_X6_above : decOK cX6_above dl_X6_above = true := by decide +kernel
def dl_X6_isUnder : List DRow := [(0, .iload_n 0, 1, 1), (1, .istore_n 2, 1, 2), (2, .iload_n 2, 1, 3), (3, .iload_n 1, 1, 4), (4, .if_icmp .eq 15, 3, 7), (7, .iload_n 2, 1, 8), (8, .ifCond .le 11, 3, 11), (11, .iload_n 2, 1, 12), (12, .invokestatic 78, 3, 15), (15, .istore_n 2, 1, 16), (16, .goto (-14), 3, 19), (19, .iload_n 2, 1, 20), (20, .iload_n 1, 1, 21), (21, .if_icmp .ne 7, 3, 24), (24, .iconst 1, 1, 25), (25, .goto 4, 3, 28), (28, .iconst 0, 1, 29), (29, .ireturn, 1, 30)]
theorem dk_X6_isUnder : decOK cX6_isUnder dl_X6_isUnder = true := by decide +kernel
def dl_X6_says : List DRow := [(0, .iload_n 1, 1, 1), (1, .iconst 0, 1, 2), (2, .bipush 7, 2, 4), (4, .invokestatic 60, 3, 7), (7, .ifCond .eq 13, 3, 10), (10, .iload_n 2, 1, 11), (11, .iconst 0, 1, 12), (12, .bipush 6, 2, 14), (14, .invokestatic 60, 3, 17), (17, .ifCond .ne 9, 3, 20), (20, .aload_n 0, 1, 21), (21, .iconst (-1), 1, 22), (22, .invokevirtual 64, 3, 25), (25, .ireturn, 1, 26), (26, .aload_n 0, 1, 27), (27, .getfield 7, 3, 30), (30, .iload_n 1, 1, 31), (31, .iaload, 1, 32), (32, .istore_n 3, 1, 33), (33, .iload_n 3, 1, 34), (34, .ifCond .lt 31, 3, 37), (37, .aload_n 0, 1, 38), (38, .iload_n 1, 1, 39), (39, .invokevirtual 68, 3, 42), (42, .ifCond .ne 16, 3, 45), (45, .aload_n 0, 1, 46), (46, .getfield 20, 3, 49), (49, .iload_n 3, 1, 50), (50, .iaload, 1, 51), (51, .iload_n 2, 1, 52), (52, .invokestatic 81, 3, 55), (55, .ifCond .ne 10, 3, 58), (58, .aload_n 0, 1, 59), (59, .bipush (-2), 2, 61), (61, .invokevirtual 64, 3, 64), (64, .ireturn, 1, 65), (65, .iload_n 3, 1, 66), (66, .ifCond .ge 10, 3, 69), (69, .aload_n 0, 1, 70), (70, .bipush (-3), 2, 72), (72, .invokevirtual 64, 3, 75), (75, .ireturn, 1, 76), (76, .iload_n 2, 1, 77), (77, .tableswitch 63 0 5 #[39, 48, 56, 48, 63, 56], 39, 116), (116, .aload_n 0, 1, 117), (117, .iload_n 3, 1, 118), (118, .invokevirtual 85, 3, 121), (121, .invokestatic 88, 3, 124), (124, .ireturn, 1, 125), (125, .aload_n 0, 1, 126), (126, .iload_n 3, 1, 127), (127, .bipush 10, 2, 129), (129, .invokevirtual 93, 3, 132), (132, .ireturn, 1, 133), (133, .aload_n 0, 1, 134), (134, .iload_n 3, 1, 135), (135, .iconst 1, 1, 136), (136, .invokevirtual 93, 3, 139), (139, .ireturn, 1, 140), (140, .aload_n 0, 1, 141), (141, .iload_n 3, 1, 142), (142, .bipush 99, 2, 144), (144, .invokevirtual 93, 3, 147), (147, .ireturn, 1, 148)]
theorem dk_X6_says : decOK cX6_says dl_X6_says = true := by decide +kernel
def dl_X6_newPlace : List DRow := [(0, .aload_n 0, 1, 1), (1, .getfield 20, 3, 4), (4, .aload_n 0, 1, 5), (5, .getfield 57, 3, 8), (8, .iload_n 1, 1, 9), (9, .iastore, 1, 10), (10, .aload_n 0, 1, 11), (11, .getfield 23, 3, 14), (14, .aload_n 0, 1, 15), (15, .getfield 57, 3, 18), (18, .iload_n 2, 1, 19), (19, .iastore, 1, 20), (20, .iconst 0, 1, 21), (21, .istore_n 3, 1, 22), (22, .iload_n 3, 1, 23), (23, .bipush 8, 2, 25), (25, .if_icmp .ge 39, 3, 28), (28, .aload_n 0, 1, 29), (29, .getfield 26, 3, 32), (32, .bipush 8, 2, 34), (34, .aload_n 0, 1, 35), (35, .getfield 57, 3, 38), (38, .imul, 1, 39), (39, .iload_n 3, 1, 40), (40, .iadd, 1, 41), (41, .iconst 0, 1, 42), (42, .iastore, 1, 43), (43, .aload_n 0, 1, 44), (44, .getfield 26, 3, 47), (47, .bipush 8, 2, 49), (49, .iload_n 3, 1, 50), (50, .imul, 1, 51), (51, .aload_n 0, 1, 52), (52, .getfield 57, 3, 55), (55, .iadd, 1, 56), (56, .iconst 0, 1, 57), (57, .iastore, 1, 58), (58, .iinc 3 1, 3, 61), (61, .goto (-39), 3, 64), (64, .aload_n 0, 1, 65), (65, .dup, 1, 66), (66, .getfield 57, 3, 69), (69, .dup_x1, 1, 70), (70, .iconst 1, 1, 71), (71, .iadd, 1, 72), (72, .putfield 57, 3, 75), (75, .ireturn, 1, 76)]
theorem dk_X6_newPlace : decOK cX6_newPlace dl_X6_newPlace = true := by decide +kernel
def dl_X6_place : List DRow := [(0, .iload_n 1, 1, 1), (1, .iconst 0, 1, 2), (2, .bipush 6, 2, 4), (4, .invokestatic 60, 3, 7), (7, .ifCond .ne 9, 3, 10), (10, .aload_n 0, 1, 11), (11, .iconst (-1), 1, 12), (12, .invokevirtual 64, 3, 15), (15, .ireturn, 1, 16), (16, .iload_n 2, 1, 17), (17, .iconst 0, 1, 18), (18, .bipush 9, 2, 20), (20, .invokestatic 60, 3, 23), (23, .ifCond .ne 10, 3, 26), (26, .aload_n 0, 1, 27), (27, .bipush (-6), 2, 29), (29, .invokevirtual 64, 3, 32), (32, .ireturn, 1, 33), (33, .aload_n 0, 1, 34), (34, .getfield 57, 3, 37), (37, .bipush 8, 2, 39), (39, .if_icmp .ne 12, 3, 42), (42, .aload_n 0, 1, 43), (43, .bipush (-7), 2, 45), (45, .invokevirtual 64, 3, 48), (48, .goto 9, 3, 51), (51, .aload_n 0, 1, 52), (52, .iload_n 1, 1, 53), (53, .iload_n 2, 1, 54), (54, .invokevirtual 97, 3, 57), (57, .ireturn, 1, 58)]
theorem dk_X6_place : decOK cX6_place dl_X6_place = true := by decide +kernel
def dl_X6_roads : List DRow := [(0, .iconst 0, 1, 1), (1, .istore_n 2, 1, 2), (2, .iconst 0, 1, 3), (3, .istore_n 3, 1, 4), (4, .iload_n 3, 1, 5), (5, .aload_n 0, 1, 6), (6, .getfield 57, 3, 9), (9, .if_icmp .ge 29, 3, 12), (12, .aload_n 0, 1, 13), (13, .getfield 26, 3, 16), (16, .bipush 8, 2, 18), (18, .iload_n 1, 1, 19), (19, .imul, 1, 20), (20, .iload_n 3, 1, 21), (21, .iadd, 1, 22), (22, .iaload, 1, 23), (23, .ifCond .le 9, 3, 26), (26, .iload_n 2, 1, 27), (27, .iconst 1, 1, 28), (28, .iload_n 3, 1, 29), (29, .ishl, 1, 30), (30, .ior, 1, 31), (31, .istore_n 2, 1, 32), (32, .iinc 3 1, 3, 35), (35, .goto (-31), 3, 38), (38, .iload_n 2, 1, 39), (39, .ireturn, 1, 40)]
theorem dk_X6_roads : decOK cX6_roads dl_X6_roads = true := by decide +kernel
def dl_X6_placeOf : List DRow := [(0, .aload_n 0, 1, 1), (1, .iload_n 1, 1, 2), (2, .invokevirtual 75, 3, 5), (5, .ifCond .eq 12, 3, 8), (8, .iload_n 2, 1, 9), (9, .iconst 0, 1, 10), (10, .iconst 3, 1, 11), (11, .invokestatic 60, 3, 14), (14, .ifCond .ne 10, 3, 17), (17, .aload_n 0, 1, 18), (18, .bipush (-5), 2, 20), (20, .invokevirtual 64, 3, 23), (23, .ireturn, 1, 24), (24, .iconst 0, 1, 25), (25, .istore_n 3, 1, 26), (26, .iload_n 2, 1, 27), (27, .tableswitch 45 0 2 #[25, 32, 39], 25, 52), (52, .aload_n 0, 1, 53), (53, .getfield 20, 3, 56), (56, .iload_n 1, 1, 57), (57, .iaload, 1, 58), (58, .ireturn, 1, 59), (59, .aload_n 0, 1, 60), (60, .getfield 23, 3, 63), (63, .iload_n 1, 1, 64), (64, .iaload, 1, 65), (65, .ireturn, 1, 66), (66, .aload_n 0, 1, 67), (67, .iload_n 1, 1, 68), (68, .invokevirtual 85, 3, 71), (71, .ireturn, 1, 72), (72, .iconst 0, 1, 73), (73, .istore 4, 2, 75), (75, .iload 4, 2, 77), (77, .aload_n 0, 1, 78), (78, .getfield 57, 3, 81), (81, .if_icmp .ge 24, 3, 84), (84, .iload_n 3, 1, 85), (85, .aload_n 0, 1, 86), (86, .getfield 26, 3, 89), (89, .bipush 8, 2, 91), (91, .iload_n 1, 1, 92), (92, .imul, 1, 93), (93, .iload 4, 2, 95), (95, .iadd, 1, 96), (96, .iaload, 1, 97), (97, .iadd, 1, 98), (98, .istore_n 3, 1, 99), (99, .iinc 4 1, 3, 102), (102, .goto (-27), 3, 105), (105, .iload_n 3, 1, 106), (106, .ireturn, 1, 107)]
theorem dk_X6_placeOf : decOK cX6_placeOf dl_X6_placeOf = true := by decide +kernel
def dl_X6_lay : List DRow := [(0, .aload_n 0, 1, 1), (1, .getfield 26, 3, 4), (4, .bipush 8, 2, 6), (6, .iload_n 1, 1, 7), (7, .imul, 1, 8), (8, .iload_n 2, 1, 9), (9, .iadd, 1, 10), (10, .iaload, 1, 11), (11, .istore 4, 2, 13), (13, .aload_n 0, 1, 14), (14, .getfield 26, 3, 17), (17, .bipush 8, 2, 19), (19, .iload_n 1, 1, 20), (20, .imul, 1, 21), (21, .iload_n 2, 1, 22), (22, .iadd, 1, 23), (23, .iload_n 3, 1, 24), (24, .iastore, 1, 25), (25, .aload_n 0, 1, 26), (26, .getfield 26, 3, 29), (29, .bipush 8, 2, 31), (31, .iload_n 2, 1, 32), (32, .imul, 1, 33), (33, .iload_n 1, 1, 34), (34, .iadd, 1, 35), (35, .iload_n 3, 1, 36), (36, .iastore, 1, 37), (37, .iload 4, 2, 39), (39, .ireturn, 1, 40)]
theorem dk_X6_lay : decOK cX6_lay dl_X6_lay = true := by decide +kernel
def dl_X6_road : List DRow := [(0, .aload_n 0, 1, 1), (1, .iload_n 1, 1, 2), (2, .invokevirtual 75, 3, 5), (5, .ifCond .eq 11, 3, 8), (8, .aload_n 0, 1, 9), (9, .iload_n 2, 1, 10), (10, .invokevirtual 75, 3, 13), (13, .ifCond .ne 9, 3, 16), (16, .aload_n 0, 1, 17), (17, .iconst (-1), 1, 18), (18, .invokevirtual 64, 3, 21), (21, .ireturn, 1, 22), (22, .iload_n 1, 1, 23), (23, .iload_n 2, 1, 24), (24, .if_icmp .eq 14, 3, 27), (27, .iload_n 3, 1, 28), (28, .iconst 0, 1, 29), (29, .sipush 999, 3, 32), (32, .invokestatic 60, 3, 35), (35, .ifCond .ne 12, 3, 38), (38, .aload_n 0, 1, 39), (39, .bipush (-6), 2, 41), (41, .invokevirtual 64, 3, 44), (44, .goto 10, 3, 47), (47, .aload_n 0, 1, 48), (48, .iload_n 1, 1, 49), (49, .iload_n 2, 1, 50), (50, .iload_n 3, 1, 51), (51, .invokevirtual 100, 3, 54), (54, .ireturn, 1, 55)]
theorem dk_X6_road : decOK cX6_road dl_X6_road = true := by decide +kernel
def dl_X6_miles : List DRow := [(0, .aload_n 0, 1, 1), (1, .iload_n 1, 1, 2), (2, .invokevirtual 75, 3, 5), (5, .ifCond .eq 11, 3, 8), (8, .aload_n 0, 1, 9), (9, .iload_n 2, 1, 10), (10, .invokevirtual 75, 3, 13), (13, .ifCond .ne 9, 3, 16), (16, .aload_n 0, 1, 17), (17, .iconst (-1), 1, 18), (18, .invokevirtual 104, 3, 21), (21, .ireturn, 1, 22), (22, .iload_n 1, 1, 23), (23, .iload_n 2, 1, 24), (24, .if_icmp .ne 12, 3, 27), (27, .aload_n 0, 1, 28), (28, .bipush (-6), 2, 30), (30, .invokevirtual 104, 3, 33), (33, .goto 14, 3, 36), (36, .aload_n 0, 1, 37), (37, .getfield 26, 3, 40), (40, .bipush 8, 2, 42), (42, .iload_n 1, 1, 43), (43, .imul, 1, 44), (44, .iload_n 2, 1, 45), (45, .iadd, 1, 46), (46, .iaload, 1, 47), (47, .ireturn, 1, 48)]
theorem dk_X6_miles : decOK cX6_miles dl_X6_miles = true := by decide +kernel
def dl_X6_ask : List DRow := [(0, .iload_n 1, 1, 1), (1, .iconst 0, 1, 2), (2, .iconst 1, 1, 3), (3, .invokestatic 60, 3, 6), (6, .ifCond .eq 22, 3, 9), (9, .iload_n 2, 1, 10), (10, .iconst 0, 1, 11), (11, .iload_n 1, 1, 12), (12, .ifCond .ne 8, 3, 15), (15, .ldc 107, 2, 17), (17, .goto 5, 3, 20), (20, .bipush 9, 2, 22), (22, .invokestatic 60, 3, 25), (25, .ifCond .ne 10, 3, 28), (28, .aload_n 0, 1, 29), (29, .bipush (-6), 2, 31), (31, .invokevirtual 64, 3, 34), (34, .ireturn, 1, 35), (35, .iload_n 1, 1, 36), (36, .ifCond .ne 10, 3, 39), (39, .aload_n 0, 1, 40), (40, .getfield 108, 3, 43), (43, .goto 7, 3, 46), (46, .aload_n 0, 1, 47), (47, .getfield 111, 3, 50), (50, .istore_n 3, 1, 51), (51, .iload_n 1, 1, 52), (52, .ifCond .ne 11, 3, 55), (55, .aload_n 0, 1, 56), (56, .iload_n 2, 1, 57), (57, .putfield 108, 3, 60), (60, .goto 8, 3, 63), (63, .aload_n 0, 1, 64), (64, .iload_n 2, 1, 65), (65, .putfield 111, 3, 68), (68, .iload_n 3, 1, 69), (69, .ireturn, 1, 70)]
theorem dk_X6_ask : decOK cX6_ask dl_X6_ask = true := by decide +kernel
def dl_X6_sign : List DRow := [(0, .aload_n 0, 1, 1), (1, .getfield 114, 3, 4), (4, .aload_n 0, 1, 5), (5, .getfield 13, 3, 8), (8, .aload_n 0, 1, 9), (9, .getfield 117, 3, 12), (12, .iaload, 1, 13), (13, .if_icmp .ge 25, 3, 16), (16, .aload_n 0, 1, 17), (17, .getfield 16, 3, 20), (20, .sipush 160, 3, 23), (23, .aload_n 0, 1, 24), (24, .getfield 117, 3, 27), (27, .imul, 1, 28), (28, .aload_n 0, 1, 29), (29, .getfield 114, 3, 32), (32, .iadd, 1, 33), (33, .laload, 1, 34), (34, .l2i, 1, 35), (35, .goto 4, 3, 38), (38, .iconst (-1), 1, 39), (39, .ireturn, 1, 40)]
theorem dk_X6_sign : decOK cX6_sign dl_X6_sign = true := by decide +kernel
def dl_X6_is : List DRow := [(0, .aload_n 0, 1, 1), (1, .invokevirtual 120, 3, 4), (4, .iload_n 1, 1, 5), (5, .if_icmp .eq 5, 3, 8), (8, .iconst 0, 1, 9), (9, .ireturn, 1, 10), (10, .aload_n 0, 1, 11), (11, .dup, 1, 12), (12, .getfield 114, 3, 15), (15, .iconst 1, 1, 16), (16, .iadd, 1, 17), (17, .putfield 114, 3, 20), (20, .iconst 1, 1, 21), (21, .ireturn, 1, 22)]
theorem dk_X6_is : decOK cX6_is dl_X6_is = true := by decide +kernel
def dl_X6_word : List DRow := [(0, .iconst 0, 1, 1), (1, .istore_n 2, 1, 2), (2, .iload_n 2, 1, 3), (3, .aload_n 1, 1, 4), (4, .invokevirtual 124, 3, 7), (7, .if_icmp .ge 23, 3, 10), (10, .aload_n 0, 1, 11), (11, .aload_n 1, 1, 12), (12, .iload_n 2, 1, 13), (13, .invokevirtual 129, 3, 16), (16, .invokevirtual 133, 3, 19), (19, .ifCond .ne 5, 3, 22), (22, .iconst 0, 1, 23), (23, .ireturn, 1, 24), (24, .iinc 2 1, 3, 27), (27, .goto (-25), 3, 30), (30, .iconst 1, 1, 31), (31, .ireturn, 1, 32)]
theorem dk_X6_word : decOK cX6_word dl_X6_word = true := by decide +kernel
def dl_X6_word_ : List DRow := [(0, .aload_n 0, 1, 1), (1, .getfield 114, 3, 4), (4, .istore_n 3, 1, 5), (5, .aload_n 0, 1, 6), (6, .aload_n 1, 1, 7), (7, .invokevirtual 137, 3, 10), (10, .istore 4, 2, 12), (12, .iload 4, 2, 14), (14, .ifCond .eq 12, 3, 17), (17, .iload_n 2, 1, 18), (18, .ifCond .ne 8, 3, 21), (21, .aload_n 0, 1, 22), (22, .iload_n 3, 1, 23), (23, .putfield 114, 3, 26), (26, .iload 4, 2, 28), (28, .ifCond .eq 11, 3, 31), (31, .iload_n 2, 1, 32), (32, .ifCond .eq 7, 3, 35), (35, .iconst 1, 1, 36), (36, .goto 4, 3, 39), (39, .iconst 0, 1, 40), (40, .ireturn, 1, 41)]
theorem dk_X6_word_ : decOK cX6_word_ dl_X6_word_ = true := by decide +kernel
def dl_X6_number : List DRow := [(0, .aload_n 0, 1, 1), (1, .bipush 32, 2, 3), (3, .invokevirtual 133, 3, 6), (6, .ifCond .ne 5, 3, 9), (9, .iconst 0, 1, 10), (10, .ireturn, 1, 11), (11, .aload_n 0, 1, 12), (12, .getfield 114, 3, 15), (15, .istore 4, 2, 17), (17, .iconst 0, 1, 18), (18, .istore 5, 2, 20), (20, .aload_n 0, 1, 21), (21, .getfield 114, 3, 24), (24, .iload 4, 2, 26), (26, .isub, 1, 27), (27, .iconst 5, 1, 28), (28, .if_icmp .ge 49, 3, 31), (31, .aload_n 0, 1, 32), (32, .invokevirtual 120, 3, 35), (35, .bipush 48, 2, 37), (37, .if_icmp .lt 40, 3, 40), (40, .aload_n 0, 1, 41), (41, .invokevirtual 120, 3, 44), (44, .bipush 57, 2, 46), (46, .if_icmp .gt 31, 3, 49), (49, .bipush 10, 2, 51), (51, .iload 5, 2, 53), (53, .imul, 1, 54), (54, .aload_n 0, 1, 55), (55, .invokevirtual 120, 3, 58), (58, .iadd, 1, 59), (59, .bipush 48, 2, 61), (61, .isub, 1, 62), (62, .istore 5, 2, 64), (64, .aload_n 0, 1, 65), (65, .dup, 1, 66), (66, .getfield 114, 3, 69), (69, .iconst 1, 1, 70), (70, .iadd, 1, 71), (71, .putfield 114, 3, 74), (74, .goto (-54), 3, 77), (77, .aload_n 0, 1, 78), (78, .getfield 114, 3, 81), (81, .iload 4, 2, 83), (83, .if_icmp .ne 5, 3, 86), (86, .iconst 0, 1, 87), (87, .ireturn, 1, 88), (88, .aload_n 0, 1, 89), (89, .getfield 41, 3, 92), (92, .iload_n 1, 1, 93), (93, .iload 5, 2, 95), (95, .iastore, 1, 96), (96, .iload 5, 2, 98), (98, .iload_n 2, 1, 99), (99, .iload_n 3, 1, 100), (100, .invokestatic 60, 3, 103), (103, .istore 6, 2, 105), (105, .iload 6, 2, 107), (107, .ifCond .ne 9, 3, 110), (110, .aload_n 0, 1, 111), (111, .iload 4, 2, 113), (113, .putfield 114, 3, 116), (116, .iload 6, 2, 118), (118, .ireturn, 1, 119)]
theorem dk_X6_number : decOK cX6_number dl_X6_number = true := by decide +kernel
def dl_X6_two : List DRow := [(0, .aload_n 0, 1, 1), (1, .iconst 0, 1, 2), (2, .iconst 0, 1, 3), (3, .aload_n 0, 1, 4), (4, .getfield 57, 3, 7), (7, .iconst 1, 1, 8), (8, .isub, 1, 9), (9, .invokevirtual 141, 3, 12), (12, .ifCond .ne 5, 3, 15), (15, .iconst 0, 1, 16), (16, .ireturn, 1, 17), (17, .aload_n 0, 1, 18), (18, .getfield 114, 3, 21), (21, .iconst 1, 1, 22), (22, .iadd, 1, 23), (23, .istore_n 2, 1, 24), (24, .aload_n 0, 1, 25), (25, .iconst 1, 1, 26), (26, .iconst 0, 1, 27), (27, .aload_n 0, 1, 28), (28, .getfield 57, 3, 31), (31, .iconst 1, 1, 32), (32, .isub, 1, 33), (33, .invokevirtual 141, 3, 36), (36, .ifCond .ne 5, 3, 39), (39, .iconst 0, 1, 40), (40, .ireturn, 1, 41), (41, .aload_n 0, 1, 42), (42, .getfield 41, 3, 45), (45, .iconst 0, 1, 46), (46, .iaload, 1, 47), (47, .aload_n 0, 1, 48), (48, .getfield 41, 3, 51), (51, .iconst 1, 1, 52), (52, .iaload, 1, 53), (53, .if_icmp .eq 35, 3, 56), (56, .iload_n 1, 1, 57), (57, .ifCond .eq 27, 3, 60), (60, .aload_n 0, 1, 61), (61, .getfield 26, 3, 64), (64, .bipush 8, 2, 66), (66, .aload_n 0, 1, 67), (67, .getfield 41, 3, 70), (70, .iconst 0, 1, 71), (71, .iaload, 1, 72), (72, .imul, 1, 73), (73, .aload_n 0, 1, 74), (74, .getfield 41, 3, 77), (77, .iconst 1, 1, 78), (78, .iaload, 1, 79), (79, .iadd, 1, 80), (80, .iaload, 1, 81), (81, .ifCond .le 7, 3, 84), (84, .iconst 1, 1, 85), (85, .goto 4, 3, 88), (88, .iconst 0, 1, 89), (89, .istore_n 3, 1, 90), (90, .iload_n 3, 1, 91), (91, .ifCond .ne 8, 3, 94), (94, .aload_n 0, 1, 95), (95, .iload_n 2, 1, 96), (96, .putfield 114, 3, 99), (99, .iload_n 3, 1, 100), (100, .ireturn, 1, 101)]
theorem dk_X6_two : decOK cX6_two dl_X6_two = true := by decide +kernel
def dl_X6_item : List DRow := [(0, .aload_n 0, 1, 1), (1, .invokevirtual 120, 3, 4), (4, .bipush 110, 2, 6), (6, .if_icmp .ne 7, 3, 9), (9, .iconst 1, 1, 10), (10, .goto 4, 3, 13), (13, .iconst 0, 1, 14), (14, .istore_n 1, 1, 15), (15, .aload_n 0, 1, 16), (16, .invokevirtual 120, 3, 19), (19, .tableswitch 451 102 119 #[244, 451, 451, 451, 451, 451, 451, 207, 244, 451, 85, 451, 151, 451, 451, 451, 451, 417], 85, 104), (104, .aload_n 0, 1, 105), (105, .ldc 144, 2, 107), (107, .aload_n 0, 1, 108), (108, .getfield 57, 3, 111), (111, .bipush 8, 2, 113), (113, .if_icmp .ge 7, 3, 116), (116, .iconst 1, 1, 117), (117, .goto 4, 3, 120), (120, .iconst 0, 1, 121), (121, .invokevirtual 146, 3, 124), (124, .ifCond .eq 25, 3, 127), (127, .aload_n 0, 1, 128), (128, .iconst 0, 1, 129), (129, .iconst 0, 1, 130), (130, .bipush 6, 2, 132), (132, .invokevirtual 141, 3, 135), (135, .ifCond .eq 14, 3, 138), (138, .aload_n 0, 1, 139), (139, .iconst 1, 1, 140), (140, .iconst 0, 1, 141), (141, .bipush 9, 2, 143), (143, .invokevirtual 141, 3, 146), (146, .ifCond .ne 5, 3, 149), (149, .iconst 0, 1, 150), (150, .ireturn, 1, 151), (151, .aload_n 0, 1, 152), (152, .aload_n 0, 1, 153), (153, .getfield 41, 3, 156), (156, .iconst 0, 1, 157), (157, .iaload, 1, 158), (158, .aload_n 0, 1, 159), (159, .getfield 41, 3, 162), (162, .iconst 1, 1, 163), (163, .iaload, 1, 164), (164, .invokevirtual 97, 3, 167), (167, .pop, 1, 168), (168, .iconst 1, 1, 169), (169, .ireturn, 1, 170), (170, .aload_n 0, 1, 171), (171, .ldc 149, 2, 173), (173, .invokevirtual 137, 3, 176), (176, .ifCond .eq 23, 3, 179), (179, .aload_n 0, 1, 180), (180, .iconst 0, 1, 181), (181, .invokevirtual 151, 3, 184), (184, .ifCond .eq 15, 3, 187), (187, .aload_n 0, 1, 188), (188, .iconst 2, 1, 189), (189, .iconst 1, 1, 190), (190, .sipush 999, 3, 193), (193, .invokevirtual 141, 3, 196), (196, .ifCond .ne 5, 3, 199), (199, .iconst 0, 1, 200), (200, .ireturn, 1, 201), (201, .aload_n 0, 1, 202), (202, .aload_n 0, 1, 203), (203, .getfield 41, 3, 206), (206, .iconst 0, 1, 207), (207, .iaload, 1, 208), (208, .aload_n 0, 1, 209), (209, .getfield 41, 3, 212), (212, .iconst 1, 1, 213), (213, .iaload, 1, 214), (214, .aload_n 0, 1, 215), (215, .getfield 41, 3, 218), (218, .iconst 2, 1, 219), (219, .iaload, 1, 220), (220, .invokevirtual 100, 3, 223), (223, .pop, 1, 224), (224, .iconst 1, 1, 225), (225, .ireturn, 1, 226), (226, .aload_n 0, 1, 227), (227, .ldc 155, 2, 229), (229, .invokevirtual 137, 3, 232), (232, .ifCond .eq 11, 3, 235), (235, .aload_n 0, 1, 236), (236, .iconst 1, 1, 237), (237, .invokevirtual 151, 3, 240), (240, .ifCond .ne 5, 3, 243), (243, .iconst 0, 1, 244), (244, .ireturn, 1, 245), (245, .aload_n 0, 1, 246), (246, .aload_n 0, 1, 247), (247, .getfield 41, 3, 250), (250, .iconst 0, 1, 251), (251, .iaload, 1, 252), (252, .aload_n 0, 1, 253), (253, .getfield 41, 3, 256), (256, .iconst 1, 1, 257), (257, .iaload, 1, 258), (258, .invokevirtual 157, 3, 261), (261, .iconst 1, 1, 262), (262, .ireturn, 1, 263), (263, .iload_n 1, 1, 264), (264, .ifCond .ne 56, 3, 267), (267, .aload_n 0, 1, 268), (268, .dup, 1, 269), (269, .getfield 114, 3, 272), (272, .iconst 1, 1, 273), (273, .iadd, 1, 274), (274, .putfield 114, 3, 277), (277, .aload_n 0, 1, 278), (278, .bipush 108, 2, 280), (280, .invokevirtual 133, 3, 283), (283, .ifCond .eq 37, 3, 286), (286, .aload_n 0, 1, 287), (287, .ldc 161, 2, 289), (289, .invokevirtual 137, 3, 292), (292, .ifCond .eq 14, 3, 295), (295, .aload_n 0, 1, 296), (296, .iconst 0, 1, 297), (297, .iconst 0, 1, 298), (298, .ldc 107, 2, 300), (300, .invokevirtual 141, 3, 303), (303, .ifCond .ne 5, 3, 306), (306, .iconst 0, 1, 307), (307, .ireturn, 1, 308), (308, .aload_n 0, 1, 309), (309, .aload_n 0, 1, 310), (310, .getfield 41, 3, 313), (313, .iconst 0, 1, 314), (314, .iaload, 1, 315), (315, .putfield 108, 3, 318), (318, .iconst 1, 1, 319), (319, .ireturn, 1, 320), (320, .aload_n 0, 1, 321), (321, .iload_n 1, 1, 322), (322, .ifCond .eq 8, 3, 325), (325, .ldc 163, 2, 327), (327, .goto 5, 3, 330), (330, .ldc 165, 2, 332), (332, .invokevirtual 137, 3, 335), (335, .ifCond .eq 11, 3, 338), (338, .aload_n 0, 1, 339), (339, .iconst 0, 1, 340), (340, .invokevirtual 151, 3, 343), (343, .ifCond .ne 5, 3, 346), (346, .iconst 0, 1, 347), (347, .ireturn, 1, 348), (348, .aload_n 0, 1, 349), (349, .getfield 114, 3, 352), (352, .iconst 1, 1, 353), (353, .iadd, 1, 354), (354, .istore_n 2, 1, 355), (355, .aload_n 0, 1, 356), (356, .iconst 2, 1, 357), (357, .iconst 1, 1, 358), (358, .sipush 998, 3, 361), (361, .invokevirtual 141, 3, 364), (364, .ifCond .ne 5, 3, 367), (367, .iconst 0, 1, 368), (368, .ireturn, 1, 369), (369, .iload_n 1, 1, 370), (370, .ifCond .eq 13, 3, 373), (373, .aload_n 0, 1, 374), (374, .getfield 41, 3, 377), (377, .iconst 2, 1, 378), (378, .iaload, 1, 379), (379, .ineg, 1, 380), (380, .goto 9, 3, 383), (383, .aload_n 0, 1, 384), (384, .getfield 41, 3, 387), (387, .iconst 2, 1, 388), (388, .iaload, 1, 389), (389, .istore_n 3, 1, 390), (390, .aload_n 0, 1, 391), (391, .aload_n 0, 1, 392), (392, .getfield 41, 3, 395), (395, .iconst 0, 1, 396), (396, .iaload, 1, 397), (397, .aload_n 0, 1, 398), (398, .getfield 41, 3, 401), (401, .iconst 1, 1, 402), (402, .iaload, 1, 403), (403, .iload_n 3, 1, 404), (404, .invokevirtual 167, 3, 407), (407, .ifCond .ne 10, 3, 410), (410, .aload_n 0, 1, 411), (411, .iload_n 2, 1, 412), (412, .putfield 114, 3, 415), (415, .iconst 0, 1, 416), (416, .ireturn, 1, 417), (417, .aload_n 0, 1, 418), (418, .aload_n 0, 1, 419), (419, .getfield 41, 3, 422), (422, .iconst 0, 1, 423), (423, .iaload, 1, 424), (424, .aload_n 0, 1, 425), (425, .getfield 41, 3, 428), (428, .iconst 1, 1, 429), (429, .iaload, 1, 430), (430, .iload_n 3, 1, 431), (431, .invokevirtual 170, 3, 434), (434, .iconst 1, 1, 435), (435, .ireturn, 1, 436), (436, .aload_n 0, 1, 437), (437, .ldc 174, 2, 439), (439, .invokevirtual 137, 3, 442), (442, .ifCond .eq 14, 3, 445), (445, .aload_n 0, 1, 446), (446, .iconst 0, 1, 447), (447, .iconst 0, 1, 448), (448, .bipush 9, 2, 450), (450, .invokevirtual 141, 3, 453), (453, .ifCond .ne 5, 3, 456), (456, .iconst 0, 1, 457), (457, .ireturn, 1, 458), (458, .aload_n 0, 1, 459), (459, .aload_n 0, 1, 460), (460, .getfield 41, 3, 463), (463, .iconst 0, 1, 464), (464, .iaload, 1, 465), (465, .putfield 111, 3, 468), (468, .iconst 1, 1, 469), (469, .ireturn, 1, 470), (470, .iconst 0, 1, 471), (471, .ireturn, 1, 472)]
theorem dk_X6_item : decOK cX6_item dl_X6_item = true := by decide +kernel
def dl_X6_map : List DRow := [(0, .aload_n 0, 1, 1), (1, .iload_n 1, 1, 2), (2, .invokevirtual 72, 3, 5), (5, .istore_n 2, 1, 6), (6, .iload_n 2, 1, 7), (7, .ifCond .ge 9, 3, 10), (10, .aload_n 0, 1, 11), (11, .iload_n 2, 1, 12), (12, .invokevirtual 64, 3, 15), (15, .ireturn, 1, 16), (16, .aload_n 0, 1, 17), (17, .aload_n 0, 1, 18), (18, .getfield 38, 3, 21), (21, .invokevirtual 175, 3, 24), (24, .aload_n 0, 1, 25), (25, .iload_n 1, 1, 26), (26, .putfield 117, 3, 29), (29, .aload_n 0, 1, 30), (30, .iconst 0, 1, 31), (31, .putfield 114, 3, 34), (34, .iconst 0, 1, 35), (35, .istore_n 3, 1, 36), (36, .iconst 1, 1, 37), (37, .istore 4, 2, 39), (39, .iload 4, 2, 41), (41, .ifCond .eq 58, 3, 44), (44, .aload_n 0, 1, 45), (45, .invokevirtual 179, 3, 48), (48, .istore 4, 2, 50), (50, .iload 4, 2, 52), (52, .ifCond .eq 6, 3, 55), (55, .iinc 3 1, 3, 58), (58, .iload 4, 2, 60), (60, .ifCond .eq 23, 3, 63), (63, .aload_n 0, 1, 64), (64, .getfield 114, 3, 67), (67, .aload_n 0, 1, 68), (68, .getfield 13, 3, 71), (71, .iload_n 1, 1, 72), (72, .iaload, 1, 73), (73, .if_icmp .ne 10, 3, 76), (76, .aload_n 0, 1, 77), (77, .iconst (-1), 1, 78), (78, .putfield 54, 3, 81), (81, .iload_n 3, 1, 82), (82, .ireturn, 1, 83), (83, .iload 4, 2, 85), (85, .ifCond .eq (-46), 3, 88), (88, .aload_n 0, 1, 89), (89, .bipush 59, 2, 91), (91, .invokevirtual 133, 3, 94), (94, .istore 4, 2, 96), (96, .goto (-57), 3, 99), (99, .aload_n 0, 1, 100), (100, .aload_n 0, 1, 101), (101, .getfield 114, 3, 104), (104, .putfield 54, 3, 107), (107, .aload_n 0, 1, 108), (108, .aload_n 0, 1, 109), (109, .getfield 38, 3, 112), (112, .invokevirtual 183, 3, 115), (115, .aload_n 0, 1, 116), (116, .bipush (-6), 2, 118), (118, .invokevirtual 64, 3, 121), (121, .ireturn, 1, 122)]
theorem dk_X6_map : decOK cX6_map dl_X6_map = true := by decide +kernel
def dl_X6_fault : List DRow := [(0, .aload_n 0, 1, 1), (1, .getfield 54, 3, 4), (4, .ireturn, 1, 5)]
theorem dk_X6_fault : decOK cX6_fault dl_X6_fault = true := by decide +kernel
def dl_X6_asks : List DRow := [(0, .aload_n 0, 1, 1), (1, .getfield 20, 3, 4), (4, .iload_n 1, 1, 5), (5, .iaload, 1, 6), (6, .tableswitch 86 1 6 #[38, 42, 51, 55, 62, 73], 38, 44), (44, .iconst 2, 1, 45), (45, .iload_n 2, 1, 46), (46, .imul, 1, 47), (47, .ireturn, 1, 48), (48, .iload_n 2, 1, 49), (49, .aload_n 0, 1, 50), (50, .getfield 23, 3, 53), (53, .iload_n 1, 1, 54), (54, .iaload, 1, 55), (55, .iadd, 1, 56), (56, .ireturn, 1, 57), (57, .iconst 3, 1, 58), (58, .iload_n 2, 1, 59), (59, .imul, 1, 60), (60, .ireturn, 1, 61), (61, .iload_n 2, 1, 62), (62, .iload_n 2, 1, 63), (63, .bipush 10, 2, 65), (65, .idiv, 1, 66), (66, .isub, 1, 67), (67, .ireturn, 1, 68), (68, .iconst 2, 1, 69), (69, .iload_n 2, 1, 70), (70, .imul, 1, 71), (71, .aload_n 0, 1, 72), (72, .getfield 23, 3, 75), (75, .iload_n 1, 1, 76), (76, .iaload, 1, 77), (77, .iadd, 1, 78), (78, .ireturn, 1, 79), (79, .iconst 0, 1, 80), (80, .iload_n 2, 1, 81), (81, .iload_n 2, 1, 82), (82, .bipush 10, 2, 84), (84, .idiv, 1, 85), (85, .isub, 1, 86), (86, .iconst 1, 1, 87), (87, .isub, 1, 88), (88, .invokestatic 186, 3, 91), (91, .ireturn, 1, 92), (92, .iload_n 2, 1, 93), (93, .ireturn, 1, 94)]
theorem dk_X6_asks : decOK cX6_asks dl_X6_asks = true := by decide +kernel
def dl_X6_costs : List DRow := [(0, .aload_n 0, 1, 1), (1, .iload_n 1, 1, 2), (2, .iload_n 3, 1, 3), (3, .invokevirtual 93, 3, 6), (6, .aload_n 0, 1, 7), (7, .iload_n 2, 1, 8), (8, .iload_n 3, 1, 9), (9, .invokevirtual 93, 3, 12), (12, .invokestatic 186, 3, 15), (15, .ireturn, 1, 16)]
theorem dk_X6_costs : decOK cX6_costs dl_X6_costs = true := by decide +kernel
def dl_X6_cost : List DRow := [(0, .aload_n 0, 1, 1), (1, .iload_n 1, 1, 2), (2, .invokevirtual 75, 3, 5), (5, .ifCond .eq 11, 3, 8), (8, .aload_n 0, 1, 9), (9, .iload_n 2, 1, 10), (10, .invokevirtual 75, 3, 13), (13, .ifCond .ne 9, 3, 16), (16, .aload_n 0, 1, 17), (17, .iconst (-1), 1, 18), (18, .invokevirtual 64, 3, 21), (21, .ireturn, 1, 22), (22, .iload_n 1, 1, 23), (23, .iload_n 2, 1, 24), (24, .if_icmp .eq 14, 3, 27), (27, .iload_n 3, 1, 28), (28, .iconst 1, 1, 29), (29, .sipush 998, 3, 32), (32, .invokestatic 60, 3, 35), (35, .ifCond .ne 12, 3, 38), (38, .aload_n 0, 1, 39), (39, .bipush (-6), 2, 41), (41, .invokevirtual 64, 3, 44), (44, .goto 10, 3, 47), (47, .aload_n 0, 1, 48), (48, .iload_n 1, 1, 49), (49, .iload_n 2, 1, 50), (50, .iload_n 3, 1, 51), (51, .invokevirtual 191, 3, 54), (54, .ireturn, 1, 55)]
theorem dk_X6_cost : decOK cX6_cost dl_X6_cost = true := by decide +kernel
def dl_X6_yieldOf : List DRow := [(0, .aload_n 0, 1, 1), (1, .getfield 26, 3, 4), (4, .bipush 8, 2, 6), (6, .iload_n 1, 1, 7), (7, .imul, 1, 8), (8, .iload_n 2, 1, 9), (9, .iadd, 1, 10), (10, .iaload, 1, 11), (11, .istore_n 3, 1, 12), (12, .aload_n 0, 1, 13), (13, .getfield 20, 3, 16), (16, .iload_n 1, 1, 17), (17, .iaload, 1, 18), (18, .iconst 1, 1, 19), (19, .invokestatic 81, 3, 22), (22, .ifCond .ne 16, 3, 25), (25, .aload_n 0, 1, 26), (26, .getfield 20, 3, 29), (29, .iload_n 2, 1, 30), (30, .iaload, 1, 31), (31, .iconst 1, 1, 32), (32, .invokestatic 81, 3, 35), (35, .ifCond .eq 9, 3, 38), (38, .iload_n 3, 1, 39), (39, .iload_n 3, 1, 40), (40, .iconst 4, 1, 41), (41, .idiv, 1, 42), (42, .isub, 1, 43), (43, .istore_n 3, 1, 44), (44, .aload_n 0, 1, 45), (45, .getfield 20, 3, 48), (48, .iload_n 1, 1, 49), (49, .iaload, 1, 50), (50, .iconst 2, 1, 51), (51, .invokestatic 81, 3, 54), (54, .ifCond .ne 16, 3, 57), (57, .aload_n 0, 1, 58), (58, .getfield 20, 3, 61), (61, .iload_n 2, 1, 62), (62, .iaload, 1, 63), (63, .iconst 2, 1, 64), (64, .invokestatic 81, 3, 67), (67, .ifCond .eq 7, 3, 70), (70, .iload_n 3, 1, 71), (71, .iconst 2, 1, 72), (72, .idiv, 1, 73), (73, .istore_n 3, 1, 74), (74, .iload_n 3, 1, 75), (75, .ireturn, 1, 76)]
theorem dk_X6_yieldOf : decOK cX6_yieldOf dl_X6_yieldOf = true := by decide +kernel
def dl_X6_noRoad : List DRow := [(0, .iload_n 1, 1, 1), (1, .iload_n 2, 1, 2), (2, .if_icmp .eq 17, 3, 5), (5, .aload_n 0, 1, 6), (6, .getfield 26, 3, 9), (9, .bipush 8, 2, 11), (11, .iload_n 1, 1, 12), (12, .imul, 1, 13), (13, .iload_n 2, 1, 14), (14, .iadd, 1, 15), (15, .iaload, 1, 16), (16, .ifCond .ne 7, 3, 19), (19, .iconst 1, 1, 20), (20, .goto 4, 3, 23), (23, .iconst 0, 1, 24), (24, .ireturn, 1, 25)]
theorem dk_X6_noRoad : decOK cX6_noRoad dl_X6_noRoad = true := by decide +kernel
def dl_X6_yields : List DRow := [(0, .aload_n 0, 1, 1), (1, .iload_n 1, 1, 2), (2, .invokevirtual 75, 3, 5), (5, .ifCond .eq 11, 3, 8), (8, .aload_n 0, 1, 9), (9, .iload_n 2, 1, 10), (10, .invokevirtual 75, 3, 13), (13, .ifCond .ne 9, 3, 16), (16, .aload_n 0, 1, 17), (17, .iconst (-1), 1, 18), (18, .invokevirtual 64, 3, 21), (21, .ireturn, 1, 22), (22, .aload_n 0, 1, 23), (23, .iload_n 1, 1, 24), (24, .iload_n 2, 1, 25), (25, .invokevirtual 194, 3, 28), (28, .ifCond .eq 12, 3, 31), (31, .aload_n 0, 1, 32), (32, .bipush (-6), 2, 34), (34, .invokevirtual 64, 3, 37), (37, .goto 9, 3, 40), (40, .aload_n 0, 1, 41), (41, .iload_n 1, 1, 42), (42, .iload_n 2, 1, 43), (43, .invokevirtual 197, 3, 46), (46, .ireturn, 1, 47)]
theorem dk_X6_yields : decOK cX6_yields dl_X6_yields = true := by decide +kernel
def dl_X6_mills : List DRow := [(0, .aload_n 0, 1, 1), (1, .ldc 107, 2, 3), (3, .aload_n 0, 1, 4), (4, .getfield 108, 3, 7), (7, .aload_n 0, 1, 8), (8, .iload_n 1, 1, 9), (9, .iload_n 2, 1, 10), (10, .invokevirtual 197, 3, 13), (13, .iadd, 1, 14), (14, .invokestatic 200, 3, 17), (17, .putfield 108, 3, 20), (20, .aload_n 0, 1, 21), (21, .iload_n 1, 1, 22), (22, .iload_n 2, 1, 23), (23, .iconst 0, 1, 24), (24, .invokevirtual 100, 3, 27), (27, .pop, 1, 28), (28, .return_, 1, 29)]
theorem dk_X6_mills : decOK cX6_mills dl_X6_mills = true := by decide +kernel
def dl_X6_may : List DRow := [(0, .aload_n 0, 1, 1), (1, .iload_n 1, 1, 2), (2, .invokevirtual 75, 3, 5), (5, .ifCond .eq 37, 3, 8), (8, .aload_n 0, 1, 9), (9, .iload_n 2, 1, 10), (10, .invokevirtual 75, 3, 13), (13, .ifCond .eq 29, 3, 16), (16, .aload_n 0, 1, 17), (17, .iload_n 1, 1, 18), (18, .iload_n 2, 1, 19), (19, .invokevirtual 194, 3, 22), (22, .ifCond .ne 20, 3, 25), (25, .iload_n 3, 1, 26), (26, .ifCond .eq 16, 3, 29), (29, .iload_n 3, 1, 30), (30, .sipush (-998), 3, 33), (33, .sipush 998, 3, 36), (36, .invokestatic 60, 3, 39), (39, .ifCond .ne 5, 3, 42), (42, .iconst 0, 1, 43), (43, .ireturn, 1, 44), (44, .aload_n 0, 1, 45), (45, .getfield 26, 3, 48), (48, .bipush 8, 2, 50), (50, .iload_n 1, 1, 51), (51, .imul, 1, 52), (52, .iload_n 2, 1, 53), (53, .iadd, 1, 54), (54, .iaload, 1, 55), (55, .iload_n 3, 1, 56), (56, .iadd, 1, 57), (57, .istore 4, 2, 59), (59, .iload 4, 2, 61), (61, .iconst 1, 1, 62), (62, .sipush 999, 3, 65), (65, .invokestatic 60, 3, 68), (68, .ifCond .eq 24, 3, 71), (71, .aload_n 0, 1, 72), (72, .iload_n 1, 1, 73), (73, .iload_n 2, 1, 74), (74, .iload_n 3, 1, 75), (75, .invokestatic 203, 3, 78), (78, .invokevirtual 191, 3, 81), (81, .aload_n 0, 1, 82), (82, .getfield 108, 3, 85), (85, .if_icmp .gt 7, 3, 88), (88, .iconst 1, 1, 89), (89, .goto 4, 3, 92), (92, .iconst 0, 1, 93), (93, .ireturn, 1, 94)]
theorem dk_X6_may : decOK cX6_may dl_X6_may = true := by decide +kernel
def dl_X6_pinch : List DRow := [(0, .aload_n 0, 1, 1), (1, .dup, 1, 2), (2, .getfield 108, 3, 5), (5, .aload_n 0, 1, 6), (6, .iload_n 1, 1, 7), (7, .iload_n 2, 1, 8), (8, .iload_n 3, 1, 9), (9, .invokestatic 203, 3, 12), (12, .invokevirtual 191, 3, 15), (15, .isub, 1, 16), (16, .putfield 108, 3, 19), (19, .aload_n 0, 1, 20), (20, .iload_n 1, 1, 21), (21, .iload_n 2, 1, 22), (22, .aload_n 0, 1, 23), (23, .getfield 26, 3, 26), (26, .bipush 8, 2, 28), (28, .iload_n 1, 1, 29), (29, .imul, 1, 30), (30, .iload_n 2, 1, 31), (31, .iadd, 1, 32), (32, .iaload, 1, 33), (33, .iload_n 3, 1, 34), (34, .iadd, 1, 35), (35, .invokevirtual 100, 3, 38), (38, .pop, 1, 39), (39, .return_, 1, 40)]
theorem dk_X6_pinch : decOK cX6_pinch dl_X6_pinch = true := by decide +kernel
def dl_X6_walk : List DRow := [(0, .iconst 0, 1, 1), (1, .istore_n 1, 1, 2), (2, .iload_n 1, 1, 3), (3, .aload_n 0, 1, 4), (4, .getfield 57, 3, 7), (7, .if_icmp .ge 76, 3, 10), (10, .iconst 0, 1, 11), (11, .istore_n 2, 1, 12), (12, .iload_n 2, 1, 13), (13, .aload_n 0, 1, 14), (14, .getfield 57, 3, 17), (17, .if_icmp .ge 60, 3, 20), (20, .aload_n 0, 1, 21), (21, .getfield 44, 3, 24), (24, .bipush 8, 2, 26), (26, .iload_n 1, 1, 27), (27, .imul, 1, 28), (28, .iload_n 2, 1, 29), (29, .iadd, 1, 30), (30, .iload_n 1, 1, 31), (31, .iload_n 2, 1, 32), (32, .if_icmp .ne 7, 3, 35), (35, .iconst 0, 1, 36), (36, .goto 34, 3, 39), (39, .aload_n 0, 1, 40), (40, .getfield 26, 3, 43), (43, .bipush 8, 2, 45), (45, .iload_n 1, 1, 46), (46, .imul, 1, 47), (47, .iload_n 2, 1, 48), (48, .iadd, 1, 49), (49, .iaload, 1, 50), (50, .ifCond .le 17, 3, 53), (53, .aload_n 0, 1, 54), (54, .getfield 26, 3, 57), (57, .bipush 8, 2, 59), (59, .iload_n 1, 1, 60), (60, .imul, 1, 61), (61, .iload_n 2, 1, 62), (62, .iadd, 1, 63), (63, .iaload, 1, 64), (64, .goto 6, 3, 67), (67, .sipush 10000, 3, 70), (70, .iastore, 1, 71), (71, .iinc 2 1, 3, 74), (74, .goto (-62), 3, 77), (77, .iinc 1 1, 3, 80), (80, .goto (-78), 3, 83), (83, .iconst 0, 1, 84), (84, .istore_n 1, 1, 85), (85, .iload_n 1, 1, 86), (86, .aload_n 0, 1, 87), (87, .getfield 57, 3, 90), (90, .if_icmp .ge 89, 3, 93), (93, .iconst 0, 1, 94), (94, .istore_n 2, 1, 95), (95, .iload_n 2, 1, 96), (96, .aload_n 0, 1, 97), (97, .getfield 57, 3, 100), (100, .if_icmp .ge 73, 3, 103), (103, .iconst 0, 1, 104), (104, .istore_n 3, 1, 105), (105, .iload_n 3, 1, 106), (106, .aload_n 0, 1, 107), (107, .getfield 57, 3, 110), (110, .if_icmp .ge 57, 3, 113), (113, .aload_n 0, 1, 114), (114, .getfield 44, 3, 117), (117, .bipush 8, 2, 119), (119, .iload_n 2, 1, 120), (120, .imul, 1, 121), (121, .iload_n 3, 1, 122), (122, .iadd, 1, 123), (123, .aload_n 0, 1, 124), (124, .getfield 44, 3, 127), (127, .bipush 8, 2, 129), (129, .iload_n 2, 1, 130), (130, .imul, 1, 131), (131, .iload_n 3, 1, 132), (132, .iadd, 1, 133), (133, .iaload, 1, 134), (134, .aload_n 0, 1, 135), (135, .getfield 44, 3, 138), (138, .bipush 8, 2, 140), (140, .iload_n 2, 1, 141), (141, .imul, 1, 142), (142, .iload_n 1, 1, 143), (143, .iadd, 1, 144), (144, .iaload, 1, 145), (145, .aload_n 0, 1, 146), (146, .getfield 44, 3, 149), (149, .bipush 8, 2, 151), (151, .iload_n 1, 1, 152), (152, .imul, 1, 153), (153, .iload_n 3, 1, 154), (154, .iadd, 1, 155), (155, .iaload, 1, 156), (156, .iadd, 1, 157), (157, .invokestatic 200, 3, 160), (160, .iastore, 1, 161), (161, .iinc 3 1, 3, 164), (164, .goto (-59), 3, 167), (167, .iinc 2 1, 3, 170), (170, .goto (-75), 3, 173), (173, .iinc 1 1, 3, 176), (176, .goto (-91), 3, 179), (179, .return_, 1, 180)]
theorem dk_X6_walk : decOK cX6_walk dl_X6_walk = true := by decide +kernel
def dl_X6_farTold : List DRow := [(0, .aload_n 0, 1, 1), (1, .getfield 44, 3, 4), (4, .bipush 8, 2, 6), (6, .iload_n 1, 1, 7), (7, .imul, 1, 8), (8, .iload_n 2, 1, 9), (9, .iadd, 1, 10), (10, .iaload, 1, 11), (11, .sipush 10000, 3, 14), (14, .if_icmp .ge 17, 3, 17), (17, .aload_n 0, 1, 18), (18, .getfield 44, 3, 21), (21, .bipush 8, 2, 23), (23, .iload_n 1, 1, 24), (24, .imul, 1, 25), (25, .iload_n 2, 1, 26), (26, .iadd, 1, 27), (27, .iaload, 1, 28), (28, .goto 4, 3, 31), (31, .iconst (-1), 1, 32), (32, .ireturn, 1, 33)]
theorem dk_X6_farTold : decOK cX6_farTold dl_X6_farTold = true := by decide +kernel
def dl_X6_away : List DRow := [(0, .aload_n 0, 1, 1), (1, .iload_n 1, 1, 2), (2, .invokevirtual 75, 3, 5), (5, .ifCond .eq 11, 3, 8), (8, .aload_n 0, 1, 9), (9, .iload_n 2, 1, 10), (10, .invokevirtual 75, 3, 13), (13, .ifCond .ne 9, 3, 16), (16, .aload_n 0, 1, 17), (17, .iconst (-1), 1, 18), (18, .invokevirtual 104, 3, 21), (21, .ireturn, 1, 22), (22, .aload_n 0, 1, 23), (23, .invokevirtual 206, 3, 26), (26, .aload_n 0, 1, 27), (27, .iload_n 1, 1, 28), (28, .iload_n 2, 1, 29), (29, .invokevirtual 209, 3, 32), (32, .ireturn, 1, 33)]
theorem dk_X6_away : decOK cX6_away dl_X6_away = true := by decide +kernel
def dl_X6_next : List DRow := [(0, .iconst 0, 1, 1), (1, .istore_n 3, 1, 2), (2, .aload_n 0, 1, 3), (3, .getfield 26, 3, 6), (6, .bipush 8, 2, 8), (8, .iload_n 1, 1, 9), (9, .imul, 1, 10), (10, .iload_n 3, 1, 11), (11, .iadd, 1, 12), (12, .iaload, 1, 13), (13, .ifCond .eq 40, 3, 16), (16, .aload_n 0, 1, 17), (17, .getfield 26, 3, 20), (20, .bipush 8, 2, 22), (22, .iload_n 1, 1, 23), (23, .imul, 1, 24), (24, .iload_n 3, 1, 25), (25, .iadd, 1, 26), (26, .iaload, 1, 27), (27, .aload_n 0, 1, 28), (28, .getfield 44, 3, 31), (31, .bipush 8, 2, 33), (33, .iload_n 3, 1, 34), (34, .imul, 1, 35), (35, .iload_n 2, 1, 36), (36, .iadd, 1, 37), (37, .iaload, 1, 38), (38, .iadd, 1, 39), (39, .aload_n 0, 1, 40), (40, .getfield 44, 3, 43), (43, .bipush 8, 2, 45), (45, .iload_n 1, 1, 46), (46, .imul, 1, 47), (47, .iload_n 2, 1, 48), (48, .iadd, 1, 49), (49, .iaload, 1, 50), (50, .if_icmp .eq 9, 3, 53), (53, .iinc 3 1, 3, 56), (56, .goto (-54), 3, 59), (59, .iload_n 3, 1, 60), (60, .ireturn, 1, 61)]
theorem dk_X6_next : decOK cX6_next dl_X6_next = true := by decide +kernel
def dl_X6_shortest : List DRow := [(0, .aload_n 0, 1, 1), (1, .iload_n 1, 1, 2), (2, .invokevirtual 75, 3, 5), (5, .ifCond .eq 11, 3, 8), (8, .aload_n 0, 1, 9), (9, .iload_n 2, 1, 10), (10, .invokevirtual 75, 3, 13), (13, .ifCond .ne 9, 3, 16), (16, .aload_n 0, 1, 17), (17, .iconst (-1), 1, 18), (18, .invokevirtual 64, 3, 21), (21, .ireturn, 1, 22), (22, .aload_n 0, 1, 23), (23, .invokevirtual 206, 3, 26), (26, .aload_n 0, 1, 27), (27, .getfield 44, 3, 30), (30, .bipush 8, 2, 32), (32, .iload_n 1, 1, 33), (33, .imul, 1, 34), (34, .iload_n 2, 1, 35), (35, .iadd, 1, 36), (36, .iaload, 1, 37), (37, .sipush 10000, 3, 40), (40, .if_icmp .eq 8, 3, 43), (43, .iload_n 3, 1, 44), (44, .iconst (-1), 1, 45), (45, .if_icmp .ge 10, 3, 48), (48, .aload_n 0, 1, 49), (49, .bipush (-5), 2, 51), (51, .invokevirtual 64, 3, 54), (54, .ireturn, 1, 55), (55, .iconst 1, 1, 56), (56, .istore 4, 2, 58), (58, .iload_n 1, 1, 59), (59, .istore 5, 2, 61), (61, .iload 5, 2, 63), (63, .iload_n 2, 1, 64), (64, .if_icmp .eq 26, 3, 67), (67, .iload 4, 2, 69), (69, .iload_n 3, 1, 70), (70, .iconst 1, 1, 71), (71, .iadd, 1, 72), (72, .if_icmp .eq 18, 3, 75), (75, .aload_n 0, 1, 76), (76, .iload 5, 2, 78), (78, .iload_n 2, 1, 79), (79, .invokevirtual 212, 3, 82), (82, .istore 5, 2, 84), (84, .iinc 4 1, 3, 87), (87, .goto (-26), 3, 90), (90, .iload_n 3, 1, 91), (91, .iconst (-1), 1, 92), (92, .if_icmp .ne 6, 3, 95), (95, .iload 4, 2, 97), (97, .ireturn, 1, 98), (98, .iload 4, 2, 100), (100, .iload_n 3, 1, 101), (101, .iconst 1, 1, 102), (102, .iadd, 1, 103), (103, .if_icmp .ne 8, 3, 106), (106, .iload 5, 2, 108), (108, .goto 9, 3, 111), (111, .aload_n 0, 1, 112), (112, .bipush (-5), 2, 114), (114, .invokevirtual 64, 3, 117), (117, .ireturn, 1, 118)]
theorem dk_X6_shortest : decOK cX6_shortest dl_X6_shortest = true := by decide +kernel
def dl_X6_within_ : List DRow := [(0, .aload_n 0, 1, 1), (1, .iload_n 1, 1, 2), (2, .invokevirtual 75, 3, 5), (5, .ifCond .ne 9, 3, 8), (8, .aload_n 0, 1, 9), (9, .iconst (-1), 1, 10), (10, .invokevirtual 64, 3, 13), (13, .ireturn, 1, 14), (14, .iload_n 2, 1, 15), (15, .iconst 0, 1, 16), (16, .sipush 9999, 3, 19), (19, .invokestatic 60, 3, 22), (22, .ifCond .ne 10, 3, 25), (25, .aload_n 0, 1, 26), (26, .bipush (-6), 2, 28), (28, .invokevirtual 64, 3, 31), (31, .ireturn, 1, 32), (32, .aload_n 0, 1, 33), (33, .invokevirtual 206, 3, 36), (36, .iconst 0, 1, 37), (37, .istore_n 3, 1, 38), (38, .iconst 0, 1, 39), (39, .istore 4, 2, 41), (41, .iload 4, 2, 43), (43, .aload_n 0, 1, 44), (44, .getfield 57, 3, 47), (47, .if_icmp .ge 32, 3, 50), (50, .aload_n 0, 1, 51), (51, .getfield 44, 3, 54), (54, .bipush 8, 2, 56), (56, .iload_n 1, 1, 57), (57, .imul, 1, 58), (58, .iload 4, 2, 60), (60, .iadd, 1, 61), (61, .iaload, 1, 62), (62, .iload_n 2, 1, 63), (63, .if_icmp .gt 10, 3, 66), (66, .iload_n 3, 1, 67), (67, .iconst 1, 1, 68), (68, .iload 4, 2, 70), (70, .ishl, 1, 71), (71, .ior, 1, 72), (72, .istore_n 3, 1, 73), (73, .iinc 4 1, 3, 76), (76, .goto (-35), 3, 79), (79, .iload_n 3, 1, 80), (80, .ireturn, 1, 81)]
theorem dk_X6_within_ : decOK cX6_within_ dl_X6_within_ = true := by decide +kernel
def dl_X6_parts : List DRow := [(0, .iconst 0, 1, 1), (1, .istore_n 1, 1, 2), (2, .iconst 0, 1, 3), (3, .istore_n 2, 1, 4), (4, .iload_n 2, 1, 5), (5, .aload_n 0, 1, 6), (6, .getfield 57, 3, 9), (9, .if_icmp .ge 53, 3, 12), (12, .iconst 1, 1, 13), (13, .istore_n 3, 1, 14), (14, .iconst 0, 1, 15), (15, .istore 4, 2, 17), (17, .iload 4, 2, 19), (19, .iload_n 2, 1, 20), (20, .if_icmp .ge 29, 3, 23), (23, .aload_n 0, 1, 24), (24, .getfield 44, 3, 27), (27, .bipush 8, 2, 29), (29, .iload_n 2, 1, 30), (30, .imul, 1, 31), (31, .iload 4, 2, 33), (33, .iadd, 1, 34), (34, .iaload, 1, 35), (35, .sipush 10000, 3, 38), (38, .if_icmp .ge 5, 3, 41), (41, .iconst 0, 1, 42), (42, .istore_n 3, 1, 43), (43, .iinc 4 1, 3, 46), (46, .goto (-29), 3, 49), (49, .iload_n 3, 1, 50), (50, .ifCond .eq 6, 3, 53), (53, .iinc 1 1, 3, 56), (56, .iinc 2 1, 3, 59), (59, .goto (-55), 3, 62), (62, .iload_n 1, 1, 63), (63, .ireturn, 1, 64)]
theorem dk_X6_parts : decOK cX6_parts dl_X6_parts = true := by decide +kernel
def dl_X6_farthest : List DRow := [(0, .iconst 0, 1, 1), (1, .istore_n 2, 1, 2), (2, .iconst 0, 1, 3), (3, .istore_n 3, 1, 4), (4, .iload_n 3, 1, 5), (5, .aload_n 0, 1, 6), (6, .getfield 57, 3, 9), (9, .if_icmp .ge 25, 3, 12), (12, .iload_n 2, 1, 13), (13, .aload_n 0, 1, 14), (14, .getfield 44, 3, 17), (17, .bipush 8, 2, 19), (19, .iload_n 1, 1, 20), (20, .imul, 1, 21), (21, .iload_n 3, 1, 22), (22, .iadd, 1, 23), (23, .iaload, 1, 24), (24, .invokestatic 186, 3, 27), (27, .istore_n 2, 1, 28), (28, .iinc 3 1, 3, 31), (31, .goto (-27), 3, 34), (34, .iload_n 2, 1, 35), (35, .ireturn, 1, 36)]
theorem dk_X6_farthest : decOK cX6_farthest dl_X6_farthest = true := by decide +kernel
def dl_X6_keeps : List DRow := [(0, .iconst 0, 1, 1), (1, .istore_n 1, 1, 2), (2, .iconst 0, 1, 3), (3, .istore_n 2, 1, 4), (4, .iload_n 2, 1, 5), (5, .iconst 1, 1, 6), (6, .aload_n 0, 1, 7), (7, .getfield 57, 3, 10), (10, .ishl, 1, 11), (11, .iconst 1, 1, 12), (12, .isub, 1, 13), (13, .if_icmp .eq 152, 3, 16), (16, .iconst (-1), 1, 17), (17, .istore_n 3, 1, 18), (18, .sipush 10000, 3, 21), (21, .istore 4, 2, 23), (23, .iconst 0, 1, 24), (24, .istore 5, 2, 26), (26, .iload 5, 2, 28), (28, .aload_n 0, 1, 29), (29, .getfield 57, 3, 32), (32, .if_icmp .ge 100, 3, 35), (35, .iconst 0, 1, 36), (36, .istore 6, 2, 38), (38, .iload 6, 2, 40), (40, .aload_n 0, 1, 41), (41, .getfield 57, 3, 44), (44, .if_icmp .ge 82, 3, 47), (47, .iload_n 2, 1, 48), (48, .iload 5, 2, 50), (50, .invokestatic 215, 3, 53), (53, .ifCond .eq 67, 3, 56), (56, .iload_n 2, 1, 57), (57, .iload 6, 2, 59), (59, .invokestatic 215, 3, 62), (62, .ifCond .ne 58, 3, 65), (65, .aload_n 0, 1, 66), (66, .getfield 26, 3, 69), (69, .bipush 8, 2, 71), (71, .iload 5, 2, 73), (73, .imul, 1, 74), (74, .iload 6, 2, 76), (76, .iadd, 1, 77), (77, .iaload, 1, 78), (78, .ifCond .eq 42, 3, 81), (81, .aload_n 0, 1, 82), (82, .getfield 26, 3, 85), (85, .bipush 8, 2, 87), (87, .iload 5, 2, 89), (89, .imul, 1, 90), (90, .iload 6, 2, 92), (92, .iadd, 1, 93), (93, .iaload, 1, 94), (94, .iload 4, 2, 96), (96, .if_icmp .lt 6, 3, 99), (99, .goto 21, 3, 102), (102, .iload 6, 2, 104), (104, .istore_n 3, 1, 105), (105, .aload_n 0, 1, 106), (106, .getfield 26, 3, 109), (109, .bipush 8, 2, 111), (111, .iload 5, 2, 113), (113, .imul, 1, 114), (114, .iload 6, 2, 116), (116, .iadd, 1, 117), (117, .iaload, 1, 118), (118, .istore 4, 2, 120), (120, .iinc 6 1, 3, 123), (123, .goto (-85), 3, 126), (126, .iinc 5 1, 3, 129), (129, .goto (-103), 3, 132), (132, .iload_n 3, 1, 133), (133, .iconst (-1), 1, 134), (134, .if_icmp .ne 17, 3, 137), (137, .iload_n 2, 1, 138), (138, .iconst 1, 1, 139), (139, .iload_n 2, 1, 140), (140, .iconst (-1), 1, 141), (141, .ixor, 1, 142), (142, .invokestatic 218, 3, 145), (145, .ishl, 1, 146), (146, .ior, 1, 147), (147, .istore_n 2, 1, 148), (148, .goto (-144), 3, 151), (151, .iload_n 2, 1, 152), (152, .iconst 1, 1, 153), (153, .iload_n 3, 1, 154), (154, .ishl, 1, 155), (155, .ior, 1, 156), (156, .istore_n 2, 1, 157), (157, .iload_n 1, 1, 158), (158, .iload 4, 2, 160), (160, .iadd, 1, 161), (161, .istore_n 1, 1, 162), (162, .goto (-158), 3, 165), (165, .iload_n 1, 1, 166), (166, .ireturn, 1, 167)]
theorem dk_X6_keeps : decOK cX6_keeps dl_X6_keeps = true := by decide +kernel
def dl_X6_whole : List DRow := [(0, .iload_n 1, 1, 1), (1, .iconst 0, 1, 2), (2, .iconst 3, 1, 3), (3, .invokestatic 60, 3, 6), (6, .ifCond .eq 15, 3, 9), (9, .iload_n 1, 1, 10), (10, .iconst 1, 1, 11), (11, .if_icmp .ne 17, 3, 14), (14, .aload_n 0, 1, 15), (15, .getfield 57, 3, 18), (18, .ifCond .ne 10, 3, 21), (21, .aload_n 0, 1, 22), (22, .bipush (-5), 2, 24), (24, .invokevirtual 64, 3, 27), (27, .ireturn, 1, 28), (28, .aload_n 0, 1, 29), (29, .invokevirtual 206, 3, 32), (32, .iload_n 1, 1, 33), (33, .ifCond .ne 8, 3, 36), (36, .aload_n 0, 1, 37), (37, .invokevirtual 221, 3, 40), (40, .ireturn, 1, 41), (41, .iload_n 1, 1, 42), (42, .iconst 3, 1, 43), (43, .if_icmp .ne 8, 3, 46), (46, .aload_n 0, 1, 47), (47, .invokevirtual 224, 3, 50), (50, .ireturn, 1, 51), (51, .iconst 0, 1, 52), (52, .istore_n 2, 1, 53), (53, .iconst 0, 1, 54), (54, .istore_n 3, 1, 55), (55, .iconst 0, 1, 56), (56, .istore 4, 2, 58), (58, .iload 4, 2, 60), (60, .aload_n 0, 1, 61), (61, .getfield 57, 3, 64), (64, .if_icmp .ge 57, 3, 67), (67, .aload_n 0, 1, 68), (68, .iload 4, 2, 70), (70, .invokevirtual 227, 3, 73), (73, .aload_n 0, 1, 74), (74, .iload_n 2, 1, 75), (75, .invokevirtual 227, 3, 78), (78, .if_icmp .ge 6, 3, 81), (81, .iload 4, 2, 83), (83, .istore_n 2, 1, 84), (84, .iconst 0, 1, 85), (85, .istore 5, 2, 87), (87, .iload 5, 2, 89), (89, .aload_n 0, 1, 90), (90, .getfield 57, 3, 93), (93, .if_icmp .ge 22, 3, 96), (96, .iload_n 3, 1, 97), (97, .aload_n 0, 1, 98), (98, .iload 4, 2, 100), (100, .iload 5, 2, 102), (102, .invokevirtual 209, 3, 105), (105, .invokestatic 186, 3, 108), (108, .istore_n 3, 1, 109), (109, .iinc 5 1, 3, 112), (112, .goto (-25), 3, 115), (115, .iinc 4 1, 3, 118), (118, .goto (-60), 3, 121), (121, .iload_n 1, 1, 122), (122, .iconst 1, 1, 123), (123, .if_icmp .ne 7, 3, 126), (126, .iload_n 2, 1, 127), (127, .goto 4, 3, 130), (130, .iload_n 3, 1, 131), (131, .ireturn, 1, 132)]
theorem dk_X6_whole : decOK cX6_whole dl_X6_whole = true := by decide +kernel
def dl_X6_harmOf : List DRow := [(0, .aload_n 0, 1, 1), (1, .invokevirtual 206, 3, 4), (4, .iconst 0, 1, 5), (5, .istore_n 3, 1, 6), (6, .iload_n 3, 1, 7), (7, .bipush 64, 2, 9), (9, .if_icmp .ge 21, 3, 12), (12, .aload_n 0, 1, 13), (13, .getfield 47, 3, 16), (16, .iload_n 3, 1, 17), (17, .aload_n 0, 1, 18), (18, .getfield 44, 3, 21), (21, .iload_n 3, 1, 22), (22, .iaload, 1, 23), (23, .iastore, 1, 24), (24, .iinc 3 1, 3, 27), (27, .goto (-21), 3, 30), (30, .aload_n 0, 1, 31), (31, .iload_n 1, 1, 32), (32, .iload_n 2, 1, 33), (33, .iconst 0, 1, 34), (34, .invokevirtual 100, 3, 37), (37, .istore_n 3, 1, 38), (38, .aload_n 0, 1, 39), (39, .invokevirtual 206, 3, 42), (42, .aload_n 0, 1, 43), (43, .iload_n 1, 1, 44), (44, .iload_n 2, 1, 45), (45, .iload_n 3, 1, 46), (46, .invokevirtual 100, 3, 49), (49, .pop, 1, 50), (50, .iconst 0, 1, 51), (51, .istore 4, 2, 53), (53, .iconst 0, 1, 54), (54, .istore 5, 2, 56), (56, .iload 5, 2, 58), (58, .aload_n 0, 1, 59), (59, .getfield 57, 3, 62), (62, .if_icmp .ge 57, 3, 65), (65, .iconst 0, 1, 66), (66, .istore 6, 2, 68), (68, .iload 6, 2, 70), (70, .iload 5, 2, 72), (72, .if_icmp .ge 41, 3, 75), (75, .iload 4, 2, 77), (77, .aload_n 0, 1, 78), (78, .getfield 44, 3, 81), (81, .bipush 8, 2, 83), (83, .iload 5, 2, 85), (85, .imul, 1, 86), (86, .iload 6, 2, 88), (88, .iadd, 1, 89), (89, .iaload, 1, 90), (90, .aload_n 0, 1, 91), (91, .getfield 47, 3, 94), (94, .bipush 8, 2, 96), (96, .iload 5, 2, 98), (98, .imul, 1, 99), (99, .iload 6, 2, 101), (101, .iadd, 1, 102), (102, .iaload, 1, 103), (103, .isub, 1, 104), (104, .iadd, 1, 105), (105, .istore 4, 2, 107), (107, .iinc 6 1, 3, 110), (110, .goto (-42), 3, 113), (113, .iinc 5 1, 3, 116), (116, .goto (-60), 3, 119), (119, .iload 4, 2, 121), (121, .ireturn, 1, 122)]
theorem dk_X6_harmOf : decOK cX6_harmOf dl_X6_harmOf = true := by decide +kernel
def dl_X6_harm : List DRow := [(0, .aload_n 0, 1, 1), (1, .iload_n 1, 1, 2), (2, .invokevirtual 75, 3, 5), (5, .ifCond .eq 11, 3, 8), (8, .aload_n 0, 1, 9), (9, .iload_n 2, 1, 10), (10, .invokevirtual 75, 3, 13), (13, .ifCond .ne 9, 3, 16), (16, .aload_n 0, 1, 17), (17, .iconst (-1), 1, 18), (18, .invokevirtual 64, 3, 21), (21, .ireturn, 1, 22), (22, .iload_n 3, 1, 23), (23, .iconst 0, 1, 24), (24, .iconst 1, 1, 25), (25, .invokestatic 60, 3, 28), (28, .ifCond .ne 10, 3, 31), (31, .aload_n 0, 1, 32), (32, .bipush (-5), 2, 34), (34, .invokevirtual 64, 3, 37), (37, .ireturn, 1, 38), (38, .aload_n 0, 1, 39), (39, .iload_n 1, 1, 40), (40, .iload_n 2, 1, 41), (41, .invokevirtual 194, 3, 44), (44, .ifCond .eq 10, 3, 47), (47, .aload_n 0, 1, 48), (48, .bipush (-6), 2, 50), (50, .invokevirtual 64, 3, 53), (53, .ireturn, 1, 54), (54, .aload_n 0, 1, 55), (55, .iload_n 1, 1, 56), (56, .iload_n 2, 1, 57), (57, .invokevirtual 230, 3, 60), (60, .istore 4, 2, 62), (62, .iload_n 3, 1, 63), (63, .ifCond .ne 6, 3, 66), (66, .iload 4, 2, 68), (68, .ireturn, 1, 69), (69, .iconst 0, 1, 70), (70, .istore 5, 2, 72), (72, .iconst 0, 1, 73), (73, .istore 6, 2, 75), (75, .iload 6, 2, 77), (77, .aload_n 0, 1, 78), (78, .getfield 57, 3, 81), (81, .if_icmp .ge 54, 3, 84), (84, .aload_n 0, 1, 85), (85, .getfield 47, 3, 88), (88, .bipush 8, 2, 90), (90, .iload_n 1, 1, 91), (91, .imul, 1, 92), (92, .iload 6, 2, 94), (94, .iadd, 1, 95), (95, .iaload, 1, 96), (96, .sipush 10000, 3, 99), (99, .if_icmp .ge 30, 3, 102), (102, .aload_n 0, 1, 103), (103, .getfield 44, 3, 106), (106, .bipush 8, 2, 108), (108, .iload_n 1, 1, 109), (109, .imul, 1, 110), (110, .iload 6, 2, 112), (112, .iadd, 1, 113), (113, .iaload, 1, 114), (114, .sipush 10000, 3, 117), (117, .if_icmp .ne 12, 3, 120), (120, .iload 5, 2, 122), (122, .iconst 1, 1, 123), (123, .iload 6, 2, 125), (125, .ishl, 1, 126), (126, .ior, 1, 127), (127, .istore 5, 2, 129), (129, .iinc 6 1, 3, 132), (132, .goto (-57), 3, 135), (135, .iload 5, 2, 137), (137, .ireturn, 1, 138)]
theorem dk_X6_harm : decOK cX6_harm dl_X6_harm = true := by decide +kernel
def dl_X6_leastHarm : List DRow := [(0, .iconst (-1), 1, 1), (1, .istore_n 1, 1, 2), (2, .iconst 0, 1, 3), (3, .istore_n 2, 1, 4), (4, .iconst 0, 1, 5), (5, .istore_n 3, 1, 6), (6, .iload_n 3, 1, 7), (7, .aload_n 0, 1, 8), (8, .getfield 57, 3, 11), (11, .if_icmp .ge 81, 3, 14), (14, .iload_n 3, 1, 15), (15, .iconst 1, 1, 16), (16, .iadd, 1, 17), (17, .istore 4, 2, 19), (19, .iload 4, 2, 21), (21, .aload_n 0, 1, 22), (22, .getfield 57, 3, 25), (25, .if_icmp .ge 61, 3, 28), (28, .aload_n 0, 1, 29), (29, .getfield 26, 3, 32), (32, .bipush 8, 2, 34), (34, .iload_n 3, 1, 35), (35, .imul, 1, 36), (36, .iload 4, 2, 38), (38, .iadd, 1, 39), (39, .iaload, 1, 40), (40, .ifCond .ne 6, 3, 43), (43, .goto 37, 3, 46), (46, .aload_n 0, 1, 47), (47, .iload_n 3, 1, 48), (48, .iload 4, 2, 50), (50, .invokevirtual 230, 3, 53), (53, .istore 5, 2, 55), (55, .iload_n 1, 1, 56), (56, .iconst (-1), 1, 57), (57, .if_icmp .eq 12, 3, 60), (60, .iload 5, 2, 62), (62, .iload_n 2, 1, 63), (63, .if_icmp .lt 6, 3, 66), (66, .goto 14, 3, 69), (69, .bipush 100, 2, 71), (71, .iload_n 3, 1, 72), (72, .imul, 1, 73), (73, .iload 4, 2, 75), (75, .iadd, 1, 76), (76, .istore_n 1, 1, 77), (77, .iload 5, 2, 79), (79, .istore_n 2, 1, 80), (80, .iinc 4 1, 3, 83), (83, .goto (-64), 3, 86), (86, .iinc 3 1, 3, 89), (89, .goto (-83), 3, 92), (92, .iload_n 1, 1, 93), (93, .iconst (-1), 1, 94), (94, .if_icmp .ne 12, 3, 97), (97, .aload_n 0, 1, 98), (98, .bipush (-5), 2, 100), (100, .invokevirtual 64, 3, 103), (103, .goto 4, 3, 106), (106, .iload_n 1, 1, 107), (107, .ireturn, 1, 108)]
theorem dk_X6_leastHarm : decOK cX6_leastHarm dl_X6_leastHarm = true := by decide +kernel
def dl_X6_cheapest : List DRow := [(0, .aload_n 0, 1, 1), (1, .iload_n 1, 1, 2), (2, .invokevirtual 75, 3, 5), (5, .ifCond .eq 11, 3, 8), (8, .aload_n 0, 1, 9), (9, .iload_n 2, 1, 10), (10, .invokevirtual 75, 3, 13), (13, .ifCond .ne 9, 3, 16), (16, .aload_n 0, 1, 17), (17, .iconst (-1), 1, 18), (18, .invokevirtual 104, 3, 21), (21, .ireturn, 1, 22), (22, .iload 4, 2, 24), (24, .iconst 0, 1, 25), (25, .iconst 2, 1, 26), (26, .invokestatic 60, 3, 29), (29, .ifCond .ne 10, 3, 32), (32, .aload_n 0, 1, 33), (33, .bipush (-5), 2, 35), (35, .invokevirtual 104, 3, 38), (38, .ireturn, 1, 39), (39, .iload_n 1, 1, 40), (40, .iload_n 2, 1, 41), (41, .if_icmp .eq 14, 3, 44), (44, .iload_n 3, 1, 45), (45, .iconst 1, 1, 46), (46, .sipush 9999, 3, 49), (49, .invokestatic 60, 3, 52), (52, .ifCond .ne 10, 3, 55), (55, .aload_n 0, 1, 56), (56, .bipush (-6), 2, 58), (58, .invokevirtual 104, 3, 61), (61, .ireturn, 1, 62), (62, .aload_n 0, 1, 63), (63, .invokevirtual 206, 3, 66), (66, .aload_n 0, 1, 67), (67, .getfield 44, 3, 70), (70, .bipush 8, 2, 72), (72, .iload_n 1, 1, 73), (73, .imul, 1, 74), (74, .iload_n 2, 1, 75), (75, .iadd, 1, 76), (76, .iaload, 1, 77), (77, .iload_n 3, 1, 78), (78, .if_icmp .gt 14, 3, 81), (81, .iload 4, 2, 83), (83, .ifCond .ne 7, 3, 86), (86, .iconst 0, 1, 87), (87, .goto 4, 3, 90), (90, .iconst (-1), 1, 91), (91, .ireturn, 1, 92), (92, .iconst (-1), 1, 93), (93, .istore 5, 2, 95), (95, .iconst (-1), 1, 96), (96, .istore 6, 2, 98), (98, .iconst (-1), 1, 99), (99, .istore 7, 2, 101), (101, .iconst 0, 1, 102), (102, .istore 8, 2, 104), (104, .iload 8, 2, 106), (106, .aload_n 0, 1, 107), (107, .getfield 57, 3, 110), (110, .if_icmp .ge 211, 3, 113), (113, .iload 8, 2, 115), (115, .iconst 1, 1, 116), (116, .iadd, 1, 117), (117, .istore 9, 2, 119), (119, .iload 9, 2, 121), (121, .aload_n 0, 1, 122), (122, .getfield 57, 3, 125), (125, .if_icmp .ge 190, 3, 128), (128, .aload_n 0, 1, 129), (129, .getfield 26, 3, 132), (132, .bipush 8, 2, 134), (134, .iload 8, 2, 136), (136, .imul, 1, 137), (137, .iload 9, 2, 139), (139, .iadd, 1, 140), (140, .iaload, 1, 141), (141, .istore 10, 2, 143), (143, .iload 10, 2, 145), (145, .ifCond .ne 6, 3, 148), (148, .goto 161, 3, 151), (151, .aload_n 0, 1, 152), (152, .iload 8, 2, 154), (154, .iload 9, 2, 156), (156, .iconst 0, 1, 157), (157, .invokevirtual 100, 3, 160), (160, .pop, 1, 161), (161, .aload_n 0, 1, 162), (162, .invokevirtual 206, 3, 165), (165, .aload_n 0, 1, 166), (166, .iload 8, 2, 168), (168, .iload 9, 2, 170), (170, .iload 10, 2, 172), (172, .invokevirtual 100, 3, 175), (175, .pop, 1, 176), (176, .aload_n 0, 1, 177), (177, .getfield 44, 3, 180), (180, .bipush 8, 2, 182), (182, .iload_n 1, 1, 183), (183, .imul, 1, 184), (184, .iload 8, 2, 186), (186, .iadd, 1, 187), (187, .iaload, 1, 188), (188, .aload_n 0, 1, 189), (189, .getfield 44, 3, 192), (192, .bipush 8, 2, 194), (194, .iload 9, 2, 196), (196, .imul, 1, 197), (197, .iload_n 2, 1, 198), (198, .iadd, 1, 199), (199, .iaload, 1, 200), (200, .iadd, 1, 201), (201, .aload_n 0, 1, 202), (202, .getfield 44, 3, 205), (205, .bipush 8, 2, 207), (207, .iload_n 1, 1, 208), (208, .imul, 1, 209), (209, .iload 9, 2, 211), (211, .iadd, 1, 212), (212, .iaload, 1, 213), (213, .aload_n 0, 1, 214), (214, .getfield 44, 3, 217), (217, .bipush 8, 2, 219), (219, .iload 8, 2, 221), (221, .imul, 1, 222), (222, .iload_n 2, 1, 223), (223, .iadd, 1, 224), (224, .iaload, 1, 225), (225, .iadd, 1, 226), (226, .invokestatic 200, 3, 229), (229, .istore 11, 2, 231), (231, .iconst 1, 1, 232), (232, .istore 12, 2, 234), (234, .iload 12, 2, 236), (236, .iload 10, 2, 238), (238, .if_icmp .ge 71, 3, 241), (241, .iload 11, 2, 243), (243, .iload 10, 2, 245), (245, .iadd, 1, 246), (246, .iload 12, 2, 248), (248, .isub, 1, 249), (249, .iload_n 3, 1, 250), (250, .if_icmp .gt 53, 3, 253), (253, .iload 5, 2, 255), (255, .iconst (-1), 1, 256), (256, .if_icmp .eq 21, 3, 259), (259, .aload_n 0, 1, 260), (260, .iload 8, 2, 262), (262, .iload 9, 2, 264), (264, .iload 12, 2, 266), (266, .invokevirtual 191, 3, 269), (269, .iload 5, 2, 271), (271, .if_icmp .lt 6, 3, 274), (274, .goto 29, 3, 277), (277, .aload_n 0, 1, 278), (278, .iload 8, 2, 280), (280, .iload 9, 2, 282), (282, .iload 12, 2, 284), (284, .invokevirtual 191, 3, 287), (287, .istore 5, 2, 289), (289, .bipush 100, 2, 291), (291, .iload 8, 2, 293), (293, .imul, 1, 294), (294, .iload 9, 2, 296), (296, .iadd, 1, 297), (297, .istore 6, 2, 299), (299, .iload 12, 2, 301), (301, .istore 7, 2, 303), (303, .iinc 12 1, 3, 306), (306, .goto (-72), 3, 309), (309, .iinc 9 1, 3, 312), (312, .goto (-193), 3, 315), (315, .iinc 8 1, 3, 318), (318, .goto (-214), 3, 321), (321, .iload 4, 2, 323), (323, .ifCond .ne 8, 3, 326), (326, .iload 5, 2, 328), (328, .goto 16, 3, 331), (331, .iload 4, 2, 333), (333, .iconst 1, 1, 334), (334, .if_icmp .ne 8, 3, 337), (337, .iload 6, 2, 339), (339, .goto 5, 3, 342), (342, .iload 7, 2, 344), (344, .ireturn, 1, 345)]
theorem dk_X6_cheapest : decOK cX6_cheapest dl_X6_cheapest = true := by decide +kernel
def dl_X6_meet : List DRow := [(0, .aload_n 0, 1, 1), (1, .iload_n 1, 1, 2), (2, .invokevirtual 75, 3, 5), (5, .ifCond .eq 11, 3, 8), (8, .aload_n 0, 1, 9), (9, .iload_n 2, 1, 10), (10, .invokevirtual 75, 3, 13), (13, .ifCond .ne 9, 3, 16), (16, .aload_n 0, 1, 17), (17, .iconst (-1), 1, 18), (18, .invokevirtual 104, 3, 21), (21, .ireturn, 1, 22), (22, .aload_n 0, 1, 23), (23, .invokevirtual 206, 3, 26), (26, .iconst (-1), 1, 27), (27, .istore_n 3, 1, 28), (28, .sipush 10000, 3, 31), (31, .istore 4, 2, 33), (33, .iconst 0, 1, 34), (34, .istore 5, 2, 36), (36, .iload 5, 2, 38), (38, .aload_n 0, 1, 39), (39, .getfield 57, 3, 42), (42, .if_icmp .ge 55, 3, 45), (45, .aload_n 0, 1, 46), (46, .getfield 44, 3, 49), (49, .bipush 8, 2, 51), (51, .iload_n 1, 1, 52), (52, .imul, 1, 53), (53, .iload 5, 2, 55), (55, .iadd, 1, 56), (56, .iaload, 1, 57), (57, .aload_n 0, 1, 58), (58, .getfield 44, 3, 61), (61, .bipush 8, 2, 63), (63, .iload_n 2, 1, 64), (64, .imul, 1, 65), (65, .iload 5, 2, 67), (67, .iadd, 1, 68), (68, .iaload, 1, 69), (69, .invokestatic 186, 3, 72), (72, .istore 6, 2, 74), (74, .iload 6, 2, 76), (76, .iload 4, 2, 78), (78, .if_icmp .lt 6, 3, 81), (81, .goto 10, 3, 84), (84, .iload 6, 2, 86), (86, .istore 4, 2, 88), (88, .iload 5, 2, 90), (90, .istore_n 3, 1, 91), (91, .iinc 5 1, 3, 94), (94, .goto (-58), 3, 97), (97, .iload_n 3, 1, 98), (98, .ireturn, 1, 99)]
theorem dk_X6_meet : decOK cX6_meet dl_X6_meet = true := by decide +kernel
def dl_X6_told : List DRow := [(0, .aload_n 0, 1, 1), (1, .getfield 16, 3, 4), (4, .sipush 160, 3, 7), (7, .iload_n 1, 1, 8), (8, .imul, 1, 9), (9, .iload_n 2, 1, 10), (10, .iadd, 1, 11), (11, .laload, 1, 12), (12, .l2i, 1, 13), (13, .ireturn, 1, 14)]
theorem dk_X6_told : decOK cX6_told dl_X6_told = true := by decide +kernel
def dl_X6_noJourney : List DRow := [(0, .aload_n 0, 1, 1), (1, .iload_n 1, 1, 2), (2, .invokevirtual 72, 3, 5), (5, .istore_n 3, 1, 6), (6, .iload_n 3, 1, 7), (7, .ifCond .ge 5, 3, 10), (10, .iload_n 3, 1, 11), (11, .ireturn, 1, 12), (12, .iload_n 2, 1, 13), (13, .ifCond .ge 6, 3, 16), (16, .bipush (-4), 2, 18), (18, .ireturn, 1, 19), (19, .ldc2_w 233, 3, 22), (22, .iload_n 2, 1, 23), (23, .i2l, 1, 24), (24, .lmul, 1, 25), (25, .aload_n 0, 1, 26), (26, .getfield 13, 3, 29), (29, .iload_n 1, 1, 30), (30, .iaload, 1, 31), (31, .i2l, 1, 32), (32, .lcmp, 1, 33), (33, .ifCond .le 6, 3, 36), (36, .bipush (-5), 2, 38), (38, .ireturn, 1, 39), (39, .iload_n 2, 1, 40), (40, .bipush 10, 2, 42), (42, .if_icmp .le 6, 3, 45), (45, .bipush (-6), 2, 47), (47, .ireturn, 1, 48), (48, .iconst 0, 1, 49), (49, .istore 4, 2, 51), (51, .iload 4, 2, 53), (53, .iconst 4, 1, 54), (54, .iload_n 2, 1, 55), (55, .imul, 1, 56), (56, .if_icmp .ge 103, 3, 59), (59, .aload_n 0, 1, 60), (60, .iload_n 1, 1, 61), (61, .iload 4, 2, 63), (63, .invokevirtual 235, 3, 66), (66, .istore 5, 2, 68), (68, .aload_n 0, 1, 69), (69, .iload_n 1, 1, 70), (70, .iload 4, 2, 72), (72, .iconst 1, 1, 73), (73, .iadd, 1, 74), (74, .invokevirtual 235, 3, 77), (77, .istore 6, 2, 79), (79, .aload_n 0, 1, 80), (80, .iload 5, 2, 82), (82, .invokevirtual 75, 3, 85), (85, .ifCond .eq 65, 3, 88), (88, .aload_n 0, 1, 89), (89, .iload 6, 2, 91), (91, .invokevirtual 75, 3, 94), (94, .ifCond .eq 56, 3, 97), (97, .aload_n 0, 1, 98), (98, .iload 5, 2, 100), (100, .iload 6, 2, 102), (102, .invokevirtual 194, 3, 105), (105, .ifCond .ne 45, 3, 108), (108, .aload_n 0, 1, 109), (109, .iload_n 1, 1, 110), (110, .iload 4, 2, 112), (112, .iconst 2, 1, 113), (113, .iadd, 1, 114), (114, .invokevirtual 235, 3, 117), (117, .ifCond .eq 33, 3, 120), (120, .aload_n 0, 1, 121), (121, .iload_n 1, 1, 122), (122, .iload 4, 2, 124), (124, .iconst 3, 1, 125), (125, .iadd, 1, 126), (126, .invokevirtual 235, 3, 129), (129, .iload 4, 2, 131), (131, .ifCond .ne 7, 3, 134), (134, .iconst 0, 1, 135), (135, .goto 12, 3, 138), (138, .aload_n 0, 1, 139), (139, .iload_n 1, 1, 140), (140, .iload 4, 2, 142), (142, .iconst 1, 1, 143), (143, .isub, 1, 144), (144, .invokevirtual 235, 3, 147), (147, .if_icmp .ge 6, 3, 150), (150, .bipush (-6), 2, 152), (152, .ireturn, 1, 153), (153, .iinc 4 4, 3, 156), (156, .goto (-105), 3, 159), (159, .iconst 0, 1, 160), (160, .ireturn, 1, 161)]
theorem dk_X6_noJourney : decOK cX6_noJourney dl_X6_noJourney = true := by decide +kernel
def dl_X6_journey : List DRow := [(0, .aload_n 0, 1, 1), (1, .iload_n 1, 1, 2), (2, .invokevirtual 75, 3, 5), (5, .ifCond .eq 11, 3, 8), (8, .aload_n 0, 1, 9), (9, .iload_n 2, 1, 10), (10, .invokevirtual 75, 3, 13), (13, .ifCond .ne 9, 3, 16), (16, .aload_n 0, 1, 17), (17, .iconst (-1), 1, 18), (18, .invokevirtual 104, 3, 21), (21, .ireturn, 1, 22), (22, .aload_n 0, 1, 23), (23, .iload_n 3, 1, 24), (24, .iload 4, 2, 26), (26, .invokevirtual 238, 3, 29), (29, .istore 5, 2, 31), (31, .iload 5, 2, 33), (33, .ifCond .ge 10, 3, 36), (36, .aload_n 0, 1, 37), (37, .iload 5, 2, 39), (39, .invokevirtual 104, 3, 42), (42, .ireturn, 1, 43), (43, .aload_n 0, 1, 44), (44, .aload_n 0, 1, 45), (45, .getfield 38, 3, 48), (48, .invokevirtual 175, 3, 51), (51, .iconst 0, 1, 52), (52, .istore 6, 2, 54), (54, .iload_n 1, 1, 55), (55, .istore 7, 2, 57), (57, .iconst 0, 1, 58), (58, .istore 8, 2, 60), (60, .iconst 0, 1, 61), (61, .istore 9, 2, 63), (63, .iload 9, 2, 65), (65, .ifCond .ne 192, 3, 68), (68, .iload 8, 2, 70), (70, .iload 4, 2, 72), (72, .if_icmp .ge 96, 3, 75), (75, .aload_n 0, 1, 76), (76, .iload_n 3, 1, 77), (77, .iconst 4, 1, 78), (78, .iload 8, 2, 80), (80, .imul, 1, 81), (81, .iconst 3, 1, 82), (82, .iadd, 1, 83), (83, .invokevirtual 235, 3, 86), (86, .iload 6, 2, 88), (88, .if_icmp .gt 80, 3, 91), (91, .aload_n 0, 1, 92), (92, .iload_n 3, 1, 93), (93, .iconst 4, 1, 94), (94, .iload 8, 2, 96), (96, .imul, 1, 97), (97, .invokevirtual 235, 3, 100), (100, .istore 10, 2, 102), (102, .aload_n 0, 1, 103), (103, .iload_n 3, 1, 104), (104, .iconst 4, 1, 105), (105, .iload 8, 2, 107), (107, .imul, 1, 108), (108, .iconst 1, 1, 109), (109, .iadd, 1, 110), (110, .invokevirtual 235, 3, 113), (113, .istore 11, 2, 115), (115, .aload_n 0, 1, 116), (116, .iload 10, 2, 118), (118, .iload 11, 2, 120), (120, .lconst 1, 1, 121), (121, .ldc2_w 241, 3, 124), (124, .aload_n 0, 1, 125), (125, .getfield 26, 3, 128), (128, .bipush 8, 2, 130), (130, .iload 10, 2, 132), (132, .imul, 1, 133), (133, .iload 11, 2, 135), (135, .iadd, 1, 136), (136, .iaload, 1, 137), (137, .i2l, 1, 138), (138, .aload_n 0, 1, 139), (139, .iload_n 3, 1, 140), (140, .iconst 4, 1, 141), (141, .iload 8, 2, 143), (143, .imul, 1, 144), (144, .iconst 2, 1, 145), (145, .iadd, 1, 146), (146, .invokevirtual 235, 3, 149), (149, .i2l, 1, 150), (150, .ladd, 1, 151), (151, .invokestatic 243, 3, 154), (154, .invokestatic 246, 3, 157), (157, .l2i, 1, 158), (158, .invokevirtual 100, 3, 161), (161, .pop, 1, 162), (162, .iinc 8 1, 3, 165), (165, .goto (-97), 3, 168), (168, .aload_n 0, 1, 169), (169, .invokevirtual 206, 3, 172), (172, .iload 6, 2, 174), (174, .sipush 9999, 3, 177), (177, .if_icmp .le 10, 3, 180), (180, .bipush (-2), 2, 182), (182, .istore 9, 2, 184), (184, .goto (-121), 3, 187), (187, .iload 7, 2, 189), (189, .iload_n 2, 1, 190), (190, .if_icmp .ne 9, 3, 193), (193, .iconst 1, 1, 194), (194, .istore 9, 2, 196), (196, .goto (-133), 3, 199), (199, .aload_n 0, 1, 200), (200, .getfield 44, 3, 203), (203, .bipush 8, 2, 205), (205, .iload 7, 2, 207), (207, .imul, 1, 208), (208, .iload_n 2, 1, 209), (209, .iadd, 1, 210), (210, .iaload, 1, 211), (211, .sipush 10000, 3, 214), (214, .if_icmp .ne 9, 3, 217), (217, .iconst (-1), 1, 218), (218, .istore 9, 2, 220), (220, .goto (-157), 3, 223), (223, .aload_n 0, 1, 224), (224, .iload 7, 2, 226), (226, .iload_n 2, 1, 227), (227, .invokevirtual 212, 3, 230), (230, .istore 10, 2, 232), (232, .iload 6, 2, 234), (234, .aload_n 0, 1, 235), (235, .getfield 26, 3, 238), (238, .bipush 8, 2, 240), (240, .iload 7, 2, 242), (242, .imul, 1, 243), (243, .iload 10, 2, 245), (245, .iadd, 1, 246), (246, .iaload, 1, 247), (247, .iadd, 1, 248), (248, .istore 6, 2, 250), (250, .iload 10, 2, 252), (252, .istore 7, 2, 254), (254, .goto (-191), 3, 257), (257, .aload_n 0, 1, 258), (258, .aload_n 0, 1, 259), (259, .getfield 38, 3, 262), (262, .invokevirtual 183, 3, 265), (265, .iload 9, 2, 267), (267, .iconst 1, 1, 268), (268, .if_icmp .ne 8, 3, 271), (271, .iload 6, 2, 273), (273, .goto 5, 3, 276), (276, .iload 9, 2, 278), (278, .ireturn, 1, 279)]
theorem dk_X6_journey : decOK cX6_journey dl_X6_journey = true := by decide +kernel
def dl_X6_pairs : List DRow := [(0, .aload_n 0, 1, 1), (1, .getfield 57, 3, 4), (4, .aload_n 0, 1, 5), (5, .getfield 57, 3, 8), (8, .iconst 1, 1, 9), (9, .isub, 1, 10), (10, .imul, 1, 11), (11, .iconst 2, 1, 12), (12, .idiv, 1, 13), (13, .ireturn, 1, 14)]
theorem dk_X6_pairs : decOK cX6_pairs dl_X6_pairs = true := by decide +kernel
def dl_X6_noTable : List DRow := [(0, .aload_n 0, 1, 1), (1, .iload_n 1, 1, 2), (2, .invokevirtual 72, 3, 5), (5, .istore_n 2, 1, 6), (6, .iload_n 2, 1, 7), (7, .ifCond .ge 7, 3, 10), (10, .iload_n 2, 1, 11), (11, .goto 22, 3, 14), (14, .aload_n 0, 1, 15), (15, .getfield 13, 3, 18), (18, .iload_n 1, 1, 19), (19, .iaload, 1, 20), (20, .aload_n 0, 1, 21), (21, .invokevirtual 248, 3, 24), (24, .if_icmp .ge 8, 3, 27), (27, .bipush (-5), 2, 29), (29, .goto 4, 3, 32), (32, .iconst 0, 1, 33), (33, .ireturn, 1, 34)]
theorem dk_X6_noTable : decOK cX6_noTable dl_X6_noTable = true := by decide +kernel
def dl_X6_pair : List DRow := [(0, .iload_n 1, 1, 1), (1, .iload_n 2, 1, 2), (2, .invokestatic 200, 3, 5), (5, .istore_n 3, 1, 6), (6, .iload_n 1, 1, 7), (7, .iload_n 2, 1, 8), (8, .invokestatic 186, 3, 11), (11, .istore 4, 2, 13), (13, .iload_n 3, 1, 14), (14, .iconst 2, 1, 15), (15, .aload_n 0, 1, 16), (16, .getfield 57, 3, 19), (19, .imul, 1, 20), (20, .iload_n 3, 1, 21), (21, .isub, 1, 22), (22, .iconst 1, 1, 23), (23, .isub, 1, 24), (24, .imul, 1, 25), (25, .iconst 2, 1, 26), (26, .idiv, 1, 27), (27, .iload 4, 2, 29), (29, .iadd, 1, 30), (30, .iload_n 3, 1, 31), (31, .isub, 1, 32), (32, .iconst 1, 1, 33), (33, .isub, 1, 34), (34, .ireturn, 1, 35)]
theorem dk_X6_pair : decOK cX6_pair dl_X6_pair = true := by decide +kernel
def dl_X6_judge : List DRow := [(0, .aload_n 0, 1, 1), (1, .iload_n 1, 1, 2), (2, .invokevirtual 251, 3, 5), (5, .istore_n 2, 1, 6), (6, .iload_n 2, 1, 7), (7, .ifCond .ge 9, 3, 10), (10, .aload_n 0, 1, 11), (11, .iload_n 2, 1, 12), (12, .invokevirtual 104, 3, 15), (15, .ireturn, 1, 16), (16, .iconst 0, 1, 17), (17, .istore_n 3, 1, 18), (18, .iload_n 3, 1, 19), (19, .aload_n 0, 1, 20), (20, .getfield 57, 3, 23), (23, .if_icmp .ge 132, 3, 26), (26, .iload_n 3, 1, 27), (27, .iconst 1, 1, 28), (28, .iadd, 1, 29), (29, .istore 4, 2, 31), (31, .iload 4, 2, 33), (33, .aload_n 0, 1, 34), (34, .getfield 57, 3, 37), (37, .if_icmp .ge 112, 3, 40), (40, .aload_n 0, 1, 41), (41, .iload_n 1, 1, 42), (42, .aload_n 0, 1, 43), (43, .iload_n 3, 1, 44), (44, .iload 4, 2, 46), (46, .invokevirtual 254, 3, 49), (49, .invokevirtual 235, 3, 52), (52, .i2l, 1, 53), (53, .lstore 5, 2, 55), (55, .lload 5, 2, 57), (57, .lconst 1, 1, 58), (58, .lcmp, 1, 59), (59, .ifCond .ge 11, 3, 62), (62, .aload_n 0, 1, 63), (63, .iload_n 3, 1, 64), (64, .iload 4, 2, 66), (66, .invokevirtual 254, 3, 69), (69, .ireturn, 1, 70), (70, .iconst 0, 1, 71), (71, .istore 7, 2, 73), (73, .iload 7, 2, 75), (75, .aload_n 0, 1, 76), (76, .getfield 57, 3, 79), (79, .if_icmp .ge 64, 3, 82), (82, .iload 7, 2, 84), (84, .iload_n 3, 1, 85), (85, .if_icmp .eq 52, 3, 88), (88, .iload 7, 2, 90), (90, .iload 4, 2, 92), (92, .if_icmp .eq 45, 3, 95), (95, .lload 5, 2, 97), (97, .aload_n 0, 1, 98), (98, .iload_n 1, 1, 99), (99, .aload_n 0, 1, 100), (100, .iload_n 3, 1, 101), (101, .iload 7, 2, 103), (103, .invokevirtual 254, 3, 106), (106, .invokevirtual 235, 3, 109), (109, .i2l, 1, 110), (110, .aload_n 0, 1, 111), (111, .iload_n 1, 1, 112), (112, .aload_n 0, 1, 113), (113, .iload 7, 2, 115), (115, .iload 4, 2, 117), (117, .invokevirtual 254, 3, 120), (120, .invokevirtual 235, 3, 123), (123, .i2l, 1, 124), (124, .ladd, 1, 125), (125, .lcmp, 1, 126), (126, .ifCond .le 11, 3, 129), (129, .aload_n 0, 1, 130), (130, .iload_n 3, 1, 131), (131, .iload 4, 2, 133), (133, .invokevirtual 254, 3, 136), (136, .ireturn, 1, 137), (137, .iinc 7 1, 3, 140), (140, .goto (-67), 3, 143), (143, .iinc 4 1, 3, 146), (146, .goto (-115), 3, 149), (149, .iinc 3 1, 3, 152), (152, .goto (-134), 3, 155), (155, .iconst (-1), 1, 156), (156, .ireturn, 1, 157)]
theorem dk_X6_judge : decOK cX6_judge dl_X6_judge = true := by decide +kernel
def dl_X6_mend : List DRow := [(0, .aload_n 0, 1, 1), (1, .iload_n 1, 1, 2), (2, .invokevirtual 251, 3, 5), (5, .istore_n 2, 1, 6), (6, .iload_n 2, 1, 7), (7, .ifCond .ge 9, 3, 10), (10, .aload_n 0, 1, 11), (11, .iload_n 2, 1, 12), (12, .invokevirtual 64, 3, 15), (15, .ireturn, 1, 16), (16, .iconst 0, 1, 17), (17, .istore_n 3, 1, 18), (18, .iload_n 3, 1, 19), (19, .aload_n 0, 1, 20), (20, .invokevirtual 248, 3, 23), (23, .if_icmp .ge 32, 3, 26), (26, .aload_n 0, 1, 27), (27, .iload_n 1, 1, 28), (28, .iload_n 3, 1, 29), (29, .invokevirtual 235, 3, 32), (32, .iconst 1, 1, 33), (33, .sipush 9999, 3, 36), (36, .invokestatic 60, 3, 39), (39, .ifCond .ne 10, 3, 42), (42, .aload_n 0, 1, 43), (43, .bipush (-6), 2, 45), (45, .invokevirtual 64, 3, 48), (48, .ireturn, 1, 49), (49, .iinc 3 1, 3, 52), (52, .goto (-34), 3, 55), (55, .aload_n 0, 1, 56), (56, .aload_n 0, 1, 57), (57, .getfield 38, 3, 60), (60, .invokevirtual 175, 3, 63), (63, .iconst 0, 1, 64), (64, .istore_n 3, 1, 65), (65, .iconst 0, 1, 66), (66, .istore 4, 2, 68), (68, .iload 4, 2, 70), (70, .aload_n 0, 1, 71), (71, .getfield 57, 3, 74), (74, .if_icmp .ge 52, 3, 77), (77, .iload 4, 2, 79), (79, .iconst 1, 1, 80), (80, .iadd, 1, 81), (81, .istore 5, 2, 83), (83, .iload 5, 2, 85), (85, .aload_n 0, 1, 86), (86, .getfield 57, 3, 89), (89, .if_icmp .ge 31, 3, 92), (92, .aload_n 0, 1, 93), (93, .iload 4, 2, 95), (95, .iload 5, 2, 97), (97, .aload_n 0, 1, 98), (98, .iload_n 1, 1, 99), (99, .aload_n 0, 1, 100), (100, .iload 4, 2, 102), (102, .iload 5, 2, 104), (104, .invokevirtual 254, 3, 107), (107, .invokevirtual 235, 3, 110), (110, .invokevirtual 100, 3, 113), (113, .pop, 1, 114), (114, .iinc 5 1, 3, 117), (117, .goto (-34), 3, 120), (120, .iinc 4 1, 3, 123), (123, .goto (-55), 3, 126), (126, .aload_n 0, 1, 127), (127, .invokevirtual 206, 3, 130), (130, .iconst 0, 1, 131), (131, .istore 4, 2, 133), (133, .iload 4, 2, 135), (135, .aload_n 0, 1, 136), (136, .getfield 57, 3, 139), (139, .if_icmp .ge 60, 3, 142), (142, .iload 4, 2, 144), (144, .iconst 1, 1, 145), (145, .iadd, 1, 146), (146, .istore 5, 2, 148), (148, .iload 5, 2, 150), (150, .aload_n 0, 1, 151), (151, .getfield 57, 3, 154), (154, .if_icmp .ge 39, 3, 157), (157, .iload_n 3, 1, 158), (158, .aload_n 0, 1, 159), (159, .getfield 26, 3, 162), (162, .bipush 8, 2, 164), (164, .iload 4, 2, 166), (166, .imul, 1, 167), (167, .iload 5, 2, 169), (169, .iadd, 1, 170), (170, .iaload, 1, 171), (171, .aload_n 0, 1, 172), (172, .getfield 44, 3, 175), (175, .bipush 8, 2, 177), (177, .iload 4, 2, 179), (179, .imul, 1, 180), (180, .iload 5, 2, 182), (182, .iadd, 1, 183), (183, .iaload, 1, 184), (184, .isub, 1, 185), (185, .iadd, 1, 186), (186, .istore_n 3, 1, 187), (187, .iinc 5 1, 3, 190), (190, .goto (-42), 3, 193), (193, .iinc 4 1, 3, 196), (196, .goto (-63), 3, 199), (199, .aload_n 0, 1, 200), (200, .aload_n 0, 1, 201), (201, .getfield 38, 3, 204), (204, .invokevirtual 183, 3, 207), (207, .iload_n 3, 1, 208), (208, .ireturn, 1, 209)]
theorem dk_X6_mend : decOK cX6_mend dl_X6_mend = true := by decide +kernel
def dl_X6_noPinches : List DRow := [(0, .aload_n 0, 1, 1), (1, .iload_n 1, 1, 2), (2, .invokevirtual 72, 3, 5), (5, .istore_n 3, 1, 6), (6, .iload_n 3, 1, 7), (7, .ifCond .ge 5, 3, 10), (10, .iload_n 3, 1, 11), (11, .ireturn, 1, 12), (12, .iload_n 2, 1, 13), (13, .ifCond .ge 6, 3, 16), (16, .bipush (-4), 2, 18), (18, .ireturn, 1, 19), (19, .ldc2_w 257, 3, 22), (22, .iload_n 2, 1, 23), (23, .i2l, 1, 24), (24, .lmul, 1, 25), (25, .aload_n 0, 1, 26), (26, .getfield 13, 3, 29), (29, .iload_n 1, 1, 30), (30, .iaload, 1, 31), (31, .i2l, 1, 32), (32, .lcmp, 1, 33), (33, .ifCond .le 6, 3, 36), (36, .bipush (-5), 2, 38), (38, .ireturn, 1, 39), (39, .iload_n 2, 1, 40), (40, .bipush 20, 2, 42), (42, .if_icmp .le 8, 3, 45), (45, .bipush (-6), 2, 47), (47, .goto 4, 3, 50), (50, .iconst 0, 1, 51), (51, .ireturn, 1, 52)]
theorem dk_X6_noPinches : decOK cX6_noPinches dl_X6_noPinches = true := by decide +kernel
def dl_X6_pinched : List DRow := [(0, .iconst 0, 1, 1), (1, .istore_n 3, 1, 2), (2, .iload_n 3, 1, 3), (3, .iload_n 2, 1, 4), (4, .if_icmp .ge 78, 3, 7), (7, .aload_n 0, 1, 8), (8, .aload_n 0, 1, 9), (9, .iload_n 1, 1, 10), (10, .iconst 3, 1, 11), (11, .iload_n 3, 1, 12), (12, .imul, 1, 13), (13, .invokevirtual 235, 3, 16), (16, .aload_n 0, 1, 17), (17, .iload_n 1, 1, 18), (18, .iconst 3, 1, 19), (19, .iload_n 3, 1, 20), (20, .imul, 1, 21), (21, .iconst 1, 1, 22), (22, .iadd, 1, 23), (23, .invokevirtual 235, 3, 26), (26, .aload_n 0, 1, 27), (27, .iload_n 1, 1, 28), (28, .iconst 3, 1, 29), (29, .iload_n 3, 1, 30), (30, .imul, 1, 31), (31, .iconst 2, 1, 32), (32, .iadd, 1, 33), (33, .invokevirtual 235, 3, 36), (36, .invokevirtual 167, 3, 39), (39, .ifCond .ne 5, 3, 42), (42, .iload_n 3, 1, 43), (43, .ireturn, 1, 44), (44, .aload_n 0, 1, 45), (45, .aload_n 0, 1, 46), (46, .iload_n 1, 1, 47), (47, .iconst 3, 1, 48), (48, .iload_n 3, 1, 49), (49, .imul, 1, 50), (50, .invokevirtual 235, 3, 53), (53, .aload_n 0, 1, 54), (54, .iload_n 1, 1, 55), (55, .iconst 3, 1, 56), (56, .iload_n 3, 1, 57), (57, .imul, 1, 58), (58, .iconst 1, 1, 59), (59, .iadd, 1, 60), (60, .invokevirtual 235, 3, 63), (63, .aload_n 0, 1, 64), (64, .iload_n 1, 1, 65), (65, .iconst 3, 1, 66), (66, .iload_n 3, 1, 67), (67, .imul, 1, 68), (68, .iconst 2, 1, 69), (69, .iadd, 1, 70), (70, .invokevirtual 235, 3, 73), (73, .invokevirtual 170, 3, 76), (76, .iinc 3 1, 3, 79), (79, .goto (-77), 3, 82), (82, .iconst (-1), 1, 83), (83, .ireturn, 1, 84)]
theorem dk_X6_pinched : decOK cX6_pinched dl_X6_pinched = true := by decide +kernel
def dl_X6_pinches : List DRow := [(0, .aload_n 0, 1, 1), (1, .iload_n 1, 1, 2), (2, .iload_n 2, 1, 3), (3, .invokevirtual 259, 3, 6), (6, .istore_n 3, 1, 7), (7, .iload_n 3, 1, 8), (8, .ifCond .ge 9, 3, 11), (11, .aload_n 0, 1, 12), (12, .iload_n 3, 1, 13), (13, .invokevirtual 104, 3, 16), (16, .ireturn, 1, 17), (17, .aload_n 0, 1, 18), (18, .aload_n 0, 1, 19), (19, .getfield 38, 3, 22), (22, .invokevirtual 175, 3, 25), (25, .aload_n 0, 1, 26), (26, .iload_n 1, 1, 27), (27, .iload_n 2, 1, 28), (28, .invokevirtual 262, 3, 31), (31, .istore 4, 2, 33), (33, .aload_n 0, 1, 34), (34, .aload_n 0, 1, 35), (35, .getfield 38, 3, 38), (38, .invokevirtual 183, 3, 41), (41, .iload 4, 2, 43), (43, .ireturn, 1, 44)]
theorem dk_X6_pinches : decOK cX6_pinches dl_X6_pinches = true := by decide +kernel
def dl_X6_left : List DRow := [(0, .aload_n 0, 1, 1), (1, .iload_n 1, 1, 2), (2, .iload_n 2, 1, 3), (3, .invokevirtual 259, 3, 6), (6, .istore_n 3, 1, 7), (7, .iload_n 3, 1, 8), (8, .ifCond .ge 9, 3, 11), (11, .aload_n 0, 1, 12), (12, .iload_n 3, 1, 13), (13, .invokevirtual 64, 3, 16), (16, .ireturn, 1, 17), (17, .aload_n 0, 1, 18), (18, .aload_n 0, 1, 19), (19, .getfield 38, 3, 22), (22, .invokevirtual 175, 3, 25), (25, .aload_n 0, 1, 26), (26, .iload_n 1, 1, 27), (27, .iload_n 2, 1, 28), (28, .invokevirtual 262, 3, 31), (31, .istore 4, 2, 33), (33, .aload_n 0, 1, 34), (34, .getfield 108, 3, 37), (37, .istore 5, 2, 39), (39, .aload_n 0, 1, 40), (40, .aload_n 0, 1, 41), (41, .getfield 38, 3, 44), (44, .invokevirtual 183, 3, 47), (47, .iload 4, 2, 49), (49, .iconst (-1), 1, 50), (50, .if_icmp .ne 8, 3, 53), (53, .iload 5, 2, 55), (55, .goto 9, 3, 58), (58, .aload_n 0, 1, 59), (59, .bipush (-6), 2, 61), (61, .invokevirtual 64, 3, 64), (64, .ireturn, 1, 65)]
theorem dk_X6_left : decOK cX6_left dl_X6_left = true := by decide +kernel
def dl_X6_done : List DRow := [(0, .aload_n 0, 1, 1), (1, .iload_n 1, 1, 2), (2, .iload_n 2, 1, 3), (3, .invokevirtual 259, 3, 6), (6, .istore_n 3, 1, 7), (7, .iload_n 3, 1, 8), (8, .ifCond .ge 9, 3, 11), (11, .aload_n 0, 1, 12), (12, .iload_n 3, 1, 13), (13, .invokevirtual 64, 3, 16), (16, .ireturn, 1, 17), (17, .aload_n 0, 1, 18), (18, .aload_n 0, 1, 19), (19, .getfield 38, 3, 22), (22, .invokevirtual 175, 3, 25), (25, .aload_n 0, 1, 26), (26, .iload_n 1, 1, 27), (27, .iload_n 2, 1, 28), (28, .invokevirtual 262, 3, 31), (31, .iconst (-1), 1, 32), (32, .if_icmp .ne 8, 3, 35), (35, .aload_n 0, 1, 36), (36, .getfield 108, 3, 39), (39, .ireturn, 1, 40), (40, .aload_n 0, 1, 41), (41, .aload_n 0, 1, 42), (42, .getfield 38, 3, 45), (45, .invokevirtual 183, 3, 48), (48, .aload_n 0, 1, 49), (49, .bipush (-6), 2, 51), (51, .invokevirtual 64, 3, 54), (54, .ireturn, 1, 55)]
theorem dk_X6_done : decOK cX6_done dl_X6_done = true := by decide +kernel
def dl_X6_theft : List DRow := [(0, .aload_n 0, 1, 1), (1, .iload_n 1, 1, 2), (2, .invokevirtual 251, 3, 5), (5, .istore_n 3, 1, 6), (6, .iload_n 3, 1, 7), (7, .ifCond .ge 9, 3, 10), (10, .aload_n 0, 1, 11), (11, .iload_n 3, 1, 12), (12, .invokevirtual 64, 3, 15), (15, .ireturn, 1, 16), (16, .iload_n 2, 1, 17), (17, .iconst 0, 1, 18), (18, .iconst 1, 1, 19), (19, .invokestatic 60, 3, 22), (22, .ifCond .ne 10, 3, 25), (25, .aload_n 0, 1, 26), (26, .bipush (-5), 2, 28), (28, .invokevirtual 64, 3, 31), (31, .ireturn, 1, 32), (32, .iconst 0, 1, 33), (33, .istore 4, 2, 35), (35, .iconst (-1), 1, 36), (36, .istore 5, 2, 38), (38, .iconst 0, 1, 39), (39, .istore 6, 2, 41), (41, .iload 6, 2, 43), (43, .aload_n 0, 1, 44), (44, .getfield 57, 3, 47), (47, .if_icmp .ge 217, 3, 50), (50, .iload 6, 2, 52), (52, .iconst 1, 1, 53), (53, .iadd, 1, 54), (54, .istore 7, 2, 56), (56, .iload 7, 2, 58), (58, .aload_n 0, 1, 59), (59, .getfield 57, 3, 62), (62, .if_icmp .ge 196, 3, 65), (65, .aload_n 0, 1, 66), (66, .getfield 26, 3, 69), (69, .bipush 8, 2, 71), (71, .iload 6, 2, 73), (73, .imul, 1, 74), (74, .iload 7, 2, 76), (76, .iadd, 1, 77), (77, .iaload, 1, 78), (78, .istore 8, 2, 80), (80, .iconst 0, 1, 81), (81, .istore 9, 2, 83), (83, .iconst 1, 1, 84), (84, .istore 10, 2, 86), (86, .iload 10, 2, 88), (88, .bipush 100, 2, 90), (90, .if_icmp .ge 117, 3, 93), (93, .iload 10, 2, 95), (95, .iload 8, 2, 97), (97, .if_icmp .ge 110, 3, 100), (100, .iload 9, 2, 102), (102, .ifCond .ne 105, 3, 105), (105, .aload_n 0, 1, 106), (106, .iload 6, 2, 108), (108, .iload 7, 2, 110), (110, .iload 8, 2, 112), (112, .iload 10, 2, 114), (114, .isub, 1, 115), (115, .invokevirtual 100, 3, 118), (118, .pop, 1, 119), (119, .aload_n 0, 1, 120), (120, .invokevirtual 206, 3, 123), (123, .iconst 1, 1, 124), (124, .istore 11, 2, 126), (126, .iconst 0, 1, 127), (127, .istore 12, 2, 129), (129, .iload 12, 2, 131), (131, .aload_n 0, 1, 132), (132, .getfield 57, 3, 135), (135, .if_icmp .ge 57, 3, 138), (138, .iload 12, 2, 140), (140, .iconst 1, 1, 141), (141, .iadd, 1, 142), (142, .istore 13, 2, 144), (144, .iload 13, 2, 146), (146, .aload_n 0, 1, 147), (147, .getfield 57, 3, 150), (150, .if_icmp .ge 36, 3, 153), (153, .aload_n 0, 1, 154), (154, .iload 12, 2, 156), (156, .iload 13, 2, 158), (158, .invokevirtual 209, 3, 161), (161, .aload_n 0, 1, 162), (162, .iload_n 1, 1, 163), (163, .aload_n 0, 1, 164), (164, .iload 12, 2, 166), (166, .iload 13, 2, 168), (168, .invokevirtual 254, 3, 171), (171, .invokevirtual 235, 3, 174), (174, .if_icmp .eq 6, 3, 177), (177, .iconst 0, 1, 178), (178, .istore 11, 2, 180), (180, .iinc 13 1, 3, 183), (183, .goto (-39), 3, 186), (186, .iinc 12 1, 3, 189), (189, .goto (-60), 3, 192), (192, .iload 11, 2, 194), (194, .ifCond .eq 7, 3, 197), (197, .iload 10, 2, 199), (199, .istore 9, 2, 201), (201, .iinc 10 1, 3, 204), (204, .goto (-118), 3, 207), (207, .aload_n 0, 1, 208), (208, .iload 6, 2, 210), (210, .iload 7, 2, 212), (212, .iload 8, 2, 214), (214, .invokevirtual 100, 3, 217), (217, .pop, 1, 218), (218, .iload 9, 2, 220), (220, .ifCond .ne 6, 3, 223), (223, .goto 29, 3, 226), (226, .iinc 4 1, 3, 229), (229, .iload 5, 2, 231), (231, .iconst (-1), 1, 232), (232, .if_icmp .ne 20, 3, 235), (235, .sipush 10000, 3, 238), (238, .iload 6, 2, 240), (240, .imul, 1, 241), (241, .bipush 100, 2, 243), (243, .iload 7, 2, 245), (245, .imul, 1, 246), (246, .iadd, 1, 247), (247, .iload 9, 2, 249), (249, .iadd, 1, 250), (250, .istore 5, 2, 252), (252, .iinc 7 1, 3, 255), (255, .goto (-199), 3, 258), (258, .iinc 6 1, 3, 261), (261, .goto (-220), 3, 264), (264, .iload_n 2, 1, 265), (265, .ifCond .ne 8, 3, 268), (268, .iload 4, 2, 270), (270, .goto 20, 3, 273), (273, .iload 5, 2, 275), (275, .iconst (-1), 1, 276), (276, .if_icmp .ne 12, 3, 279), (279, .aload_n 0, 1, 280), (280, .bipush (-5), 2, 282), (282, .invokevirtual 64, 3, 285), (285, .goto 5, 3, 288), (288, .iload 5, 2, 290), (290, .ireturn, 1, 291)]
theorem dk_X6_theft : decOK cX6_theft dl_X6_theft = true := by decide +kernel
def dl_X6_mill : List DRow := [(0, .aload_n 0, 1, 1), (1, .iload_n 1, 1, 2), (2, .invokevirtual 75, 3, 5), (5, .ifCond .eq 11, 3, 8), (8, .aload_n 0, 1, 9), (9, .iload_n 2, 1, 10), (10, .invokevirtual 75, 3, 13), (13, .ifCond .ne 9, 3, 16), (16, .aload_n 0, 1, 17), (17, .iconst (-1), 1, 18), (18, .invokevirtual 64, 3, 21), (21, .ireturn, 1, 22), (22, .aload_n 0, 1, 23), (23, .iload_n 1, 1, 24), (24, .iload_n 2, 1, 25), (25, .invokevirtual 194, 3, 28), (28, .ifCond .eq 10, 3, 31), (31, .aload_n 0, 1, 32), (32, .bipush (-6), 2, 34), (34, .invokevirtual 64, 3, 37), (37, .ireturn, 1, 38), (38, .aload_n 0, 1, 39), (39, .iload_n 1, 1, 40), (40, .iload_n 2, 1, 41), (41, .invokevirtual 157, 3, 44), (44, .aload_n 0, 1, 45), (45, .getfield 108, 3, 48), (48, .ireturn, 1, 49)]
theorem dk_X6_mill : decOK cX6_mill dl_X6_mill = true := by decide +kernel
def dl_X6_spread : List DRow := [(0, .aload_n 0, 1, 1), (1, .iload_n 1, 1, 2), (2, .invokevirtual 75, 3, 5), (5, .ifCond .eq 11, 3, 8), (8, .aload_n 0, 1, 9), (9, .iload_n 2, 1, 10), (10, .invokevirtual 75, 3, 13), (13, .ifCond .ne 9, 3, 16), (16, .aload_n 0, 1, 17), (17, .iconst (-1), 1, 18), (18, .invokevirtual 64, 3, 21), (21, .ireturn, 1, 22), (22, .aload_n 0, 1, 23), (23, .iload_n 1, 1, 24), (24, .iload_n 2, 1, 25), (25, .iload_n 3, 1, 26), (26, .invokevirtual 167, 3, 29), (29, .ifCond .ne 10, 3, 32), (32, .aload_n 0, 1, 33), (33, .bipush (-6), 2, 35), (35, .invokevirtual 64, 3, 38), (38, .ireturn, 1, 39), (39, .aload_n 0, 1, 40), (40, .iload_n 1, 1, 41), (41, .iload_n 2, 1, 42), (42, .iload_n 3, 1, 43), (43, .invokevirtual 170, 3, 46), (46, .aload_n 0, 1, 47), (47, .getfield 26, 3, 50), (50, .bipush 8, 2, 52), (52, .iload_n 1, 1, 53), (53, .imul, 1, 54), (54, .iload_n 2, 1, 55), (55, .iadd, 1, 56), (56, .iaload, 1, 57), (57, .ireturn, 1, 58)]
theorem dk_X6_spread : decOK cX6_spread dl_X6_spread = true := by decide +kernel
def dl_X6_draw : List DRow := [(0, .aload_n 0, 1, 1), (1, .aload_n 0, 1, 2), (2, .getfield 50, 3, 5), (5, .ldc_w 265, 3, 8), (8, .imul, 1, 9), (9, .sipush 12345, 3, 12), (12, .iadd, 1, 13), (13, .putfield 50, 3, 16), (16, .aload_n 0, 1, 17), (17, .getfield 50, 3, 20), (20, .bipush 16, 2, 22), (22, .iushr, 1, 23), (23, .iload_n 1, 1, 24), (24, .irem, 1, 25), (25, .ireturn, 1, 26)]
theorem dk_X6_draw : decOK cX6_draw dl_X6_draw = true := by decide +kernel
def dl_X6_gale : List DRow := [(0, .aload_n 0, 1, 1), (1, .getfield 57, 3, 4), (4, .ifCond .ne 10, 3, 7), (7, .aload_n 0, 1, 8), (8, .bipush (-5), 2, 10), (10, .invokevirtual 64, 3, 13), (13, .ireturn, 1, 14), (14, .iload_n 1, 1, 15), (15, .iconst 1, 1, 16), (16, .bipush 60, 2, 18), (18, .invokestatic 60, 3, 21), (21, .ifCond .ne 10, 3, 24), (24, .aload_n 0, 1, 25), (25, .bipush (-6), 2, 27), (27, .invokevirtual 64, 3, 30), (30, .ireturn, 1, 31), (31, .iconst 0, 1, 32), (32, .istore_n 2, 1, 33), (33, .iconst 0, 1, 34), (34, .istore_n 3, 1, 35), (35, .iload_n 3, 1, 36), (36, .iload_n 1, 1, 37), (37, .if_icmp .ge 124, 3, 40), (40, .aload_n 0, 1, 41), (41, .aload_n 0, 1, 42), (42, .getfield 57, 3, 45), (45, .invokevirtual 266, 3, 48), (48, .istore 4, 2, 50), (50, .aload_n 0, 1, 51), (51, .aload_n 0, 1, 52), (52, .getfield 57, 3, 55), (55, .invokevirtual 266, 3, 58), (58, .istore 5, 2, 60), (60, .aload_n 0, 1, 61), (61, .iload 4, 2, 63), (63, .iload 5, 2, 65), (65, .invokevirtual 194, 3, 68), (68, .ifCond .eq 6, 3, 71), (71, .goto 84, 3, 74), (74, .aload_n 0, 1, 75), (75, .aload_n 0, 1, 76), (76, .getfield 111, 3, 79), (79, .iconst 1, 1, 80), (80, .iadd, 1, 81), (81, .invokevirtual 266, 3, 84), (84, .istore 6, 2, 86), (86, .aload_n 0, 1, 87), (87, .getfield 26, 3, 90), (90, .bipush 8, 2, 92), (92, .iload 4, 2, 94), (94, .imul, 1, 95), (95, .iload 5, 2, 97), (97, .iadd, 1, 98), (98, .iaload, 1, 99), (99, .istore 7, 2, 101), (101, .aload_n 0, 1, 102), (102, .iload 4, 2, 104), (104, .iload 5, 2, 106), (106, .sipush 999, 3, 109), (109, .iload 7, 2, 111), (111, .iload 6, 2, 113), (113, .iadd, 1, 114), (114, .invokestatic 200, 3, 117), (117, .invokevirtual 100, 3, 120), (120, .pop, 1, 121), (121, .aload_n 0, 1, 122), (122, .iconst 0, 1, 123), (123, .aload_n 0, 1, 124), (124, .getfield 108, 3, 127), (127, .iload 6, 2, 129), (129, .isub, 1, 130), (130, .invokestatic 186, 3, 133), (133, .putfield 108, 3, 136), (136, .iload_n 2, 1, 137), (137, .aload_n 0, 1, 138), (138, .getfield 26, 3, 141), (141, .bipush 8, 2, 143), (143, .iload 4, 2, 145), (145, .imul, 1, 146), (146, .iload 5, 2, 148), (148, .iadd, 1, 149), (149, .iaload, 1, 150), (150, .iload 7, 2, 152), (152, .isub, 1, 153), (153, .iadd, 1, 154), (154, .istore_n 2, 1, 155), (155, .iinc 3 1, 3, 158), (158, .goto (-123), 3, 161), (161, .iload_n 2, 1, 162), (162, .ireturn, 1, 163)]
theorem dk_X6_gale : decOK cX6_gale dl_X6_gale = true := by decide +kernel
def dl_X6_seed : List DRow := [(0, .aload_n 0, 1, 1), (1, .getfield 50, 3, 4), (4, .istore_n 2, 1, 5), (5, .aload_n 0, 1, 6), (6, .iload_n 1, 1, 7), (7, .putfield 50, 3, 10), (10, .iload_n 2, 1, 11), (11, .ireturn, 1, 12)]
theorem dk_X6_seed : decOK cX6_seed dl_X6_seed = true := by decide +kernel
def dl_X6_ran : List DRow := [(0, .aload_n 0, 1, 1), (1, .getfield 269, 3, 4), (4, .bipush 20, 2, 6), (6, .if_icmp .ge 13, 3, 9), (9, .aload_n 0, 1, 10), (10, .getfield 32, 3, 13), (13, .aload_n 0, 1, 14), (14, .getfield 269, 3, 17), (17, .iload_n 1, 1, 18), (18, .iastore, 1, 19), (19, .aload_n 0, 1, 20), (20, .dup, 1, 21), (21, .getfield 269, 3, 24), (24, .iconst 1, 1, 25), (25, .iadd, 1, 26), (26, .putfield 269, 3, 29), (29, .return_, 1, 30)]
theorem dk_X6_ran : decOK cX6_ran dl_X6_ran = true := by decide +kernel
def dl_X6_grinds : List DRow := [(0, .aload_n 0, 1, 1), (1, .getfield 20, 3, 4), (4, .iload_n 1, 1, 5), (5, .iaload, 1, 6), (6, .istore_n 3, 1, 7), (7, .iload_n 3, 1, 8), (8, .bipush 6, 2, 10), (10, .if_icmp .ne 9, 3, 13), (13, .aload_n 0, 1, 14), (14, .bipush 70, 2, 16), (16, .invokevirtual 272, 3, 19), (19, .iload_n 3, 1, 20), (20, .iconst 4, 1, 21), (21, .if_icmp .eq 9, 3, 24), (24, .iload_n 3, 1, 25), (25, .bipush 6, 2, 27), (27, .if_icmp .ne 9, 3, 30), (30, .aload_n 0, 1, 31), (31, .bipush 51, 2, 33), (33, .invokevirtual 272, 3, 36), (36, .iload_n 3, 1, 37), (37, .iconst 1, 1, 38), (38, .if_icmp .eq 8, 3, 41), (41, .iload_n 3, 1, 42), (42, .iconst 3, 1, 43), (43, .if_icmp .ne 9, 3, 46), (46, .aload_n 0, 1, 47), (47, .bipush 20, 2, 49), (49, .invokevirtual 272, 3, 52), (52, .aload_n 0, 1, 53), (53, .bipush 10, 2, 55), (55, .invokevirtual 272, 3, 58), (58, .iload_n 2, 1, 59), (59, .iload_n 1, 1, 60), (60, .iadd, 1, 61), (61, .istore 4, 2, 63), (63, .iload_n 3, 1, 64), (64, .iconst 1, 1, 65), (65, .if_icmp .eq 8, 3, 68), (68, .iload_n 3, 1, 69), (69, .iconst 3, 1, 70), (70, .if_icmp .ne 13, 3, 73), (73, .iload 4, 2, 75), (75, .aload_n 0, 1, 76), (76, .getfield 23, 3, 79), (79, .iload_n 1, 1, 80), (80, .iaload, 1, 81), (81, .iadd, 1, 82), (82, .ireturn, 1, 83), (83, .iload_n 3, 1, 84), (84, .iconst 4, 1, 85), (85, .if_icmp .ne 10, 3, 88), (88, .iload 4, 2, 90), (90, .iload_n 1, 1, 91), (91, .isub, 1, 92), (92, .goto 20, 3, 95), (95, .iload_n 3, 1, 96), (96, .bipush 6, 2, 98), (98, .if_icmp .ne 12, 3, 101), (101, .iload 4, 2, 103), (103, .iload_n 1, 1, 104), (104, .isub, 1, 105), (105, .iconst 2, 1, 106), (106, .imul, 1, 107), (107, .goto 5, 3, 110), (110, .iload 4, 2, 112), (112, .ireturn, 1, 113)]
theorem dk_X6_grinds : decOK cX6_grinds dl_X6_grinds = true := by decide +kernel
def dl_X6_strews : List DRow := [(0, .aload_n 0, 1, 1), (1, .getfield 20, 3, 4), (4, .iload_n 1, 1, 5), (5, .iaload, 1, 6), (6, .istore_n 3, 1, 7), (7, .iload_n 2, 1, 8), (8, .istore 4, 2, 10), (10, .iload_n 3, 1, 11), (11, .bipush 6, 2, 13), (13, .if_icmp .ne 19, 3, 16), (16, .aload_n 0, 1, 17), (17, .bipush 71, 2, 19), (19, .invokevirtual 272, 3, 22), (22, .iload_n 2, 1, 23), (23, .aload_n 0, 1, 24), (24, .getfield 23, 3, 27), (27, .iload_n 1, 1, 28), (28, .iaload, 1, 29), (29, .isub, 1, 30), (30, .istore 4, 2, 32), (32, .iload_n 3, 1, 33), (33, .iconst 3, 1, 34), (34, .if_icmp .ne 14, 3, 37), (37, .aload_n 0, 1, 38), (38, .bipush 40, 2, 40), (40, .invokevirtual 272, 3, 43), (43, .iload_n 2, 1, 44), (44, .iconst 1, 1, 45), (45, .iadd, 1, 46), (46, .istore 4, 2, 48), (48, .iload_n 3, 1, 49), (49, .iconst 2, 1, 50), (50, .if_icmp .eq 8, 3, 53), (53, .iload_n 3, 1, 54), (54, .iconst 5, 1, 55), (55, .if_icmp .ne 9, 3, 58), (58, .aload_n 0, 1, 59), (59, .bipush 30, 2, 61), (61, .invokevirtual 272, 3, 64), (64, .aload_n 0, 1, 65), (65, .bipush 11, 2, 67), (67, .invokevirtual 272, 3, 70), (70, .aload_n 0, 1, 71), (71, .iload_n 1, 1, 72), (72, .iload 4, 2, 74), (74, .invokevirtual 276, 3, 77), (77, .iconst 2, 1, 78), (78, .imul, 1, 79), (79, .istore 5, 2, 81), (81, .iload_n 3, 1, 82), (82, .iconst 2, 1, 83), (83, .if_icmp .eq 8, 3, 86), (86, .iload_n 3, 1, 87), (87, .iconst 5, 1, 88), (88, .if_icmp .ne 10, 3, 91), (91, .iload 5, 2, 93), (93, .iconst 3, 1, 94), (94, .imul, 1, 95), (95, .goto 5, 3, 98), (98, .iload 5, 2, 100), (100, .ireturn, 1, 101)]
theorem dk_X6_strews : decOK cX6_strews dl_X6_strews = true := by decide +kernel
def dl_X6_blows : List DRow := [(0, .aload_n 0, 1, 1), (1, .getfield 20, 3, 4), (4, .iload_n 1, 1, 5), (5, .iaload, 1, 6), (6, .istore_n 3, 1, 7), (7, .iload_n 3, 1, 8), (8, .iconst 4, 1, 9), (9, .if_icmp .eq 9, 3, 12), (12, .iload_n 3, 1, 13), (13, .bipush 6, 2, 15), (15, .if_icmp .ne 9, 3, 18), (18, .aload_n 0, 1, 19), (19, .bipush 50, 2, 21), (21, .invokevirtual 272, 3, 24), (24, .iload_n 3, 1, 25), (25, .iconst 5, 1, 26), (26, .if_icmp .ne 9, 3, 29), (29, .aload_n 0, 1, 30), (30, .bipush 60, 2, 32), (32, .invokevirtual 272, 3, 35), (35, .aload_n 0, 1, 36), (36, .bipush 12, 2, 38), (38, .invokevirtual 272, 3, 41), (41, .aload_n 0, 1, 42), (42, .iload_n 1, 1, 43), (43, .iload_n 2, 1, 44), (44, .invokevirtual 279, 3, 47), (47, .istore 4, 2, 49), (49, .iload 4, 2, 51), (51, .aload_n 0, 1, 52), (52, .iload_n 1, 1, 53), (53, .iload_n 2, 1, 54), (54, .aload_n 0, 1, 55), (55, .getfield 23, 3, 58), (58, .iload_n 1, 1, 59), (59, .iaload, 1, 60), (60, .isub, 1, 61), (61, .invokevirtual 276, 3, 64), (64, .ixor, 1, 65), (65, .istore 5, 2, 67), (67, .iload_n 3, 1, 68), (68, .iconst 4, 1, 69), (69, .if_icmp .eq 9, 3, 72), (72, .iload_n 3, 1, 73), (73, .bipush 6, 2, 75), (75, .if_icmp .ne 9, 3, 78), (78, .iload 5, 2, 80), (80, .ineg, 1, 81), (81, .goto 17, 3, 84), (84, .iload_n 3, 1, 85), (85, .iconst 5, 1, 86), (86, .if_icmp .ne 10, 3, 89), (89, .iload 5, 2, 91), (91, .iconst 5, 1, 92), (92, .ixor, 1, 93), (93, .goto 5, 3, 96), (96, .iload 5, 2, 98), (98, .ireturn, 1, 99)]
theorem dk_X6_blows : decOK cX6_blows dl_X6_blows = true := by decide +kernel
def dl_X6_act : List DRow := [(0, .aload_n 0, 1, 1), (1, .iconst 0, 1, 2), (2, .putfield 269, 3, 5), (5, .aload_n 0, 1, 6), (6, .iload_n 1, 1, 7), (7, .invokevirtual 75, 3, 10), (10, .ifCond .eq 12, 3, 13), (13, .iload_n 2, 1, 14), (14, .iconst 0, 1, 15), (15, .iconst 2, 1, 16), (16, .invokestatic 60, 3, 19), (19, .ifCond .ne 5, 3, 22), (22, .iconst 0, 1, 23), (23, .ireturn, 1, 24), (24, .iload_n 2, 1, 25), (25, .ifCond .ne 12, 3, 28), (28, .aload_n 0, 1, 29), (29, .iload_n 1, 1, 30), (30, .iload_n 3, 1, 31), (31, .invokevirtual 276, 3, 34), (34, .goto 23, 3, 37), (37, .iload_n 2, 1, 38), (38, .iconst 1, 1, 39), (39, .if_icmp .ne 12, 3, 42), (42, .aload_n 0, 1, 43), (43, .iload_n 1, 1, 44), (44, .iload_n 3, 1, 45), (45, .invokevirtual 279, 3, 48), (48, .goto 9, 3, 51), (51, .aload_n 0, 1, 52), (52, .iload_n 1, 1, 53), (53, .iload_n 3, 1, 54), (54, .invokevirtual 282, 3, 57), (57, .ireturn, 1, 58)]
theorem dk_X6_act : decOK cX6_act dl_X6_act = true := by decide +kernel
def dl_X6_trace : List DRow := [(0, .iload_n 1, 1, 1), (1, .ifCond .lt 26, 3, 4), (4, .iload_n 1, 1, 5), (5, .aload_n 0, 1, 6), (6, .getfield 269, 3, 9), (9, .if_icmp .ge 18, 3, 12), (12, .iload_n 1, 1, 13), (13, .bipush 20, 2, 15), (15, .if_icmp .ge 12, 3, 18), (18, .aload_n 0, 1, 19), (19, .getfield 32, 3, 22), (22, .iload_n 1, 1, 23), (23, .iaload, 1, 24), (24, .goto 4, 3, 27), (27, .iconst (-1), 1, 28), (28, .ireturn, 1, 29)]
theorem dk_X6_trace : decOK cX6_trace dl_X6_trace = true := by decide +kernel
def dl_X6_keep : List DRow := [(0, .iconst 0, 1, 1), (1, .istore_n 2, 1, 2), (2, .iload_n 2, 1, 3), (3, .bipush 8, 2, 5), (5, .if_icmp .ge 30, 3, 8), (8, .aload_n 1, 1, 9), (9, .iload_n 2, 1, 10), (10, .aload_n 0, 1, 11), (11, .getfield 20, 3, 14), (14, .iload_n 2, 1, 15), (15, .iaload, 1, 16), (16, .iastore, 1, 17), (17, .aload_n 1, 1, 18), (18, .bipush 8, 2, 20), (20, .iload_n 2, 1, 21), (21, .iadd, 1, 22), (22, .aload_n 0, 1, 23), (23, .getfield 23, 3, 26), (26, .iload_n 2, 1, 27), (27, .iaload, 1, 28), (28, .iastore, 1, 29), (29, .iinc 2 1, 3, 32), (32, .goto (-30), 3, 35), (35, .iconst 0, 1, 36), (36, .istore_n 2, 1, 37), (37, .iload_n 2, 1, 38), (38, .bipush 64, 2, 40), (40, .if_icmp .ge 21, 3, 43), (43, .aload_n 1, 1, 44), (44, .bipush 16, 2, 46), (46, .iload_n 2, 1, 47), (47, .iadd, 1, 48), (48, .aload_n 0, 1, 49), (49, .getfield 26, 3, 52), (52, .iload_n 2, 1, 53), (53, .iaload, 1, 54), (54, .iastore, 1, 55), (55, .iinc 2 1, 3, 58), (58, .goto (-21), 3, 61), (61, .aload_n 1, 1, 62), (62, .bipush 80, 2, 64), (64, .aload_n 0, 1, 65), (65, .getfield 57, 3, 68), (68, .iastore, 1, 69), (69, .aload_n 1, 1, 70), (70, .bipush 81, 2, 72), (72, .aload_n 0, 1, 73), (73, .getfield 108, 3, 76), (76, .iastore, 1, 77), (77, .aload_n 1, 1, 78), (78, .bipush 82, 2, 80), (80, .aload_n 0, 1, 81), (81, .getfield 111, 3, 84), (84, .iastore, 1, 85), (85, .aload_n 1, 1, 86), (86, .bipush 83, 2, 88), (88, .aload_n 0, 1, 89), (89, .getfield 50, 3, 92), (92, .iastore, 1, 93), (93, .return_, 1, 94)]
theorem dk_X6_keep : decOK cX6_keep dl_X6_keep = true := by decide +kernel
def dl_X6_again : List DRow := [(0, .iconst 0, 1, 1), (1, .istore_n 2, 1, 2), (2, .iload_n 2, 1, 3), (3, .bipush 8, 2, 5), (5, .if_icmp .ge 30, 3, 8), (8, .aload_n 0, 1, 9), (9, .getfield 20, 3, 12), (12, .iload_n 2, 1, 13), (13, .aload_n 1, 1, 14), (14, .iload_n 2, 1, 15), (15, .iaload, 1, 16), (16, .iastore, 1, 17), (17, .aload_n 0, 1, 18), (18, .getfield 23, 3, 21), (21, .iload_n 2, 1, 22), (22, .aload_n 1, 1, 23), (23, .bipush 8, 2, 25), (25, .iload_n 2, 1, 26), (26, .iadd, 1, 27), (27, .iaload, 1, 28), (28, .iastore, 1, 29), (29, .iinc 2 1, 3, 32), (32, .goto (-30), 3, 35), (35, .iconst 0, 1, 36), (36, .istore_n 2, 1, 37), (37, .iload_n 2, 1, 38), (38, .bipush 64, 2, 40), (40, .if_icmp .ge 21, 3, 43), (43, .aload_n 0, 1, 44), (44, .getfield 26, 3, 47), (47, .iload_n 2, 1, 48), (48, .aload_n 1, 1, 49), (49, .bipush 16, 2, 51), (51, .iload_n 2, 1, 52), (52, .iadd, 1, 53), (53, .iaload, 1, 54), (54, .iastore, 1, 55), (55, .iinc 2 1, 3, 58), (58, .goto (-21), 3, 61), (61, .aload_n 0, 1, 62), (62, .aload_n 1, 1, 63), (63, .bipush 80, 2, 65), (65, .iaload, 1, 66), (66, .putfield 57, 3, 69), (69, .aload_n 0, 1, 70), (70, .aload_n 1, 1, 71), (71, .bipush 81, 2, 73), (73, .iaload, 1, 74), (74, .putfield 108, 3, 77), (77, .aload_n 0, 1, 78), (78, .aload_n 1, 1, 79), (79, .bipush 82, 2, 81), (81, .iaload, 1, 82), (82, .putfield 111, 3, 85), (85, .aload_n 0, 1, 86), (86, .aload_n 1, 1, 87), (87, .bipush 83, 2, 89), (89, .iaload, 1, 90), (90, .putfield 50, 3, 93), (93, .return_, 1, 94)]
theorem dk_X6_again : decOK cX6_again dl_X6_again = true := by decide +kernel
def dl_X6_image : List DRow := [(0, .aload_n 0, 1, 1), (1, .iconst 1, 1, 2), (2, .putfield 285, 3, 5), (5, .aload_n 0, 1, 6), (6, .aload_n 0, 1, 7), (7, .getfield 35, 3, 10), (10, .invokevirtual 175, 3, 13), (13, .aload_n 0, 1, 14), (14, .getfield 57, 3, 17), (17, .ireturn, 1, 18)]
theorem dk_X6_image : decOK cX6_image dl_X6_image = true := by decide +kernel
def dl_X6_restore : List DRow := [(0, .aload_n 0, 1, 1), (1, .getfield 285, 3, 4), (4, .ifCond .ne 10, 3, 7), (7, .aload_n 0, 1, 8), (8, .bipush (-6), 2, 10), (10, .invokevirtual 64, 3, 13), (13, .ireturn, 1, 14), (14, .aload_n 0, 1, 15), (15, .aload_n 0, 1, 16), (16, .getfield 35, 3, 19), (19, .invokevirtual 183, 3, 22), (22, .iconst 0, 1, 23), (23, .istore_n 1, 1, 24), (24, .iload_n 1, 1, 25), (25, .bipush 8, 2, 27), (27, .if_icmp .ge 37, 3, 30), (30, .aload_n 0, 1, 31), (31, .iload_n 1, 1, 32), (32, .invokevirtual 68, 3, 35), (35, .ifCond .ne 23, 3, 38), (38, .aload_n 0, 1, 39), (39, .getfield 7, 3, 42), (42, .iload_n 1, 1, 43), (43, .iaload, 1, 44), (44, .aload_n 0, 1, 45), (45, .getfield 57, 3, 48), (48, .if_icmp .lt 10, 3, 51), (51, .aload_n 0, 1, 52), (52, .getfield 7, 3, 55), (55, .iload_n 1, 1, 56), (56, .iconst (-1), 1, 57), (57, .iastore, 1, 58), (58, .iinc 1 1, 3, 61), (61, .goto (-37), 3, 64), (64, .aload_n 0, 1, 65), (65, .getfield 57, 3, 68), (68, .ireturn, 1, 69)]
theorem dk_X6_restore : decOK cX6_restore dl_X6_restore = true := by decide +kernel
def dl_X6_status : List DRow := [(0, .iconst 0, 1, 1), (1, .istore_n 2, 1, 2), (2, .iload_n 1, 1, 3), (3, .tableswitch 123 0 6 #[41, 46, 76, 103, 108, 113, 118], 41, 44), (44, .aload_n 0, 1, 45), (45, .getfield 57, 3, 48), (48, .ireturn, 1, 49), (49, .iconst 0, 1, 50), (50, .istore_n 3, 1, 51), (51, .iload_n 3, 1, 52), (52, .bipush 64, 2, 54), (54, .if_icmp .ge 21, 3, 57), (57, .aload_n 0, 1, 58), (58, .getfield 26, 3, 61), (61, .iload_n 3, 1, 62), (62, .iaload, 1, 63), (63, .ifCond .le 6, 3, 66), (66, .iinc 2 1, 3, 69), (69, .iinc 3 1, 3, 72), (72, .goto (-21), 3, 75), (75, .iload_n 2, 1, 76), (76, .iconst 2, 1, 77), (77, .idiv, 1, 78), (78, .ireturn, 1, 79), (79, .iconst 0, 1, 80), (80, .istore_n 3, 1, 81), (81, .iload_n 3, 1, 82), (82, .bipush 64, 2, 84), (84, .if_icmp .ge 18, 3, 87), (87, .iload_n 2, 1, 88), (88, .aload_n 0, 1, 89), (89, .getfield 26, 3, 92), (92, .iload_n 3, 1, 93), (93, .iaload, 1, 94), (94, .iadd, 1, 95), (95, .istore_n 2, 1, 96), (96, .iinc 3 1, 3, 99), (99, .goto (-18), 3, 102), (102, .iload_n 2, 1, 103), (103, .iconst 2, 1, 104), (104, .idiv, 1, 105), (105, .ireturn, 1, 106), (106, .aload_n 0, 1, 107), (107, .getfield 108, 3, 110), (110, .ireturn, 1, 111), (111, .aload_n 0, 1, 112), (112, .getfield 111, 3, 115), (115, .ireturn, 1, 116), (116, .aload_n 0, 1, 117), (117, .getfield 50, 3, 120), (120, .ireturn, 1, 121), (121, .aload_n 0, 1, 122), (122, .getfield 269, 3, 125), (125, .ireturn, 1, 126), (126, .iload_n 1, 1, 127), (127, .bipush 11, 2, 129), (129, .bipush 17, 2, 131), (131, .invokestatic 60, 3, 134), (134, .ifCond .eq 15, 3, 137), (137, .aload_n 0, 1, 138), (138, .getfield 29, 3, 141), (141, .iload_n 1, 1, 142), (142, .bipush 10, 2, 144), (144, .isub, 1, 145), (145, .iaload, 1, 146), (146, .goto 4, 3, 149), (149, .iconst (-1), 1, 150), (150, .ireturn, 1, 151)]
theorem dk_X6_status : decOK cX6_status dl_X6_status = true := by decide +kernel
def dl_J6_numberOfTrailingZeros_0f7a4 : List DRow := [(0, .iload_n 0, 1, 1), (1, .iconst (-1), 1, 2), (2, .ixor, 1, 3), (3, .iload_n 0, 1, 4), (4, .iconst 1, 1, 5), (5, .isub, 1, 6), (6, .iand, 1, 7), (7, .istore_n 0, 1, 8), (8, .iload_n 0, 1, 9), (9, .ifCond .gt 8, 3, 12), (12, .iload_n 0, 1, 13), (13, .bipush 32, 2, 15), (15, .iand, 1, 16), (16, .ireturn, 1, 17), (17, .iconst 1, 1, 18), (18, .istore_n 1, 1, 19), (19, .iload_n 0, 1, 20), (20, .ldc_w 264, 3, 23), (23, .if_icmp .le 11, 3, 26), (26, .iinc 1 16, 3, 29), (29, .iload_n 0, 1, 30), (30, .bipush 16, 2, 32), (32, .iushr, 1, 33), (33, .istore_n 0, 1, 34), (34, .iload_n 0, 1, 35), (35, .sipush 256, 3, 38), (38, .if_icmp .le 11, 3, 41), (41, .iinc 1 8, 3, 44), (44, .iload_n 0, 1, 45), (45, .bipush 8, 2, 47), (47, .iushr, 1, 48), (48, .istore_n 0, 1, 49), (49, .iload_n 0, 1, 50), (50, .bipush 16, 2, 52), (52, .if_icmp .le 10, 3, 55), (55, .iinc 1 4, 3, 58), (58, .iload_n 0, 1, 59), (59, .iconst 4, 1, 60), (60, .iushr, 1, 61), (61, .istore_n 0, 1, 62), (62, .iload_n 0, 1, 63), (63, .iconst 4, 1, 64), (64, .if_icmp .le 10, 3, 67), (67, .iinc 1 2, 3, 70), (70, .iload_n 0, 1, 71), (71, .iconst 2, 1, 72), (72, .iushr, 1, 73), (73, .istore_n 0, 1, 74), (74, .iload_n 1, 1, 75), (75, .iload_n 0, 1, 76), (76, .iconst 1, 1, 77), (77, .iushr, 1, 78), (78, .iadd, 1, 79), (79, .ireturn, 1, 80)]
theorem dk_J6_numberOfTrailingZeros_0f7a4 : decOK cJ6_numberOfTrailingZeros_0f7a4 dl_J6_numberOfTrailingZeros_0f7a4 = true := by decide +kernel
def dl_J6_bitCount_0f7a4 : List DRow := [(0, .iload_n 0, 1, 1), (1, .iload_n 0, 1, 2), (2, .iconst 1, 1, 3), (3, .iushr, 1, 4), (4, .ldc_w 265, 3, 7), (7, .iand, 1, 8), (8, .isub, 1, 9), (9, .istore_n 0, 1, 10), (10, .iload_n 0, 1, 11), (11, .ldc_w 266, 3, 14), (14, .iand, 1, 15), (15, .iload_n 0, 1, 16), (16, .iconst 2, 1, 17), (17, .iushr, 1, 18), (18, .ldc_w 266, 3, 21), (21, .iand, 1, 22), (22, .iadd, 1, 23), (23, .istore_n 0, 1, 24), (24, .iload_n 0, 1, 25), (25, .iload_n 0, 1, 26), (26, .iconst 4, 1, 27), (27, .iushr, 1, 28), (28, .iadd, 1, 29), (29, .ldc_w 267, 3, 32), (32, .iand, 1, 33), (33, .istore_n 0, 1, 34), (34, .iload_n 0, 1, 35), (35, .iload_n 0, 1, 36), (36, .bipush 8, 2, 38), (38, .iushr, 1, 39), (39, .iadd, 1, 40), (40, .istore_n 0, 1, 41), (41, .iload_n 0, 1, 42), (42, .iload_n 0, 1, 43), (43, .bipush 16, 2, 45), (45, .iushr, 1, 46), (46, .iadd, 1, 47), (47, .istore_n 0, 1, 48), (48, .iload_n 0, 1, 49), (49, .bipush 63, 2, 51), (51, .iand, 1, 52), (52, .ireturn, 1, 53)]
theorem dk_J6_bitCount_0f7a4 : decOK cJ6_bitCount_0f7a4 dl_J6_bitCount_0f7a4 = true := by decide +kernel
def dl_J9_abs_0f7a4 : List DRow := [(0, .iload_n 0, 1, 1), (1, .ifCond .ge 8, 3, 4), (4, .iload_n 0, 1, 5), (5, .ineg, 1, 6), (6, .goto 4, 3, 9), (9, .iload_n 0, 1, 10), (10, .ireturn, 1, 11)]
theorem dk_J9_abs_0f7a4 : decOK cJ9_abs_0f7a4 dl_J9_abs_0f7a4 = true := by decide +kernel
def dl_J9_max_7cf53 : List DRow := [(0, .iload_n 0, 1, 1), (1, .iload_n 1, 1, 2), (2, .if_icmp .lt 7, 3, 5), (5, .iload_n 0, 1, 6), (6, .goto 4, 3, 9), (9, .iload_n 1, 1, 10), (10, .ireturn, 1, 11)]
theorem dk_J9_max_7cf53 : decOK cJ9_max_7cf53 dl_J9_max_7cf53 = true := by decide +kernel
def dl_J9_max_f86c9 : List DRow := [(0, .lload_n 0, 1, 1), (1, .lload_n 2, 1, 2), (2, .lcmp, 1, 3), (3, .ifCond .lt 7, 3, 6), (6, .lload_n 0, 1, 7), (7, .goto 4, 3, 10), (10, .lload_n 2, 1, 11), (11, .lreturn, 1, 12)]
theorem dk_J9_max_f86c9 : decOK cJ9_max_f86c9 dl_J9_max_f86c9 = true := by decide +kernel
def dl_J9_min_7cf53 : List DRow := [(0, .iload_n 0, 1, 1), (1, .iload_n 1, 1, 2), (2, .if_icmp .gt 7, 3, 5), (5, .iload_n 0, 1, 6), (6, .goto 4, 3, 9), (9, .iload_n 1, 1, 10), (10, .ireturn, 1, 11)]
theorem dk_J9_min_7cf53 : decOK cJ9_min_7cf53 dl_J9_min_7cf53 = true := by decide +kernel
def dl_J9_min_f86c9 : List DRow := [(0, .lload_n 0, 1, 1), (1, .lload_n 2, 1, 2), (2, .lcmp, 1, 3), (3, .ifCond .gt 7, 3, 6), (6, .lload_n 0, 1, 7), (7, .goto 4, 3, 10), (10, .lload_n 2, 1, 11), (11, .lreturn, 1, 12)]
theorem dk_J9_min_f86c9 : decOK cJ9_min_f86c9 dl_J9_min_f86c9 = true := by decide +kernel
def dl_J0_length_8abf5 : List DRow := [(0, .aload_n 0, 1, 1), (1, .getfield 9, 3, 4), (4, .arraylength, 1, 5), (5, .aload_n 0, 1, 6), (6, .invokevirtual 335, 3, 9), (9, .ishr, 1, 10), (10, .ireturn, 1, 11)]
theorem dk_J0_length_8abf5 : decOK cJ0_length_8abf5 dl_J0_length_8abf5 = true := by decide +kernel
def dl_J0_charAt_5068e : List DRow := [(0, .aload_n 0, 1, 1), (1, .invokevirtual 492, 3, 4), (4, .ifCond .eq 12, 3, 7), (7, .aload_n 0, 1, 8), (8, .getfield 9, 3, 11), (11, .iload_n 1, 1, 12), (12, .invokestatic 495, 3, 15), (15, .ireturn, 1, 16), (16, .aload_n 0, 1, 17), (17, .getfield 9, 3, 20), (20, .iload_n 1, 1, 21), (21, .invokestatic 498, 3, 24), (24, .ireturn, 1, 25)]
theorem dk_J0_charAt_5068e : decOK cJ0_charAt_5068e dl_J0_charAt_5068e = true := by decide +kernel
def dl_J0_coder_7d493 : List DRow := [(0, .getstatic 38, 3, 3), (3, .ifCond .eq 10, 3, 6), (6, .aload_n 0, 1, 7), (7, .getfield 15, 3, 10), (10, .goto 4, 3, 13), (13, .iconst 1, 1, 14), (14, .ireturn, 1, 15)]
theorem dk_J0_coder_7d493 : decOK cJ0_coder_7d493 dl_J0_coder_7d493 = true := by decide +kernel
def dl_J0_isLatin1_aae02 : List DRow := [(0, .getstatic 38, 3, 3), (3, .ifCond .eq 14, 3, 6), (6, .aload_n 0, 1, 7), (7, .getfield 15, 3, 10), (10, .ifCond .ne 7, 3, 13), (13, .iconst 1, 1, 14), (14, .goto 4, 3, 17), (17, .iconst 0, 1, 18), (18, .ireturn, 1, 19)]
theorem dk_J0_isLatin1_aae02 : decOK cJ0_isLatin1_aae02 dl_J0_isLatin1_aae02 = true := by decide +kernel
def dl_J0_checkIndex_df160 : List DRow := [(0, .iload_n 0, 1, 1), (1, .iload_n 1, 1, 2), (2, .getstatic 1053, 3, 5), (5, .invokestatic 1059, 3, 8), (8, .pop, 1, 9), (9, .return_, 1, 10)]
theorem dk_J0_checkIndex_df160 : decOK cJ0_checkIndex_df160 dl_J0_checkIndex_df160 = true := by decide +kernel
def dl_J1_charAt_3b067 : List DRow := [(0, .iload_n 1, 1, 1), (1, .aload_n 0, 1, 2), (2, .arraylength, 1, 3), (3, .invokestatic 9, 3, 6), (6, .aload_n 0, 1, 7), (7, .iload_n 1, 1, 8), (8, .baload, 1, 9), (9, .sipush 255, 3, 12), (12, .iand, 1, 13), (13, .i2c, 1, 14), (14, .ireturn, 1, 15)]
theorem dk_J1_charAt_3b067 : decOK cJ1_charAt_3b067 dl_J1_charAt_3b067 = true := by decide +kernel
def dl_J2_getChar_3b067 : List DRow := [(0, .getstatic 44, 3, 3), (3, .ifCond .ne 25, 3, 6), (6, .iload_n 1, 1, 7), (7, .ifCond .lt 11, 3, 10), (10, .iload_n 1, 1, 11), (11, .aload_n 0, 1, 12), (12, .invokestatic 48, 3, 15), (15, .if_icmp .lt 13, 3, 18), (18, .new 52, 3, 21), (21, .dup, 1, 22), (22, .ldc 54, 2, 24), (24, .invokespecial 56, 3, 27), (27, .athrow, 1, 28), (28, .iload_n 1, 1, 29), (29, .iconst 1, 1, 30), (30, .ishl, 1, 31), (31, .istore_n 1, 1, 32), (32, .aload_n 0, 1, 33), (33, .iload_n 1, 1, 34), (34, .iinc 1 1, 3, 37), (37, .baload, 1, 38), (38, .sipush 255, 3, 41), (41, .iand, 1, 42), (42, .getstatic 59, 3, 45), (45, .ishl, 1, 46), (46, .aload_n 0, 1, 47), (47, .iload_n 1, 1, 48), (48, .baload, 1, 49), (49, .sipush 255, 3, 52), (52, .iand, 1, 53), (53, .getstatic 63, 3, 56), (56, .ishl, 1, 57), (57, .ior, 1, 58), (58, .i2c, 1, 59), (59, .ireturn, 1, 60)]
theorem dk_J2_getChar_3b067 : decOK cJ2_getChar_3b067 dl_J2_getChar_3b067 = true := by decide +kernel
def dl_J2_length_9d52b : List DRow := [(0, .aload_n 0, 1, 1), (1, .arraylength, 1, 2), (2, .iconst 1, 1, 3), (3, .ishr, 1, 4), (4, .ireturn, 1, 5)]
theorem dk_J2_length_9d52b : decOK cJ2_length_9d52b dl_J2_length_9d52b = true := by decide +kernel
def dl_J2_charAt_3b067 : List DRow := [(0, .iload_n 1, 1, 1), (1, .aload_n 0, 1, 2), (2, .invokestatic 67, 3, 5), (5, .aload_n 0, 1, 6), (6, .iload_n 1, 1, 7), (7, .invokestatic 71, 3, 10), (10, .ireturn, 1, 11)]
theorem dk_J2_charAt_3b067 : decOK cJ2_charAt_3b067 dl_J2_charAt_3b067 = true := by decide +kernel
def dl_J2_checkIndex_2214a : List DRow := [(0, .iload_n 0, 1, 1), (1, .aload_n 1, 1, 2), (2, .invokestatic 48, 3, 5), (5, .invokestatic 414, 3, 8), (8, .return_, 1, 9)]
theorem dk_J2_checkIndex_2214a : decOK cJ2_checkIndex_2214a dl_J2_checkIndex_2214a = true := by decide +kernel
def dl_J7_fill_d0a16 : List DRow := [(0, .iconst 0, 1, 1), (1, .istore_n 3, 1, 2), (2, .aload_n 0, 1, 3), (3, .arraylength, 1, 4), (4, .istore 4, 2, 6), (6, .iload_n 3, 1, 7), (7, .iload 4, 2, 9), (9, .if_icmp .ge 13, 3, 12), (12, .aload_n 0, 1, 13), (13, .iload_n 3, 1, 14), (14, .lload_n 1, 1, 15), (15, .lastore, 1, 16), (16, .iinc 3 1, 3, 19), (19, .goto (-13), 3, 22), (22, .return_, 1, 23)]
theorem dk_J7_fill_d0a16 : decOK cJ7_fill_d0a16 dl_J7_fill_d0a16 = true := by decide +kernel
def dl_J3_checkIndex_8e157 : List DRow := [(0, .iload_n 0, 1, 1), (1, .ifCond .lt 8, 3, 4), (4, .iload_n 0, 1, 5), (5, .iload_n 1, 1, 6), (6, .if_icmp .lt 10, 3, 9), (9, .aload_n 2, 1, 10), (10, .iload_n 0, 1, 11), (11, .iload_n 1, 1, 12), (12, .invokestatic 95, 3, 15), (15, .athrow, 1, 16), (16, .iload_n 0, 1, 17), (17, .ireturn, 1, 18)]
theorem dk_J3_checkIndex_8e157 : decOK cJ3_checkIndex_8e157 dl_J3_checkIndex_8e157 = true := by decide +kernel
/-! the words of the tables, by their places -/
theorem mw_0 : Cond.selects RX5 yX5_shelfAt yX5_shelfAt ∈ lw_tbl := List.mem_of_getElem? (i := 0) (by decide +kernel)
theorem mw_1 : Cond.selects RX5 yX5_refuse yX5_refuse ∈ lw_tbl := List.mem_of_getElem? (i := 1) (by decide +kernel)
theorem mw_2 : Cond.selects RX4 yX4_kept yX4_kept ∈ lw_tbl := List.mem_of_getElem? (i := 2) (by decide +kernel)
theorem mw_3 : Cond.selects RX5 yX5_refuseBelowTen yX5_refuseBelowTen ∈ lw_tbl := List.mem_of_getElem? (i := 3) (by decide +kernel)
theorem mw_4 : Cond.selects RX3 yX3_readItem yX3_readItem ∈ lw_tbl := List.mem_of_getElem? (i := 4) (by decide +kernel)
theorem mw_5 : Cond.selects RX3 yX3_readWord yX3_readWord ∈ lw_tbl := List.mem_of_getElem? (i := 5) (by decide +kernel)
theorem mw_6 : Cond.selects RX3 yX3_sameLetters yX3_sameLetters ∈ lw_tbl := List.mem_of_getElem? (i := 6) (by decide +kernel)
theorem mw_7 : Cond.selects RX3 yX3_readNumber yX3_readNumber ∈ lw_tbl := List.mem_of_getElem? (i := 7) (by decide +kernel)
theorem mw_8 : Cond.selects RX3 yX3_stands yX3_stands ∈ lw_tbl := List.mem_of_getElem? (i := 8) (by decide +kernel)
theorem mw_9 : Cond.selects RX3 yX3_tell yX3_tell ∈ lw_tbl := List.mem_of_getElem? (i := 9) (by decide +kernel)
theorem mw_10 : Cond.selects RX5 yX5_roadProblem yX5_roadProblem ∈ lw_tbl := List.mem_of_getElem? (i := 10) (by decide +kernel)
theorem mw_11 : Cond.selects RX2 yX2_takeRoads yX2_takeRoads ∈ lw_tbl := List.mem_of_getElem? (i := 11) (by decide +kernel)
theorem mw_12 : Cond.selects RX2 yX2_note yX2_note ∈ lw_tbl := List.mem_of_getElem? (i := 12) (by decide +kernel)
theorem mw_13 : Cond.selects RX2 yX2_isInside yX2_isInside ∈ lw_tbl := List.mem_of_getElem? (i := 13) (by decide +kernel)
theorem mw_14 : Cond.selects RX2 yX2_close yX2_close ∈ lw_tbl := List.mem_of_getElem? (i := 14) (by decide +kernel)
theorem mw_15 : Cond.selects RX1 yX1_leastMilesFrom yX1_leastMilesFrom ∈ lw_tbl := List.mem_of_getElem? (i := 15) (by decide +kernel)
theorem mw_16 : Cond.selects RX5 yX5_cheapestPinch yX5_cheapestPinch ∈ lw_tbl := List.mem_of_getElem? (i := 16) (by decide +kernel)
theorem mw_17 : Cond.selects RX5 yX5_canBeWalkedBy yX5_canBeWalkedBy ∈ lw_tbl := List.mem_of_getElem? (i := 17) (by decide +kernel)
theorem mw_18 : Cond.selects RX5 yX5_walk yX5_walk ∈ lw_tbl := List.mem_of_getElem? (i := 18) (by decide +kernel)
theorem mw_19 : Cond.selects RX5 yX5_tableProblem yX5_tableProblem ∈ lw_tbl := List.mem_of_getElem? (i := 19) (by decide +kernel)
theorem mw_20 : Cond.selects RX5 yX5_isWrongInTable yX5_isWrongInTable ∈ lw_tbl := List.mem_of_getElem? (i := 20) (by decide +kernel)
theorem mw_21 : Cond.selects RX5 yX5_firstWrongPinch yX5_firstWrongPinch ∈ lw_tbl := List.mem_of_getElem? (i := 21) (by decide +kernel)
theorem mw_22 : Cond.selects RX5 yX5_stolenOn yX5_stolenOn ∈ lw_tbl := List.mem_of_getElem? (i := 22) (by decide +kernel)
theorem mw_23 : Cond.selects RX5 yX5_isTheft yX5_isTheft ∈ lw_tbl := List.mem_of_getElem? (i := 23) (by decide +kernel)
theorem mw_24 : Cond.selects RX0 yX0_noteBody yX0_noteBody ∈ lw_tbl := List.mem_of_getElem? (i := 24) (by decide +kernel)
theorem mw_25 : Cond.selects RX6 yX6_no yX6_no ∈ lw_tbl := List.mem_of_getElem? (i := 25) (by decide +kernel)
theorem mw_26 : Cond.selects RX6 yX6_noRow yX6_noRow ∈ lw_tbl := List.mem_of_getElem? (i := 26) (by decide +kernel)
theorem mw_27 : Cond.selects RX6 yX6_isRow yX6_isRow ∈ lw_tbl := List.mem_of_getElem? (i := 27) (by decide +kernel)
theorem mw_28 : Cond.selects RX6 yX6_isPlace yX6_isPlace ∈ lw_tbl := List.mem_of_getElem? (i := 28) (by decide +kernel)
theorem mw_29 : Cond.selects RX6 yX6_roads yX6_roads ∈ lw_tbl := List.mem_of_getElem? (i := 29) (by decide +kernel)
theorem mw_30 : Cond.selects RX6 yX6_asks yX6_asks ∈ lw_tbl := List.mem_of_getElem? (i := 30) (by decide +kernel)
theorem mw_31 : Cond.selects RX6 yX6_newPlace yX6_newPlace ∈ lw_tbl := List.mem_of_getElem? (i := 31) (by decide +kernel)
theorem mw_32 : Cond.selects RX6 yX6_lay yX6_lay ∈ lw_tbl := List.mem_of_getElem? (i := 32) (by decide +kernel)
theorem mw_33 : Cond.selects RX6 yX6_no10 yX6_no10 ∈ lw_tbl := List.mem_of_getElem? (i := 33) (by decide +kernel)
theorem mw_34 : Cond.selects RX6 yX6_keep yX6_keep ∈ lw_tbl := List.mem_of_getElem? (i := 34) (by decide +kernel)
theorem mw_35 : Cond.selects RX6 yX6_item yX6_item ∈ lw_tbl := List.mem_of_getElem? (i := 35) (by decide +kernel)
theorem mw_36 : Cond.selects RX6 yX6_sign yX6_sign ∈ lw_tbl := List.mem_of_getElem? (i := 36) (by decide +kernel)
theorem mw_37 : Cond.selects RX6 yX6_word_ yX6_word_ ∈ lw_tbl := List.mem_of_getElem? (i := 37) (by decide +kernel)
theorem mw_38 : Cond.selects RX6 yX6_word yX6_word ∈ lw_tbl := List.mem_of_getElem? (i := 38) (by decide +kernel)
theorem mw_39 : Cond.selects RX6 yX6_is yX6_is ∈ lw_tbl := List.mem_of_getElem? (i := 39) (by decide +kernel)
theorem mw_40 : Cond.selects RX6 yX6_number yX6_number ∈ lw_tbl := List.mem_of_getElem? (i := 40) (by decide +kernel)
theorem mw_41 : Cond.selects RX6 yX6_two yX6_two ∈ lw_tbl := List.mem_of_getElem? (i := 41) (by decide +kernel)
theorem mw_42 : Cond.selects RX6 yX6_mills yX6_mills ∈ lw_tbl := List.mem_of_getElem? (i := 42) (by decide +kernel)
theorem mw_43 : Cond.selects RX6 yX6_yieldOf yX6_yieldOf ∈ lw_tbl := List.mem_of_getElem? (i := 43) (by decide +kernel)
theorem mw_44 : Cond.selects RX6 yX6_may yX6_may ∈ lw_tbl := List.mem_of_getElem? (i := 44) (by decide +kernel)
theorem mw_45 : Cond.selects RX6 yX6_noRoad yX6_noRoad ∈ lw_tbl := List.mem_of_getElem? (i := 45) (by decide +kernel)
theorem mw_46 : Cond.selects RX6 yX6_costs yX6_costs ∈ lw_tbl := List.mem_of_getElem? (i := 46) (by decide +kernel)
theorem mw_47 : Cond.selects RX6 yX6_pinch yX6_pinch ∈ lw_tbl := List.mem_of_getElem? (i := 47) (by decide +kernel)
theorem mw_48 : Cond.selects RX6 yX6_again yX6_again ∈ lw_tbl := List.mem_of_getElem? (i := 48) (by decide +kernel)
theorem mw_49 : Cond.selects RX6 yX6_walk yX6_walk ∈ lw_tbl := List.mem_of_getElem? (i := 49) (by decide +kernel)
theorem mw_50 : Cond.selects RX6 yX6_farTold yX6_farTold ∈ lw_tbl := List.mem_of_getElem? (i := 50) (by decide +kernel)
theorem mw_51 : Cond.selects RX6 yX6_next yX6_next ∈ lw_tbl := List.mem_of_getElem? (i := 51) (by decide +kernel)
theorem mw_52 : Cond.selects RX6 yX6_parts yX6_parts ∈ lw_tbl := List.mem_of_getElem? (i := 52) (by decide +kernel)
theorem mw_53 : Cond.selects RX6 yX6_keeps yX6_keeps ∈ lw_tbl := List.mem_of_getElem? (i := 53) (by decide +kernel)
theorem mw_54 : Cond.selects RX6 yX6_farthest yX6_farthest ∈ lw_tbl := List.mem_of_getElem? (i := 54) (by decide +kernel)
theorem mw_55 : Cond.selects RX6 yX6_harmOf yX6_harmOf ∈ lw_tbl := List.mem_of_getElem? (i := 55) (by decide +kernel)
theorem mw_56 : Cond.selects RX6 yX6_noJourney yX6_noJourney ∈ lw_tbl := List.mem_of_getElem? (i := 56) (by decide +kernel)
theorem mw_57 : Cond.selects RX6 yX6_told yX6_told ∈ lw_tbl := List.mem_of_getElem? (i := 57) (by decide +kernel)
theorem mw_58 : Cond.selects RX6 yX6_noTable yX6_noTable ∈ lw_tbl := List.mem_of_getElem? (i := 58) (by decide +kernel)
theorem mw_59 : Cond.selects RX6 yX6_pairs yX6_pairs ∈ lw_tbl := List.mem_of_getElem? (i := 59) (by decide +kernel)
theorem mw_60 : Cond.selects RX6 yX6_pair yX6_pair ∈ lw_tbl := List.mem_of_getElem? (i := 60) (by decide +kernel)
theorem mw_61 : Cond.selects RX6 yX6_noPinches yX6_noPinches ∈ lw_tbl := List.mem_of_getElem? (i := 61) (by decide +kernel)
theorem mw_62 : Cond.selects RX6 yX6_pinched yX6_pinched ∈ lw_tbl := List.mem_of_getElem? (i := 62) (by decide +kernel)
theorem mw_63 : Cond.selects RX6 yX6_draw yX6_draw ∈ lw_tbl := List.mem_of_getElem? (i := 63) (by decide +kernel)
theorem mw_64 : Cond.selects RX6 yX6_grinds yX6_grinds ∈ lw_tbl := List.mem_of_getElem? (i := 64) (by decide +kernel)
theorem mw_65 : Cond.selects RX6 yX6_ran yX6_ran ∈ lw_tbl := List.mem_of_getElem? (i := 65) (by decide +kernel)
theorem mw_66 : Cond.selects RX6 yX6_strews yX6_strews ∈ lw_tbl := List.mem_of_getElem? (i := 66) (by decide +kernel)
theorem mw_67 : Cond.selects RX6 yX6_blows yX6_blows ∈ lw_tbl := List.mem_of_getElem? (i := 67) (by decide +kernel)
theorem mw_68 : Cond.initialized "MillOfDistancesLaw" ∈ lw_tbl := List.mem_of_getElem? (i := 68) (by decide +kernel)
theorem mw_69 : Cond.initialized "MillOfDistances" ∈ lw_tbl := List.mem_of_getElem? (i := 69) (by decide +kernel)
theorem mw_70 : Cond.initialized "MillOfDistances$Land" ∈ lw_tbl := List.mem_of_getElem? (i := 70) (by decide +kernel)
theorem mw_71 : Cond.initialized "MillOfDistances$Lengths" ∈ lw_tbl := List.mem_of_getElem? (i := 71) (by decide +kernel)
theorem mw_72 : Cond.initialized "MillOfDistances$MapReader" ∈ lw_tbl := List.mem_of_getElem? (i := 72) (by decide +kernel)
theorem mw_73 : Cond.initialized "MillOfDistances$Doer" ∈ lw_tbl := List.mem_of_getElem? (i := 73) (by decide +kernel)
theorem mw_74 : Cond.initialized "MillOfDistances$Shelf" ∈ lw_tbl := List.mem_of_getElem? (i := 74) (by decide +kernel)
theorem mw_75 : Cond.initialized "MillOfDistancesModel" ∈ lw_tbl := List.mem_of_getElem? (i := 75) (by decide +kernel)
theorem mw_76 : Cond.initialized "java/util/Arrays" ∈ lw_tbl := List.mem_of_getElem? (i := 76) (by decide +kernel)
theorem mw_77 : Cond.initialized "java/lang/System" ∈ lw_tbl := List.mem_of_getElem? (i := 77) (by decide +kernel)
theorem mw_78 : Cond.initialized "java/lang/Integer" ∈ lw_tbl := List.mem_of_getElem? (i := 78) (by decide +kernel)
theorem mw_79 : Cond.initialized "java/lang/Math" ∈ lw_tbl := List.mem_of_getElem? (i := 79) (by decide +kernel)
theorem mw_80 : Cond.initialized "java/lang/String" ∈ lw_tbl := List.mem_of_getElem? (i := 80) (by decide +kernel)
theorem mw_81 : Cond.initialized "java/lang/StringLatin1" ∈ lw_tbl := List.mem_of_getElem? (i := 81) (by decide +kernel)
theorem mw_82 : Cond.initialized "jdk/internal/util/Preconditions" ∈ lw_tbl := List.mem_of_getElem? (i := 82) (by decide +kernel)
theorem mw_83 : Cond.initialized "java/lang/StringUTF16" ∈ lw_tbl := List.mem_of_getElem? (i := 83) (by decide +kernel)
theorem mw_84 : Cond.classLink "MillOfDistancesLaw" 7 "MillOfDistances" ∈ lw_tbl := List.mem_of_getElem? (i := 84) (by decide +kernel)
theorem mw_85 : Cond.instantiable "MillOfDistances" 10 ∈ lw_tbl := List.mem_of_getElem? (i := 85) (by decide +kernel)
theorem mw_86 : Cond.methodLink "MillOfDistancesLaw" 9 yX5_init ∈ lw_tbl := List.mem_of_getElem? (i := 86) (by decide +kernel)
theorem mw_87 : Cond.instanceMethod yX5_init ∈ lw_tbl := List.mem_of_getElem? (i := 87) (by decide +kernel)
theorem mw_88 : Cond.code yX5_init prog_1_method_1_code 2 none ∈ lw_tbl := List.mem_of_getElem? (i := 88) (by decide +kernel)
theorem mw_89 : Cond.methodLink "MillOfDistances" 1 ⟨"java/lang/Object", "<init>", "()V"⟩ ∈ lw_tbl := List.mem_of_getElem? (i := 89) (by decide +kernel)
theorem mw_90 : Cond.instanceMethod ⟨"java/lang/Object", "<init>", "()V"⟩ ∈ lw_tbl := List.mem_of_getElem? (i := 90) (by decide +kernel)
theorem mw_91 : Cond.code ⟨"java/lang/Object", "<init>", "()V"⟩ object_method_1_code 1 none ∈ lw_tbl := List.mem_of_getElem? (i := 91) (by decide +kernel)
theorem mw_92 : Cond.classLink "MillOfDistances" 7 "MillOfDistances$Land" ∈ lw_tbl := List.mem_of_getElem? (i := 92) (by decide +kernel)
theorem mw_93 : Cond.instantiable "MillOfDistances$Land" 7 ∈ lw_tbl := List.mem_of_getElem? (i := 93) (by decide +kernel)
theorem mw_94 : Cond.methodLinkNest "MillOfDistances" 9 yX1_init "MillOfDistances" ∈ lw_tbl := List.mem_of_getElem? (i := 94) (by decide +kernel)
theorem mw_95 : Cond.instanceMethod yX1_init ∈ lw_tbl := List.mem_of_getElem? (i := 95) (by decide +kernel)
theorem mw_96 : Cond.code yX1_init prog_3_method_1_code 1 none ∈ lw_tbl := List.mem_of_getElem? (i := 96) (by decide +kernel)
theorem mw_97 : Cond.methodLink "MillOfDistances$Land" 3 ⟨"java/lang/Object", "<init>", "()V"⟩ ∈ lw_tbl := List.mem_of_getElem? (i := 97) (by decide +kernel)
theorem mw_98 : Cond.fieldLink "MillOfDistances$Land" 9 "MillOfDistances$Land" "kinds" "[I" ∈ lw_tbl := List.mem_of_getElem? (i := 98) (by decide +kernel)
theorem mw_99 : Cond.fieldLink "MillOfDistances" 145 "MillOfDistances$Land" "kinds" "[I" ∈ lw_tbl := List.mem_of_getElem? (i := 99) (by decide +kernel)
theorem mw_100 : Cond.fieldLink "MillOfDistances$Land" 15 "MillOfDistances$Land" "marks" "[I" ∈ lw_tbl := List.mem_of_getElem? (i := 100) (by decide +kernel)
theorem mw_101 : Cond.fieldLink "MillOfDistances" 148 "MillOfDistances$Land" "marks" "[I" ∈ lw_tbl := List.mem_of_getElem? (i := 101) (by decide +kernel)
theorem mw_102 : Cond.fieldLink "MillOfDistances$Land" 18 "MillOfDistances$Land" "roads" "[I" ∈ lw_tbl := List.mem_of_getElem? (i := 102) (by decide +kernel)
theorem mw_103 : Cond.fieldLink "MillOfDistances$Land" 31 "MillOfDistances$Land" "count" "I" ∈ lw_tbl := List.mem_of_getElem? (i := 103) (by decide +kernel)
theorem mw_104 : Cond.fieldLink "MillOfDistances$Lengths" 40 "MillOfDistances$Land" "count" "I" ∈ lw_tbl := List.mem_of_getElem? (i := 104) (by decide +kernel)
theorem mw_105 : Cond.fieldLink "MillOfDistances" 211 "MillOfDistances$Land" "count" "I" ∈ lw_tbl := List.mem_of_getElem? (i := 105) (by decide +kernel)
theorem mw_106 : Cond.fieldLink "MillOfDistances$Land" 34 "MillOfDistances$Land" "flour" "I" ∈ lw_tbl := List.mem_of_getElem? (i := 106) (by decide +kernel)
theorem mw_107 : Cond.fieldLink "MillOfDistances$MapReader" 127 "MillOfDistances$Land" "flour" "I" ∈ lw_tbl := List.mem_of_getElem? (i := 107) (by decide +kernel)
theorem mw_108 : Cond.fieldLink "MillOfDistances" 168 "MillOfDistances$Land" "flour" "I" ∈ lw_tbl := List.mem_of_getElem? (i := 108) (by decide +kernel)
theorem mw_109 : Cond.fieldLink "MillOfDistances$Land" 37 "MillOfDistances$Land" "wind" "I" ∈ lw_tbl := List.mem_of_getElem? (i := 109) (by decide +kernel)
theorem mw_110 : Cond.fieldLink "MillOfDistances$MapReader" 129 "MillOfDistances$Land" "wind" "I" ∈ lw_tbl := List.mem_of_getElem? (i := 110) (by decide +kernel)
theorem mw_111 : Cond.fieldLink "MillOfDistances" 171 "MillOfDistances$Land" "wind" "I" ∈ lw_tbl := List.mem_of_getElem? (i := 111) (by decide +kernel)
theorem mw_112 : Cond.fieldLink "MillOfDistances$Land" 21 "MillOfDistances$Land" "seed" "I" ∈ lw_tbl := List.mem_of_getElem? (i := 112) (by decide +kernel)
theorem mw_113 : Cond.fieldLink "MillOfDistances" 317 "MillOfDistances$Land" "seed" "I" ∈ lw_tbl := List.mem_of_getElem? (i := 113) (by decide +kernel)
theorem mw_114 : Cond.laysFinal "MillOfDistances$Land" "MillOfDistances$Land" "kinds" "[I" ∈ lw_tbl := List.mem_of_getElem? (i := 114) (by decide +kernel)
theorem mw_115 : Cond.soleField "MillOfDistances$Land" "kinds" ∈ lw_tbl := List.mem_of_getElem? (i := 115) (by decide +kernel)
theorem mw_116 : Cond.laysFinal "MillOfDistances$Land" "MillOfDistances$Land" "marks" "[I" ∈ lw_tbl := List.mem_of_getElem? (i := 116) (by decide +kernel)
theorem mw_117 : Cond.soleField "MillOfDistances$Land" "marks" ∈ lw_tbl := List.mem_of_getElem? (i := 117) (by decide +kernel)
theorem mw_118 : Cond.laysFinal "MillOfDistances$Land" "MillOfDistances$Land" "roads" "[I" ∈ lw_tbl := List.mem_of_getElem? (i := 118) (by decide +kernel)
theorem mw_119 : Cond.soleField "MillOfDistances$Land" "roads" ∈ lw_tbl := List.mem_of_getElem? (i := 119) (by decide +kernel)
theorem mw_120 : Cond.lays "MillOfDistances$Land" "MillOfDistances$Land" "count" "I" ∈ lw_tbl := List.mem_of_getElem? (i := 120) (by decide +kernel)
theorem mw_121 : Cond.soleField "MillOfDistances$Land" "count" ∈ lw_tbl := List.mem_of_getElem? (i := 121) (by decide +kernel)
theorem mw_122 : Cond.lays "MillOfDistances$Land" "MillOfDistances$Land" "flour" "I" ∈ lw_tbl := List.mem_of_getElem? (i := 122) (by decide +kernel)
theorem mw_123 : Cond.soleField "MillOfDistances$Land" "flour" ∈ lw_tbl := List.mem_of_getElem? (i := 123) (by decide +kernel)
theorem mw_124 : Cond.lays "MillOfDistances$Land" "MillOfDistances$Land" "wind" "I" ∈ lw_tbl := List.mem_of_getElem? (i := 124) (by decide +kernel)
theorem mw_125 : Cond.soleField "MillOfDistances$Land" "wind" ∈ lw_tbl := List.mem_of_getElem? (i := 125) (by decide +kernel)
theorem mw_126 : Cond.lays "MillOfDistances$Land" "MillOfDistances$Land" "seed" "I" ∈ lw_tbl := List.mem_of_getElem? (i := 126) (by decide +kernel)
theorem mw_127 : Cond.soleField "MillOfDistances$Land" "seed" ∈ lw_tbl := List.mem_of_getElem? (i := 127) (by decide +kernel)
theorem mw_128 : Cond.superclass "MillOfDistances$Land" "java/lang/Object" ∈ lw_tbl := List.mem_of_getElem? (i := 128) (by decide +kernel)
theorem mw_129 : Cond.arrayClass .int ∈ lw_tbl := List.mem_of_getElem? (i := 129) (by decide +kernel)
theorem mw_130 : Cond.classLink "MillOfDistances" 22 "MillOfDistances$Lengths" ∈ lw_tbl := List.mem_of_getElem? (i := 130) (by decide +kernel)
theorem mw_131 : Cond.instantiable "MillOfDistances$Lengths" 2 ∈ lw_tbl := List.mem_of_getElem? (i := 131) (by decide +kernel)
theorem mw_132 : Cond.methodLinkNest "MillOfDistances" 24 yX2_init "MillOfDistances" ∈ lw_tbl := List.mem_of_getElem? (i := 132) (by decide +kernel)
theorem mw_133 : Cond.instanceMethod yX2_init ∈ lw_tbl := List.mem_of_getElem? (i := 133) (by decide +kernel)
theorem mw_134 : Cond.code yX2_init prog_4_method_1_code 1 none ∈ lw_tbl := List.mem_of_getElem? (i := 134) (by decide +kernel)
theorem mw_135 : Cond.methodLink "MillOfDistances$Lengths" 3 ⟨"java/lang/Object", "<init>", "()V"⟩ ∈ lw_tbl := List.mem_of_getElem? (i := 135) (by decide +kernel)
theorem mw_136 : Cond.fieldLink "MillOfDistances$Lengths" 9 "MillOfDistances$Lengths" "cells" "[I" ∈ lw_tbl := List.mem_of_getElem? (i := 136) (by decide +kernel)
theorem mw_137 : Cond.fieldLink "MillOfDistances$Lengths" 26 "MillOfDistances$Lengths" "count" "I" ∈ lw_tbl := List.mem_of_getElem? (i := 137) (by decide +kernel)
theorem mw_138 : Cond.laysFinal "MillOfDistances$Lengths" "MillOfDistances$Lengths" "cells" "[I" ∈ lw_tbl := List.mem_of_getElem? (i := 138) (by decide +kernel)
theorem mw_139 : Cond.soleField "MillOfDistances$Lengths" "cells" ∈ lw_tbl := List.mem_of_getElem? (i := 139) (by decide +kernel)
theorem mw_140 : Cond.lays "MillOfDistances$Lengths" "MillOfDistances$Lengths" "count" "I" ∈ lw_tbl := List.mem_of_getElem? (i := 140) (by decide +kernel)
theorem mw_141 : Cond.soleField "MillOfDistances$Lengths" "count" ∈ lw_tbl := List.mem_of_getElem? (i := 141) (by decide +kernel)
theorem mw_142 : Cond.superclass "MillOfDistances$Lengths" "java/lang/Object" ∈ lw_tbl := List.mem_of_getElem? (i := 142) (by decide +kernel)
theorem mw_143 : Cond.classLink "MillOfDistances" 32 "MillOfDistances$Shelf" ∈ lw_tbl := List.mem_of_getElem? (i := 143) (by decide +kernel)
theorem mw_144 : Cond.arrayOver (.object "MillOfDistances$Shelf") ∈ lw_tbl := List.mem_of_getElem? (i := 144) (by decide +kernel)
theorem mw_145 : Cond.classLink "MillOfDistances" 42 "MillOfDistances$MapReader" ∈ lw_tbl := List.mem_of_getElem? (i := 145) (by decide +kernel)
theorem mw_146 : Cond.instantiable "MillOfDistances$MapReader" 4 ∈ lw_tbl := List.mem_of_getElem? (i := 146) (by decide +kernel)
theorem mw_147 : Cond.methodLinkNest "MillOfDistances" 44 yX3_init "MillOfDistances" ∈ lw_tbl := List.mem_of_getElem? (i := 147) (by decide +kernel)
theorem mw_148 : Cond.instanceMethod yX3_init ∈ lw_tbl := List.mem_of_getElem? (i := 148) (by decide +kernel)
theorem mw_149 : Cond.code yX3_init prog_5_method_1_code 1 none ∈ lw_tbl := List.mem_of_getElem? (i := 149) (by decide +kernel)
theorem mw_150 : Cond.methodLink "MillOfDistances$MapReader" 3 ⟨"java/lang/Object", "<init>", "()V"⟩ ∈ lw_tbl := List.mem_of_getElem? (i := 150) (by decide +kernel)
theorem mw_151 : Cond.fieldLink "MillOfDistances$MapReader" 9 "MillOfDistances$MapReader" "fault" "I" ∈ lw_tbl := List.mem_of_getElem? (i := 151) (by decide +kernel)
theorem mw_152 : Cond.fieldLink "MillOfDistances" 182 "MillOfDistances$MapReader" "fault" "I" ∈ lw_tbl := List.mem_of_getElem? (i := 152) (by decide +kernel)
theorem mw_153 : Cond.fieldLink "MillOfDistances$MapReader" 15 "MillOfDistances$MapReader" "numbers" "[I" ∈ lw_tbl := List.mem_of_getElem? (i := 153) (by decide +kernel)
theorem mw_154 : Cond.fieldLink "MillOfDistances$MapReader" 19 "MillOfDistances$MapReader" "next" "I" ∈ lw_tbl := List.mem_of_getElem? (i := 154) (by decide +kernel)
theorem mw_155 : Cond.fieldLink "MillOfDistances$MapReader" 56 "MillOfDistances$MapReader" "numberStart" "I" ∈ lw_tbl := List.mem_of_getElem? (i := 155) (by decide +kernel)
theorem mw_156 : Cond.lays "MillOfDistances$MapReader" "MillOfDistances$MapReader" "fault" "I" ∈ lw_tbl := List.mem_of_getElem? (i := 156) (by decide +kernel)
theorem mw_157 : Cond.soleField "MillOfDistances$MapReader" "fault" ∈ lw_tbl := List.mem_of_getElem? (i := 157) (by decide +kernel)
theorem mw_158 : Cond.laysFinal "MillOfDistances$MapReader" "MillOfDistances$MapReader" "numbers" "[I" ∈ lw_tbl := List.mem_of_getElem? (i := 158) (by decide +kernel)
theorem mw_159 : Cond.soleField "MillOfDistances$MapReader" "numbers" ∈ lw_tbl := List.mem_of_getElem? (i := 159) (by decide +kernel)
theorem mw_160 : Cond.lays "MillOfDistances$MapReader" "MillOfDistances$MapReader" "next" "I" ∈ lw_tbl := List.mem_of_getElem? (i := 160) (by decide +kernel)
theorem mw_161 : Cond.soleField "MillOfDistances$MapReader" "next" ∈ lw_tbl := List.mem_of_getElem? (i := 161) (by decide +kernel)
theorem mw_162 : Cond.lays "MillOfDistances$MapReader" "MillOfDistances$MapReader" "numberStart" "I" ∈ lw_tbl := List.mem_of_getElem? (i := 162) (by decide +kernel)
theorem mw_163 : Cond.soleField "MillOfDistances$MapReader" "numberStart" ∈ lw_tbl := List.mem_of_getElem? (i := 163) (by decide +kernel)
theorem mw_164 : Cond.superclass "MillOfDistances$MapReader" "java/lang/Object" ∈ lw_tbl := List.mem_of_getElem? (i := 164) (by decide +kernel)
theorem mw_165 : Cond.classLink "MillOfDistances" 49 "MillOfDistances$Doer" ∈ lw_tbl := List.mem_of_getElem? (i := 165) (by decide +kernel)
theorem mw_166 : Cond.instantiable "MillOfDistances$Doer" 5 ∈ lw_tbl := List.mem_of_getElem? (i := 166) (by decide +kernel)
theorem mw_167 : Cond.methodLinkNest "MillOfDistances" 51 yX0_init "MillOfDistances" ∈ lw_tbl := List.mem_of_getElem? (i := 167) (by decide +kernel)
theorem mw_168 : Cond.instanceMethod yX0_init ∈ lw_tbl := List.mem_of_getElem? (i := 168) (by decide +kernel)
theorem mw_169 : Cond.code yX0_init prog_2_method_1_code 1 none ∈ lw_tbl := List.mem_of_getElem? (i := 169) (by decide +kernel)
theorem mw_170 : Cond.methodLink "MillOfDistances$Doer" 3 ⟨"java/lang/Object", "<init>", "()V"⟩ ∈ lw_tbl := List.mem_of_getElem? (i := 170) (by decide +kernel)
theorem mw_171 : Cond.fieldLink "MillOfDistances$Doer" 9 "MillOfDistances$Doer" "trace" "[I" ∈ lw_tbl := List.mem_of_getElem? (i := 171) (by decide +kernel)
theorem mw_172 : Cond.fieldLink "MillOfDistances$Doer" 15 "MillOfDistances$Doer" "ran" "I" ∈ lw_tbl := List.mem_of_getElem? (i := 172) (by decide +kernel)
theorem mw_173 : Cond.fieldLink "MillOfDistances" 340 "MillOfDistances$Doer" "ran" "I" ∈ lw_tbl := List.mem_of_getElem? (i := 173) (by decide +kernel)
theorem mw_174 : Cond.fieldLink "MillOfDistances$Doer" 19 "MillOfDistances$Doer" "kind" "I" ∈ lw_tbl := List.mem_of_getElem? (i := 174) (by decide +kernel)
theorem mw_175 : Cond.fieldLink "MillOfDistances$Doer" 22 "MillOfDistances$Doer" "m" "I" ∈ lw_tbl := List.mem_of_getElem? (i := 175) (by decide +kernel)
theorem mw_176 : Cond.fieldLink "MillOfDistances$Doer" 25 "MillOfDistances$Doer" "k" "I" ∈ lw_tbl := List.mem_of_getElem? (i := 176) (by decide +kernel)
theorem mw_177 : Cond.laysFinal "MillOfDistances$Doer" "MillOfDistances$Doer" "trace" "[I" ∈ lw_tbl := List.mem_of_getElem? (i := 177) (by decide +kernel)
theorem mw_178 : Cond.soleField "MillOfDistances$Doer" "trace" ∈ lw_tbl := List.mem_of_getElem? (i := 178) (by decide +kernel)
theorem mw_179 : Cond.lays "MillOfDistances$Doer" "MillOfDistances$Doer" "ran" "I" ∈ lw_tbl := List.mem_of_getElem? (i := 179) (by decide +kernel)
theorem mw_180 : Cond.soleField "MillOfDistances$Doer" "ran" ∈ lw_tbl := List.mem_of_getElem? (i := 180) (by decide +kernel)
theorem mw_181 : Cond.lays "MillOfDistances$Doer" "MillOfDistances$Doer" "kind" "I" ∈ lw_tbl := List.mem_of_getElem? (i := 181) (by decide +kernel)
theorem mw_182 : Cond.soleField "MillOfDistances$Doer" "kind" ∈ lw_tbl := List.mem_of_getElem? (i := 182) (by decide +kernel)
theorem mw_183 : Cond.lays "MillOfDistances$Doer" "MillOfDistances$Doer" "m" "I" ∈ lw_tbl := List.mem_of_getElem? (i := 183) (by decide +kernel)
theorem mw_184 : Cond.soleField "MillOfDistances$Doer" "m" ∈ lw_tbl := List.mem_of_getElem? (i := 184) (by decide +kernel)
theorem mw_185 : Cond.lays "MillOfDistances$Doer" "MillOfDistances$Doer" "k" "I" ∈ lw_tbl := List.mem_of_getElem? (i := 185) (by decide +kernel)
theorem mw_186 : Cond.soleField "MillOfDistances$Doer" "k" ∈ lw_tbl := List.mem_of_getElem? (i := 186) (by decide +kernel)
theorem mw_187 : Cond.superclass "MillOfDistances$Doer" "java/lang/Object" ∈ lw_tbl := List.mem_of_getElem? (i := 187) (by decide +kernel)
theorem mw_188 : Cond.instantiable "MillOfDistances$Shelf" 4 ∈ lw_tbl := List.mem_of_getElem? (i := 188) (by decide +kernel)
theorem mw_189 : Cond.methodLinkNest "MillOfDistances" 56 yX4_init "MillOfDistances" ∈ lw_tbl := List.mem_of_getElem? (i := 189) (by decide +kernel)
theorem mw_190 : Cond.instanceMethod yX4_init ∈ lw_tbl := List.mem_of_getElem? (i := 190) (by decide +kernel)
theorem mw_191 : Cond.code yX4_init prog_6_method_1_code 1 none ∈ lw_tbl := List.mem_of_getElem? (i := 191) (by decide +kernel)
theorem mw_192 : Cond.methodLink "MillOfDistances$Shelf" 3 ⟨"java/lang/Object", "<init>", "()V"⟩ ∈ lw_tbl := List.mem_of_getElem? (i := 192) (by decide +kernel)
theorem mw_193 : Cond.fieldLink "MillOfDistances$Shelf" 9 "MillOfDistances$Shelf" "elements" "[J" ∈ lw_tbl := List.mem_of_getElem? (i := 193) (by decide +kernel)
theorem mw_194 : Cond.fieldLink "MillOfDistances" 85 "MillOfDistances$Shelf" "elements" "[J" ∈ lw_tbl := List.mem_of_getElem? (i := 194) (by decide +kernel)
theorem mw_195 : Cond.fieldLink "MillOfDistances$MapReader" 26 "MillOfDistances$Shelf" "size" "I" ∈ lw_tbl := List.mem_of_getElem? (i := 195) (by decide +kernel)
theorem mw_196 : Cond.fieldLink "MillOfDistances$Shelf" 22 "MillOfDistances$Shelf" "size" "I" ∈ lw_tbl := List.mem_of_getElem? (i := 196) (by decide +kernel)
theorem mw_197 : Cond.fieldLink "MillOfDistances" 343 "MillOfDistances$Shelf" "size" "I" ∈ lw_tbl := List.mem_of_getElem? (i := 197) (by decide +kernel)
theorem mw_198 : Cond.fieldLink "MillOfDistances$Shelf" 15 "MillOfDistances$Shelf" "sort" "I" ∈ lw_tbl := List.mem_of_getElem? (i := 198) (by decide +kernel)
theorem mw_199 : Cond.fieldLink "MillOfDistances" 111 "MillOfDistances$Shelf" "sort" "I" ∈ lw_tbl := List.mem_of_getElem? (i := 199) (by decide +kernel)
theorem mw_200 : Cond.fieldLink "MillOfDistances$Shelf" 19 "MillOfDistances$Shelf" "place" "I" ∈ lw_tbl := List.mem_of_getElem? (i := 200) (by decide +kernel)
theorem mw_201 : Cond.fieldLink "MillOfDistances" 115 "MillOfDistances$Shelf" "place" "I" ∈ lw_tbl := List.mem_of_getElem? (i := 201) (by decide +kernel)
theorem mw_202 : Cond.laysFinal "MillOfDistances$Shelf" "MillOfDistances$Shelf" "elements" "[J" ∈ lw_tbl := List.mem_of_getElem? (i := 202) (by decide +kernel)
theorem mw_203 : Cond.soleField "MillOfDistances$Shelf" "elements" ∈ lw_tbl := List.mem_of_getElem? (i := 203) (by decide +kernel)
theorem mw_204 : Cond.lays "MillOfDistances$Shelf" "MillOfDistances$Shelf" "size" "I" ∈ lw_tbl := List.mem_of_getElem? (i := 204) (by decide +kernel)
theorem mw_205 : Cond.soleField "MillOfDistances$Shelf" "size" ∈ lw_tbl := List.mem_of_getElem? (i := 205) (by decide +kernel)
theorem mw_206 : Cond.lays "MillOfDistances$Shelf" "MillOfDistances$Shelf" "sort" "I" ∈ lw_tbl := List.mem_of_getElem? (i := 206) (by decide +kernel)
theorem mw_207 : Cond.soleField "MillOfDistances$Shelf" "sort" ∈ lw_tbl := List.mem_of_getElem? (i := 207) (by decide +kernel)
theorem mw_208 : Cond.lays "MillOfDistances$Shelf" "MillOfDistances$Shelf" "place" "I" ∈ lw_tbl := List.mem_of_getElem? (i := 208) (by decide +kernel)
theorem mw_209 : Cond.soleField "MillOfDistances$Shelf" "place" ∈ lw_tbl := List.mem_of_getElem? (i := 209) (by decide +kernel)
theorem mw_210 : Cond.superclass "MillOfDistances$Shelf" "java/lang/Object" ∈ lw_tbl := List.mem_of_getElem? (i := 210) (by decide +kernel)
theorem mw_211 : Cond.arrayClass .long ∈ lw_tbl := List.mem_of_getElem? (i := 211) (by decide +kernel)
theorem mw_212 : Cond.fieldLink "MillOfDistances" 10 "MillOfDistances" "land" "LMillOfDistances$Land;" ∈ lw_tbl := List.mem_of_getElem? (i := 212) (by decide +kernel)
theorem mw_213 : Cond.fieldLink "MillOfDistances" 16 "MillOfDistances" "trial" "LMillOfDistances$Land;" ∈ lw_tbl := List.mem_of_getElem? (i := 213) (by decide +kernel)
theorem mw_214 : Cond.fieldLink "MillOfDistances" 19 "MillOfDistances" "imaged" "LMillOfDistances$Land;" ∈ lw_tbl := List.mem_of_getElem? (i := 214) (by decide +kernel)
theorem mw_215 : Cond.fieldLink "MillOfDistances" 25 "MillOfDistances" "now" "LMillOfDistances$Lengths;" ∈ lw_tbl := List.mem_of_getElem? (i := 215) (by decide +kernel)
theorem mw_216 : Cond.fieldLink "MillOfDistances" 29 "MillOfDistances" "then" "LMillOfDistances$Lengths;" ∈ lw_tbl := List.mem_of_getElem? (i := 216) (by decide +kernel)
theorem mw_217 : Cond.fieldLink "MillOfDistances" 34 "MillOfDistances" "shelves" "[LMillOfDistances$Shelf;" ∈ lw_tbl := List.mem_of_getElem? (i := 217) (by decide +kernel)
theorem mw_218 : Cond.fieldLink "MillOfDistances" 38 "MillOfDistances" "refusals" "[I" ∈ lw_tbl := List.mem_of_getElem? (i := 218) (by decide +kernel)
theorem mw_219 : Cond.fieldLink "MillOfDistances" 45 "MillOfDistances" "reader" "LMillOfDistances$MapReader;" ∈ lw_tbl := List.mem_of_getElem? (i := 219) (by decide +kernel)
theorem mw_220 : Cond.fieldLink "MillOfDistances" 52 "MillOfDistances" "doer" "LMillOfDistances$Doer;" ∈ lw_tbl := List.mem_of_getElem? (i := 220) (by decide +kernel)
theorem mw_221 : Cond.fieldLink "MillOfDistances" 330 "MillOfDistances" "hasImage" "Z" ∈ lw_tbl := List.mem_of_getElem? (i := 221) (by decide +kernel)
theorem mw_222 : Cond.laysFinal "MillOfDistances" "MillOfDistances" "land" "LMillOfDistances$Land;" ∈ lw_tbl := List.mem_of_getElem? (i := 222) (by decide +kernel)
theorem mw_223 : Cond.soleField "MillOfDistances" "land" ∈ lw_tbl := List.mem_of_getElem? (i := 223) (by decide +kernel)
theorem mw_224 : Cond.laysFinal "MillOfDistances" "MillOfDistances" "trial" "LMillOfDistances$Land;" ∈ lw_tbl := List.mem_of_getElem? (i := 224) (by decide +kernel)
theorem mw_225 : Cond.soleField "MillOfDistances" "trial" ∈ lw_tbl := List.mem_of_getElem? (i := 225) (by decide +kernel)
theorem mw_226 : Cond.laysFinal "MillOfDistances" "MillOfDistances" "imaged" "LMillOfDistances$Land;" ∈ lw_tbl := List.mem_of_getElem? (i := 226) (by decide +kernel)
theorem mw_227 : Cond.soleField "MillOfDistances" "imaged" ∈ lw_tbl := List.mem_of_getElem? (i := 227) (by decide +kernel)
theorem mw_228 : Cond.laysFinal "MillOfDistances" "MillOfDistances" "now" "LMillOfDistances$Lengths;" ∈ lw_tbl := List.mem_of_getElem? (i := 228) (by decide +kernel)
theorem mw_229 : Cond.soleField "MillOfDistances" "now" ∈ lw_tbl := List.mem_of_getElem? (i := 229) (by decide +kernel)
theorem mw_230 : Cond.laysFinal "MillOfDistances" "MillOfDistances" "then" "LMillOfDistances$Lengths;" ∈ lw_tbl := List.mem_of_getElem? (i := 230) (by decide +kernel)
theorem mw_231 : Cond.soleField "MillOfDistances" "then" ∈ lw_tbl := List.mem_of_getElem? (i := 231) (by decide +kernel)
theorem mw_232 : Cond.laysFinal "MillOfDistances" "MillOfDistances" "shelves" "[LMillOfDistances$Shelf;" ∈ lw_tbl := List.mem_of_getElem? (i := 232) (by decide +kernel)
theorem mw_233 : Cond.soleField "MillOfDistances" "shelves" ∈ lw_tbl := List.mem_of_getElem? (i := 233) (by decide +kernel)
theorem mw_234 : Cond.laysFinal "MillOfDistances" "MillOfDistances" "refusals" "[I" ∈ lw_tbl := List.mem_of_getElem? (i := 234) (by decide +kernel)
theorem mw_235 : Cond.soleField "MillOfDistances" "refusals" ∈ lw_tbl := List.mem_of_getElem? (i := 235) (by decide +kernel)
theorem mw_236 : Cond.laysFinal "MillOfDistances" "MillOfDistances" "reader" "LMillOfDistances$MapReader;" ∈ lw_tbl := List.mem_of_getElem? (i := 236) (by decide +kernel)
theorem mw_237 : Cond.soleField "MillOfDistances" "reader" ∈ lw_tbl := List.mem_of_getElem? (i := 237) (by decide +kernel)
theorem mw_238 : Cond.laysFinal "MillOfDistances" "MillOfDistances" "doer" "LMillOfDistances$Doer;" ∈ lw_tbl := List.mem_of_getElem? (i := 238) (by decide +kernel)
theorem mw_239 : Cond.soleField "MillOfDistances" "doer" ∈ lw_tbl := List.mem_of_getElem? (i := 239) (by decide +kernel)
theorem mw_240 : Cond.lays "MillOfDistances" "MillOfDistances" "hasImage" "Z" ∈ lw_tbl := List.mem_of_getElem? (i := 240) (by decide +kernel)
theorem mw_241 : Cond.soleField "MillOfDistances" "hasImage" ∈ lw_tbl := List.mem_of_getElem? (i := 241) (by decide +kernel)
theorem mw_242 : Cond.superclass "MillOfDistances" "java/lang/Object" ∈ lw_tbl := List.mem_of_getElem? (i := 242) (by decide +kernel)
theorem mw_243 : Cond.methodLink "MillOfDistancesLaw" 13 yX5_row ∈ lw_tbl := List.mem_of_getElem? (i := 243) (by decide +kernel)
theorem mw_244 : Cond.instanceMethod yX5_row ∈ lw_tbl := List.mem_of_getElem? (i := 244) (by decide +kernel)
theorem mw_245 : Cond.selects "MillOfDistances" yX5_row yX5_row ∈ lw_tbl := List.mem_of_getElem? (i := 245) (by decide +kernel)
theorem mw_246 : Cond.code yX5_row prog_1_method_2_code 5 (some .int) ∈ lw_tbl := List.mem_of_getElem? (i := 246) (by decide +kernel)
theorem mw_247 : Cond.methodLink "MillOfDistances" 57 yX5_shelfAt ∈ lw_tbl := List.mem_of_getElem? (i := 247) (by decide +kernel)
theorem mw_248 : Cond.privateMethod yX5_shelfAt ∈ lw_tbl := List.mem_of_getElem? (i := 248) (by decide +kernel)
theorem mw_249 : Cond.instanceMethod yX5_shelfAt ∈ lw_tbl := List.mem_of_getElem? (i := 249) (by decide +kernel)
theorem mw_250 : Cond.code yX5_shelfAt prog_1_method_51_code 2 (some (.object "MillOfDistances$Shelf")) ∈ lw_tbl := List.mem_of_getElem? (i := 250) (by decide +kernel)
theorem mw_251 : Cond.methodLink "MillOfDistances" 61 yX5_refuse ∈ lw_tbl := List.mem_of_getElem? (i := 251) (by decide +kernel)
theorem mw_252 : Cond.privateMethod yX5_refuse ∈ lw_tbl := List.mem_of_getElem? (i := 252) (by decide +kernel)
theorem mw_253 : Cond.instanceMethod yX5_refuse ∈ lw_tbl := List.mem_of_getElem? (i := 253) (by decide +kernel)
theorem mw_254 : Cond.code yX5_refuse prog_1_method_49_code 2 (some .int) ∈ lw_tbl := List.mem_of_getElem? (i := 254) (by decide +kernel)
theorem mw_255 : Cond.methodLink "MillOfDistances" 65 yX4_takeRow ∈ lw_tbl := List.mem_of_getElem? (i := 255) (by decide +kernel)
theorem mw_256 : Cond.instanceMethod yX4_takeRow ∈ lw_tbl := List.mem_of_getElem? (i := 256) (by decide +kernel)
theorem mw_257 : Cond.selects "MillOfDistances$Shelf" yX4_takeRow yX4_takeRow ∈ lw_tbl := List.mem_of_getElem? (i := 257) (by decide +kernel)
theorem mw_258 : Cond.code yX4_takeRow prog_6_method_4_code 3 none ∈ lw_tbl := List.mem_of_getElem? (i := 258) (by decide +kernel)
theorem mw_259 : Cond.methodLink "MillOfDistances$Shelf" 25 yJ7_fill_d0a16 ∈ lw_tbl := List.mem_of_getElem? (i := 259) (by decide +kernel)
theorem mw_260 : Cond.static yJ7_fill_d0a16 ∈ lw_tbl := List.mem_of_getElem? (i := 260) (by decide +kernel)
theorem mw_261 : Cond.code yJ7_fill_d0a16 prog_15_method_101_code 5 none ∈ lw_tbl := List.mem_of_getElem? (i := 261) (by decide +kernel)
theorem mw_262 : Cond.methodLink "MillOfDistancesLaw" 20 yX5_set ∈ lw_tbl := List.mem_of_getElem? (i := 262) (by decide +kernel)
theorem mw_263 : Cond.instanceMethod yX5_set ∈ lw_tbl := List.mem_of_getElem? (i := 263) (by decide +kernel)
theorem mw_264 : Cond.selects "MillOfDistances" yX5_set yX5_set ∈ lw_tbl := List.mem_of_getElem? (i := 264) (by decide +kernel)
theorem mw_265 : Cond.code yX5_set prog_1_method_3_code 7 (some .int) ∈ lw_tbl := List.mem_of_getElem? (i := 265) (by decide +kernel)
theorem mw_266 : Cond.methodLink "MillOfDistances" 69 yX5_rowProblem ∈ lw_tbl := List.mem_of_getElem? (i := 266) (by decide +kernel)
theorem mw_267 : Cond.static yX5_rowProblem ∈ lw_tbl := List.mem_of_getElem? (i := 267) (by decide +kernel)
theorem mw_268 : Cond.code yX5_rowProblem prog_1_method_52_code 1 (some .int) ∈ lw_tbl := List.mem_of_getElem? (i := 268) (by decide +kernel)
theorem mw_269 : Cond.methodLink "MillOfDistances" 121 yX4_holdsPlace ∈ lw_tbl := List.mem_of_getElem? (i := 269) (by decide +kernel)
theorem mw_270 : Cond.instanceMethod yX4_holdsPlace ∈ lw_tbl := List.mem_of_getElem? (i := 270) (by decide +kernel)
theorem mw_271 : Cond.selects "MillOfDistances$Shelf" yX4_holdsPlace yX4_holdsPlace ∈ lw_tbl := List.mem_of_getElem? (i := 271) (by decide +kernel)
theorem mw_272 : Cond.code yX4_holdsPlace prog_6_method_3_code 1 (some .boolean) ∈ lw_tbl := List.mem_of_getElem? (i := 272) (by decide +kernel)
theorem mw_273 : Cond.methodLink "MillOfDistances" 107 yX4_holdsRow ∈ lw_tbl := List.mem_of_getElem? (i := 273) (by decide +kernel)
theorem mw_274 : Cond.instanceMethod yX4_holdsRow ∈ lw_tbl := List.mem_of_getElem? (i := 274) (by decide +kernel)
theorem mw_275 : Cond.selects "MillOfDistances$Shelf" yX4_holdsRow yX4_holdsRow ∈ lw_tbl := List.mem_of_getElem? (i := 275) (by decide +kernel)
theorem mw_276 : Cond.code yX4_holdsRow prog_6_method_2_code 1 (some .boolean) ∈ lw_tbl := List.mem_of_getElem? (i := 276) (by decide +kernel)
theorem mw_277 : Cond.methodLink "MillOfDistances" 73 yX4_hasElements ∈ lw_tbl := List.mem_of_getElem? (i := 277) (by decide +kernel)
theorem mw_278 : Cond.instanceMethod yX4_hasElements ∈ lw_tbl := List.mem_of_getElem? (i := 278) (by decide +kernel)
theorem mw_279 : Cond.selects "MillOfDistances$Shelf" yX4_hasElements yX4_hasElements ∈ lw_tbl := List.mem_of_getElem? (i := 279) (by decide +kernel)
theorem mw_280 : Cond.code yX4_hasElements prog_6_method_6_code 3 (some .boolean) ∈ lw_tbl := List.mem_of_getElem? (i := 280) (by decide +kernel)
theorem mw_281 : Cond.methodLink "MillOfDistances" 77 yX4_put ∈ lw_tbl := List.mem_of_getElem? (i := 281) (by decide +kernel)
theorem mw_282 : Cond.instanceMethod yX4_put ∈ lw_tbl := List.mem_of_getElem? (i := 282) (by decide +kernel)
theorem mw_283 : Cond.selects "MillOfDistances$Shelf" yX4_put yX4_put ∈ lw_tbl := List.mem_of_getElem? (i := 283) (by decide +kernel)
theorem mw_284 : Cond.code yX4_put prog_6_method_9_code 4 none ∈ lw_tbl := List.mem_of_getElem? (i := 284) (by decide +kernel)
theorem mw_285 : Cond.methodLink "MillOfDistances$Shelf" 31 yX4_hasElements ∈ lw_tbl := List.mem_of_getElem? (i := 285) (by decide +kernel)
theorem mw_286 : Cond.methodLink "MillOfDistances$Shelf" 35 yX4_kept ∈ lw_tbl := List.mem_of_getElem? (i := 286) (by decide +kernel)
theorem mw_287 : Cond.privateMethod yX4_kept ∈ lw_tbl := List.mem_of_getElem? (i := 287) (by decide +kernel)
theorem mw_288 : Cond.instanceMethod yX4_kept ∈ lw_tbl := List.mem_of_getElem? (i := 288) (by decide +kernel)
theorem mw_289 : Cond.code yX4_kept prog_6_method_10_code 3 (some .long) ∈ lw_tbl := List.mem_of_getElem? (i := 289) (by decide +kernel)
theorem mw_290 : Cond.methodLink "MillOfDistancesLaw" 25 yX5_copy ∈ lw_tbl := List.mem_of_getElem? (i := 290) (by decide +kernel)
theorem mw_291 : Cond.instanceMethod yX5_copy ∈ lw_tbl := List.mem_of_getElem? (i := 291) (by decide +kernel)
theorem mw_292 : Cond.selects "MillOfDistances" yX5_copy yX5_copy ∈ lw_tbl := List.mem_of_getElem? (i := 292) (by decide +kernel)
theorem mw_293 : Cond.code yX5_copy prog_1_method_4_code 9 (some .int) ∈ lw_tbl := List.mem_of_getElem? (i := 293) (by decide +kernel)
theorem mw_294 : Cond.methodLink "MillOfDistances" 81 yX5_rowsProblem ∈ lw_tbl := List.mem_of_getElem? (i := 294) (by decide +kernel)
theorem mw_295 : Cond.static yX5_rowsProblem ∈ lw_tbl := List.mem_of_getElem? (i := 295) (by decide +kernel)
theorem mw_296 : Cond.code yX5_rowsProblem prog_1_method_53_code 2 (some .int) ∈ lw_tbl := List.mem_of_getElem? (i := 296) (by decide +kernel)
theorem mw_297 : Cond.methodLink "MillOfDistances" 89 ⟨"java/lang/System", "arraycopy", "(Ljava/lang/Object;ILjava/lang/Object;II)V"⟩ ∈ lw_tbl := List.mem_of_getElem? (i := 297) (by decide +kernel)
theorem mw_298 : Cond.static ⟨"java/lang/System", "arraycopy", "(Ljava/lang/Object;ILjava/lang/Object;II)V"⟩ ∈ lw_tbl := List.mem_of_getElem? (i := 298) (by decide +kernel)
theorem mw_299 : Cond.native ⟨"java/lang/System", "arraycopy", "(Ljava/lang/Object;ILjava/lang/Object;II)V"⟩ ∈ lw_tbl := List.mem_of_getElem? (i := 299) (by decide +kernel)
theorem mw_300 : Cond.methodLink "MillOfDistancesLaw" 30 yX5_element ∈ lw_tbl := List.mem_of_getElem? (i := 300) (by decide +kernel)
theorem mw_301 : Cond.instanceMethod yX5_element ∈ lw_tbl := List.mem_of_getElem? (i := 301) (by decide +kernel)
theorem mw_302 : Cond.selects "MillOfDistances" yX5_element yX5_element ∈ lw_tbl := List.mem_of_getElem? (i := 302) (by decide +kernel)
theorem mw_303 : Cond.code yX5_element prog_1_method_5_code 4 (some .long) ∈ lw_tbl := List.mem_of_getElem? (i := 303) (by decide +kernel)
theorem mw_304 : Cond.methodLink "MillOfDistances" 95 yX4_at ∈ lw_tbl := List.mem_of_getElem? (i := 304) (by decide +kernel)
theorem mw_305 : Cond.instanceMethod yX4_at ∈ lw_tbl := List.mem_of_getElem? (i := 305) (by decide +kernel)
theorem mw_306 : Cond.selects "MillOfDistances$Shelf" yX4_at yX4_at ∈ lw_tbl := List.mem_of_getElem? (i := 306) (by decide +kernel)
theorem mw_307 : Cond.code yX4_at prog_6_method_7_code 2 (some .long) ∈ lw_tbl := List.mem_of_getElem? (i := 307) (by decide +kernel)
theorem mw_308 : Cond.methodLink "MillOfDistancesLaw" 35 yX5_show ∈ lw_tbl := List.mem_of_getElem? (i := 308) (by decide +kernel)
theorem mw_309 : Cond.instanceMethod yX5_show ∈ lw_tbl := List.mem_of_getElem? (i := 309) (by decide +kernel)
theorem mw_310 : Cond.selects "MillOfDistances" yX5_show yX5_show ∈ lw_tbl := List.mem_of_getElem? (i := 310) (by decide +kernel)
theorem mw_311 : Cond.code yX5_show prog_1_method_6_code 4 (some .int) ∈ lw_tbl := List.mem_of_getElem? (i := 311) (by decide +kernel)
theorem mw_312 : Cond.methodLink "MillOfDistances" 99 yX1_has ∈ lw_tbl := List.mem_of_getElem? (i := 312) (by decide +kernel)
theorem mw_313 : Cond.instanceMethod yX1_has ∈ lw_tbl := List.mem_of_getElem? (i := 313) (by decide +kernel)
theorem mw_314 : Cond.selects "MillOfDistances$Land" yX1_has yX1_has ∈ lw_tbl := List.mem_of_getElem? (i := 314) (by decide +kernel)
theorem mw_315 : Cond.code yX1_has prog_3_method_3_code 2 (some .boolean) ∈ lw_tbl := List.mem_of_getElem? (i := 315) (by decide +kernel)
theorem mw_316 : Cond.methodLink "MillOfDistances" 103 yX4_takePlace ∈ lw_tbl := List.mem_of_getElem? (i := 316) (by decide +kernel)
theorem mw_317 : Cond.instanceMethod yX4_takePlace ∈ lw_tbl := List.mem_of_getElem? (i := 317) (by decide +kernel)
theorem mw_318 : Cond.selects "MillOfDistances$Shelf" yX4_takePlace yX4_takePlace ∈ lw_tbl := List.mem_of_getElem? (i := 318) (by decide +kernel)
theorem mw_319 : Cond.code yX4_takePlace prog_6_method_5_code 2 none ∈ lw_tbl := List.mem_of_getElem? (i := 319) (by decide +kernel)
theorem mw_320 : Cond.methodLink "MillOfDistancesLaw" 40 yX5_holds ∈ lw_tbl := List.mem_of_getElem? (i := 320) (by decide +kernel)
theorem mw_321 : Cond.instanceMethod yX5_holds ∈ lw_tbl := List.mem_of_getElem? (i := 321) (by decide +kernel)
theorem mw_322 : Cond.selects "MillOfDistances" yX5_holds yX5_holds ∈ lw_tbl := List.mem_of_getElem? (i := 322) (by decide +kernel)
theorem mw_323 : Cond.code yX5_holds prog_1_method_7_code 3 (some .int) ∈ lw_tbl := List.mem_of_getElem? (i := 323) (by decide +kernel)
theorem mw_324 : Cond.methodLink "MillOfDistancesLaw" 45 yX5_says ∈ lw_tbl := List.mem_of_getElem? (i := 324) (by decide +kernel)
theorem mw_325 : Cond.instanceMethod yX5_says ∈ lw_tbl := List.mem_of_getElem? (i := 325) (by decide +kernel)
theorem mw_326 : Cond.selects "MillOfDistances" yX5_says yX5_says ∈ lw_tbl := List.mem_of_getElem? (i := 326) (by decide +kernel)
theorem mw_327 : Cond.code yX5_says prog_1_method_8_code 5 (some .int) ∈ lw_tbl := List.mem_of_getElem? (i := 327) (by decide +kernel)
theorem mw_328 : Cond.methodLink "MillOfDistances" 118 yX5_isKind ∈ lw_tbl := List.mem_of_getElem? (i := 328) (by decide +kernel)
theorem mw_329 : Cond.static yX5_isKind ∈ lw_tbl := List.mem_of_getElem? (i := 329) (by decide +kernel)
theorem mw_330 : Cond.code yX5_isKind prog_1_method_58_code 1 (some .boolean) ∈ lw_tbl := List.mem_of_getElem? (i := 330) (by decide +kernel)
theorem mw_331 : Cond.methodLink "MillOfDistances" 124 yX1_isOf ∈ lw_tbl := List.mem_of_getElem? (i := 331) (by decide +kernel)
theorem mw_332 : Cond.instanceMethod yX1_isOf ∈ lw_tbl := List.mem_of_getElem? (i := 332) (by decide +kernel)
theorem mw_333 : Cond.selects "MillOfDistances$Land" yX1_isOf yX1_isOf ∈ lw_tbl := List.mem_of_getElem? (i := 333) (by decide +kernel)
theorem mw_334 : Cond.code yX1_isOf prog_3_method_7_code 5 (some .boolean) ∈ lw_tbl := List.mem_of_getElem? (i := 334) (by decide +kernel)
theorem mw_335 : Cond.fieldLinkNest "MillOfDistances$Land" 44 "MillOfDistances" "KIND_ABOVE" "[I" "MillOfDistances" ∈ lw_tbl := List.mem_of_getElem? (i := 335) (by decide +kernel)
theorem mw_336 : Cond.laysStatic "MillOfDistances" "KIND_ABOVE" "[I" ∈ lw_tbl := List.mem_of_getElem? (i := 336) (by decide +kernel)
theorem mw_337 : Cond.methodLink "MillOfDistances" 127 yX1_asks ∈ lw_tbl := List.mem_of_getElem? (i := 337) (by decide +kernel)
theorem mw_338 : Cond.instanceMethod yX1_asks ∈ lw_tbl := List.mem_of_getElem? (i := 338) (by decide +kernel)
theorem mw_339 : Cond.selects "MillOfDistances$Land" yX1_asks yX1_asks ∈ lw_tbl := List.mem_of_getElem? (i := 339) (by decide +kernel)
theorem mw_340 : Cond.code yX1_asks prog_3_method_14_code 4 (some .int) ∈ lw_tbl := List.mem_of_getElem? (i := 340) (by decide +kernel)
theorem mw_341 : Cond.methodLink "MillOfDistances" 131 yX1_neighbours ∈ lw_tbl := List.mem_of_getElem? (i := 341) (by decide +kernel)
theorem mw_342 : Cond.instanceMethod yX1_neighbours ∈ lw_tbl := List.mem_of_getElem? (i := 342) (by decide +kernel)
theorem mw_343 : Cond.selects "MillOfDistances$Land" yX1_neighbours yX1_neighbours ∈ lw_tbl := List.mem_of_getElem? (i := 343) (by decide +kernel)
theorem mw_344 : Cond.code yX1_neighbours prog_3_method_10_code 4 (some .int) ∈ lw_tbl := List.mem_of_getElem? (i := 344) (by decide +kernel)
theorem mw_345 : Cond.methodLink "MillOfDistances$Land" 51 yX1_between ∈ lw_tbl := List.mem_of_getElem? (i := 345) (by decide +kernel)
theorem mw_346 : Cond.instanceMethod yX1_between ∈ lw_tbl := List.mem_of_getElem? (i := 346) (by decide +kernel)
theorem mw_347 : Cond.selects "MillOfDistances$Land" yX1_between yX1_between ∈ lw_tbl := List.mem_of_getElem? (i := 347) (by decide +kernel)
theorem mw_348 : Cond.code yX1_between prog_3_method_8_code 3 (some .int) ∈ lw_tbl := List.mem_of_getElem? (i := 348) (by decide +kernel)
theorem mw_349 : Cond.methodLink "MillOfDistances" 134 yJ6_bitCount_0f7a4 ∈ lw_tbl := List.mem_of_getElem? (i := 349) (by decide +kernel)
theorem mw_350 : Cond.static yJ6_bitCount_0f7a4 ∈ lw_tbl := List.mem_of_getElem? (i := 350) (by decide +kernel)
theorem mw_351 : Cond.code yJ6_bitCount_0f7a4 prog_9_method_49_code 1 (some .int) ∈ lw_tbl := List.mem_of_getElem? (i := 351) (by decide +kernel)
theorem mw_352 : Cond.constant "java/lang/Integer" 265 1431655765 ∈ lw_tbl := List.mem_of_getElem? (i := 352) (by decide +kernel)
theorem mw_353 : Cond.constant "java/lang/Integer" 266 858993459 ∈ lw_tbl := List.mem_of_getElem? (i := 353) (by decide +kernel)
theorem mw_354 : Cond.constant "java/lang/Integer" 267 252645135 ∈ lw_tbl := List.mem_of_getElem? (i := 354) (by decide +kernel)
theorem mw_355 : Cond.methodLink "MillOfDistancesLaw" 49 yX5_place ∈ lw_tbl := List.mem_of_getElem? (i := 355) (by decide +kernel)
theorem mw_356 : Cond.instanceMethod yX5_place ∈ lw_tbl := List.mem_of_getElem? (i := 356) (by decide +kernel)
theorem mw_357 : Cond.selects "MillOfDistances" yX5_place yX5_place ∈ lw_tbl := List.mem_of_getElem? (i := 357) (by decide +kernel)
theorem mw_358 : Cond.code yX5_place prog_1_method_9_code 3 (some .int) ∈ lw_tbl := List.mem_of_getElem? (i := 358) (by decide +kernel)
theorem mw_359 : Cond.methodLink "MillOfDistances" 139 yX1_hasRoom ∈ lw_tbl := List.mem_of_getElem? (i := 359) (by decide +kernel)
theorem mw_360 : Cond.instanceMethod yX1_hasRoom ∈ lw_tbl := List.mem_of_getElem? (i := 360) (by decide +kernel)
theorem mw_361 : Cond.selects "MillOfDistances$Land" yX1_hasRoom yX1_hasRoom ∈ lw_tbl := List.mem_of_getElem? (i := 361) (by decide +kernel)
theorem mw_362 : Cond.code yX1_hasRoom prog_3_method_5_code 1 (some .boolean) ∈ lw_tbl := List.mem_of_getElem? (i := 362) (by decide +kernel)
theorem mw_363 : Cond.methodLink "MillOfDistances" 142 yX1_found ∈ lw_tbl := List.mem_of_getElem? (i := 363) (by decide +kernel)
theorem mw_364 : Cond.instanceMethod yX1_found ∈ lw_tbl := List.mem_of_getElem? (i := 364) (by decide +kernel)
theorem mw_365 : Cond.selects "MillOfDistances$Land" yX1_found yX1_found ∈ lw_tbl := List.mem_of_getElem? (i := 365) (by decide +kernel)
theorem mw_366 : Cond.code yX1_found prog_3_method_6_code 3 (some .int) ∈ lw_tbl := List.mem_of_getElem? (i := 366) (by decide +kernel)
theorem mw_367 : Cond.methodLink "MillOfDistances$Land" 40 yX1_hasRoom ∈ lw_tbl := List.mem_of_getElem? (i := 367) (by decide +kernel)
theorem mw_368 : Cond.methodLink "MillOfDistancesLaw" 53 yX5_placeOf ∈ lw_tbl := List.mem_of_getElem? (i := 368) (by decide +kernel)
theorem mw_369 : Cond.instanceMethod yX5_placeOf ∈ lw_tbl := List.mem_of_getElem? (i := 369) (by decide +kernel)
theorem mw_370 : Cond.selects "MillOfDistances" yX5_placeOf yX5_placeOf ∈ lw_tbl := List.mem_of_getElem? (i := 370) (by decide +kernel)
theorem mw_371 : Cond.code yX5_placeOf prog_1_method_10_code 3 (some .int) ∈ lw_tbl := List.mem_of_getElem? (i := 371) (by decide +kernel)
theorem mw_372 : Cond.methodLink "MillOfDistances" 151 yX1_milesOf ∈ lw_tbl := List.mem_of_getElem? (i := 372) (by decide +kernel)
theorem mw_373 : Cond.instanceMethod yX1_milesOf ∈ lw_tbl := List.mem_of_getElem? (i := 373) (by decide +kernel)
theorem mw_374 : Cond.selects "MillOfDistances$Land" yX1_milesOf yX1_milesOf ∈ lw_tbl := List.mem_of_getElem? (i := 374) (by decide +kernel)
theorem mw_375 : Cond.code yX1_milesOf prog_3_method_11_code 4 (some .int) ∈ lw_tbl := List.mem_of_getElem? (i := 375) (by decide +kernel)
theorem mw_376 : Cond.methodLink "MillOfDistancesLaw" 57 yX5_road ∈ lw_tbl := List.mem_of_getElem? (i := 376) (by decide +kernel)
theorem mw_377 : Cond.instanceMethod yX5_road ∈ lw_tbl := List.mem_of_getElem? (i := 377) (by decide +kernel)
theorem mw_378 : Cond.selects "MillOfDistances" yX5_road yX5_road ∈ lw_tbl := List.mem_of_getElem? (i := 378) (by decide +kernel)
theorem mw_379 : Cond.code yX5_road prog_1_method_11_code 5 (some .int) ∈ lw_tbl := List.mem_of_getElem? (i := 379) (by decide +kernel)
theorem mw_380 : Cond.methodLink "MillOfDistances" 154 yX1_hasBoth ∈ lw_tbl := List.mem_of_getElem? (i := 380) (by decide +kernel)
theorem mw_381 : Cond.instanceMethod yX1_hasBoth ∈ lw_tbl := List.mem_of_getElem? (i := 381) (by decide +kernel)
theorem mw_382 : Cond.selects "MillOfDistances$Land" yX1_hasBoth yX1_hasBoth ∈ lw_tbl := List.mem_of_getElem? (i := 382) (by decide +kernel)
theorem mw_383 : Cond.code yX1_hasBoth prog_3_method_4_code 3 (some .boolean) ∈ lw_tbl := List.mem_of_getElem? (i := 383) (by decide +kernel)
theorem mw_384 : Cond.methodLink "MillOfDistances" 157 yX1_between ∈ lw_tbl := List.mem_of_getElem? (i := 384) (by decide +kernel)
theorem mw_385 : Cond.methodLink "MillOfDistances" 160 yX1_lay ∈ lw_tbl := List.mem_of_getElem? (i := 385) (by decide +kernel)
theorem mw_386 : Cond.instanceMethod yX1_lay ∈ lw_tbl := List.mem_of_getElem? (i := 386) (by decide +kernel)
theorem mw_387 : Cond.selects "MillOfDistances$Land" yX1_lay yX1_lay ∈ lw_tbl := List.mem_of_getElem? (i := 387) (by decide +kernel)
theorem mw_388 : Cond.code yX1_lay prog_3_method_9_code 4 none ∈ lw_tbl := List.mem_of_getElem? (i := 388) (by decide +kernel)
theorem mw_389 : Cond.methodLink "MillOfDistances$Land" 47 yX1_hasBoth ∈ lw_tbl := List.mem_of_getElem? (i := 389) (by decide +kernel)
theorem mw_390 : Cond.methodLink "MillOfDistancesLaw" 61 yX5_miles ∈ lw_tbl := List.mem_of_getElem? (i := 390) (by decide +kernel)
theorem mw_391 : Cond.instanceMethod yX5_miles ∈ lw_tbl := List.mem_of_getElem? (i := 391) (by decide +kernel)
theorem mw_392 : Cond.selects "MillOfDistances" yX5_miles yX5_miles ∈ lw_tbl := List.mem_of_getElem? (i := 392) (by decide +kernel)
theorem mw_393 : Cond.code yX5_miles prog_1_method_12_code 3 (some .int) ∈ lw_tbl := List.mem_of_getElem? (i := 393) (by decide +kernel)
theorem mw_394 : Cond.methodLink "MillOfDistances" 164 yX5_refuseBelowTen ∈ lw_tbl := List.mem_of_getElem? (i := 394) (by decide +kernel)
theorem mw_395 : Cond.privateMethod yX5_refuseBelowTen ∈ lw_tbl := List.mem_of_getElem? (i := 395) (by decide +kernel)
theorem mw_396 : Cond.instanceMethod yX5_refuseBelowTen ∈ lw_tbl := List.mem_of_getElem? (i := 396) (by decide +kernel)
theorem mw_397 : Cond.code yX5_refuseBelowTen prog_1_method_50_code 2 (some .int) ∈ lw_tbl := List.mem_of_getElem? (i := 397) (by decide +kernel)
theorem mw_398 : Cond.methodLink "MillOfDistancesLaw" 65 yX5_ask ∈ lw_tbl := List.mem_of_getElem? (i := 398) (by decide +kernel)
theorem mw_399 : Cond.instanceMethod yX5_ask ∈ lw_tbl := List.mem_of_getElem? (i := 399) (by decide +kernel)
theorem mw_400 : Cond.selects "MillOfDistances" yX5_ask yX5_ask ∈ lw_tbl := List.mem_of_getElem? (i := 400) (by decide +kernel)
theorem mw_401 : Cond.code yX5_ask prog_1_method_13_code 4 (some .int) ∈ lw_tbl := List.mem_of_getElem? (i := 401) (by decide +kernel)
theorem mw_402 : Cond.constant "MillOfDistances" 167 99999 ∈ lw_tbl := List.mem_of_getElem? (i := 402) (by decide +kernel)
theorem mw_403 : Cond.methodLink "MillOfDistancesLaw" 69 yX5_map ∈ lw_tbl := List.mem_of_getElem? (i := 403) (by decide +kernel)
theorem mw_404 : Cond.instanceMethod yX5_map ∈ lw_tbl := List.mem_of_getElem? (i := 404) (by decide +kernel)
theorem mw_405 : Cond.selects "MillOfDistances" yX5_map yX5_map ∈ lw_tbl := List.mem_of_getElem? (i := 405) (by decide +kernel)
theorem mw_406 : Cond.code yX5_map prog_1_method_14_code 5 (some .int) ∈ lw_tbl := List.mem_of_getElem? (i := 406) (by decide +kernel)
theorem mw_407 : Cond.methodLink "MillOfDistances" 174 yX1_becomeAs ∈ lw_tbl := List.mem_of_getElem? (i := 407) (by decide +kernel)
theorem mw_408 : Cond.instanceMethod yX1_becomeAs ∈ lw_tbl := List.mem_of_getElem? (i := 408) (by decide +kernel)
theorem mw_409 : Cond.selects "MillOfDistances$Land" yX1_becomeAs yX1_becomeAs ∈ lw_tbl := List.mem_of_getElem? (i := 409) (by decide +kernel)
theorem mw_410 : Cond.code yX1_becomeAs prog_3_method_2_code 2 none ∈ lw_tbl := List.mem_of_getElem? (i := 410) (by decide +kernel)
theorem mw_411 : Cond.methodLink "MillOfDistances$Land" 25 ⟨"java/lang/System", "arraycopy", "(Ljava/lang/Object;ILjava/lang/Object;II)V"⟩ ∈ lw_tbl := List.mem_of_getElem? (i := 411) (by decide +kernel)
theorem mw_412 : Cond.methodLink "MillOfDistances" 178 yX3_read ∈ lw_tbl := List.mem_of_getElem? (i := 412) (by decide +kernel)
theorem mw_413 : Cond.instanceMethod yX3_read ∈ lw_tbl := List.mem_of_getElem? (i := 413) (by decide +kernel)
theorem mw_414 : Cond.selects "MillOfDistances$MapReader" yX3_read yX3_read ∈ lw_tbl := List.mem_of_getElem? (i := 414) (by decide +kernel)
theorem mw_415 : Cond.code yX3_read prog_5_method_2_code 4 (some .int) ∈ lw_tbl := List.mem_of_getElem? (i := 415) (by decide +kernel)
theorem mw_416 : Cond.methodLink "MillOfDistances$MapReader" 22 yX3_readItem ∈ lw_tbl := List.mem_of_getElem? (i := 416) (by decide +kernel)
theorem mw_417 : Cond.privateMethod yX3_readItem ∈ lw_tbl := List.mem_of_getElem? (i := 417) (by decide +kernel)
theorem mw_418 : Cond.instanceMethod yX3_readItem ∈ lw_tbl := List.mem_of_getElem? (i := 418) (by decide +kernel)
theorem mw_419 : Cond.code yX3_readItem prog_5_method_3_code 6 (some .boolean) ∈ lw_tbl := List.mem_of_getElem? (i := 419) (by decide +kernel)
theorem mw_420 : Cond.methodLink "MillOfDistances$MapReader" 35 yX3_readWord ∈ lw_tbl := List.mem_of_getElem? (i := 420) (by decide +kernel)
theorem mw_421 : Cond.privateMethod yX3_readWord ∈ lw_tbl := List.mem_of_getElem? (i := 421) (by decide +kernel)
theorem mw_422 : Cond.instanceMethod yX3_readWord ∈ lw_tbl := List.mem_of_getElem? (i := 422) (by decide +kernel)
theorem mw_423 : Cond.code yX3_readWord prog_5_method_4_code 6 (some .int) ∈ lw_tbl := List.mem_of_getElem? (i := 423) (by decide +kernel)
theorem mw_424 : Cond.fieldLink "MillOfDistances$MapReader" 39 "MillOfDistances$MapReader" "NUMBERS" "[I" ∈ lw_tbl := List.mem_of_getElem? (i := 424) (by decide +kernel)
theorem mw_425 : Cond.laysStatic "MillOfDistances$MapReader" "NUMBERS" "[I" ∈ lw_tbl := List.mem_of_getElem? (i := 425) (by decide +kernel)
theorem mw_426 : Cond.methodLink "MillOfDistances$MapReader" 63 yX3_wordOf ∈ lw_tbl := List.mem_of_getElem? (i := 426) (by decide +kernel)
theorem mw_427 : Cond.static yX3_wordOf ∈ lw_tbl := List.mem_of_getElem? (i := 427) (by decide +kernel)
theorem mw_428 : Cond.code yX3_wordOf prog_5_method_6_code 1 (some (.object "java/lang/String")) ∈ lw_tbl := List.mem_of_getElem? (i := 428) (by decide +kernel)
theorem mw_429 : Cond.stringRef "MillOfDistances$MapReader" 87 "place" ∈ lw_tbl := List.mem_of_getElem? (i := 429) (by decide +kernel)
theorem mw_430 : Cond.stringRef "MillOfDistances$MapReader" 89 "road" ∈ lw_tbl := List.mem_of_getElem? (i := 430) (by decide +kernel)
theorem mw_431 : Cond.stringRef "MillOfDistances$MapReader" 91 "mill" ∈ lw_tbl := List.mem_of_getElem? (i := 431) (by decide +kernel)
theorem mw_432 : Cond.stringRef "MillOfDistances$MapReader" 93 "flour" ∈ lw_tbl := List.mem_of_getElem? (i := 432) (by decide +kernel)
theorem mw_433 : Cond.stringRef "MillOfDistances$MapReader" 95 "wind" ∈ lw_tbl := List.mem_of_getElem? (i := 433) (by decide +kernel)
theorem mw_434 : Cond.stringRef "MillOfDistances$MapReader" 97 "near" ∈ lw_tbl := List.mem_of_getElem? (i := 434) (by decide +kernel)
theorem mw_435 : Cond.stringRef "MillOfDistances$MapReader" 99 "far" ∈ lw_tbl := List.mem_of_getElem? (i := 435) (by decide +kernel)
theorem mw_436 : Cond.methodLink "MillOfDistances$MapReader" 67 yX3_sameLetters ∈ lw_tbl := List.mem_of_getElem? (i := 436) (by decide +kernel)
theorem mw_437 : Cond.privateMethod yX3_sameLetters ∈ lw_tbl := List.mem_of_getElem? (i := 437) (by decide +kernel)
theorem mw_438 : Cond.instanceMethod yX3_sameLetters ∈ lw_tbl := List.mem_of_getElem? (i := 438) (by decide +kernel)
theorem mw_439 : Cond.code yX3_sameLetters prog_5_method_5_code 4 (some .int) ∈ lw_tbl := List.mem_of_getElem? (i := 439) (by decide +kernel)
theorem mw_440 : Cond.methodLink "MillOfDistances$MapReader" 71 yJ0_length_8abf5 ∈ lw_tbl := List.mem_of_getElem? (i := 440) (by decide +kernel)
theorem mw_441 : Cond.instanceMethod yJ0_length_8abf5 ∈ lw_tbl := List.mem_of_getElem? (i := 441) (by decide +kernel)
theorem mw_442 : Cond.selects "java/lang/String" yJ0_length_8abf5 yJ0_length_8abf5 ∈ lw_tbl := List.mem_of_getElem? (i := 442) (by decide +kernel)
theorem mw_443 : Cond.code yJ0_length_8abf5 prog_11_method_54_code 1 (some .int) ∈ lw_tbl := List.mem_of_getElem? (i := 443) (by decide +kernel)
theorem mw_444 : Cond.methodLink "java/lang/String" 335 yJ0_coder_7d493 ∈ lw_tbl := List.mem_of_getElem? (i := 444) (by decide +kernel)
theorem mw_445 : Cond.instanceMethod yJ0_coder_7d493 ∈ lw_tbl := List.mem_of_getElem? (i := 445) (by decide +kernel)
theorem mw_446 : Cond.selects "java/lang/String" yJ0_coder_7d493 yJ0_coder_7d493 ∈ lw_tbl := List.mem_of_getElem? (i := 446) (by decide +kernel)
theorem mw_447 : Cond.code yJ0_coder_7d493 prog_11_method_152_code 1 (some .byte) ∈ lw_tbl := List.mem_of_getElem? (i := 447) (by decide +kernel)
theorem mw_448 : Cond.fieldLink "java/lang/String" 38 "java/lang/String" "COMPACT_STRINGS" "Z" ∈ lw_tbl := List.mem_of_getElem? (i := 448) (by decide +kernel)
theorem mw_449 : Cond.laysStatic "java/lang/String" "COMPACT_STRINGS" "Z" ∈ lw_tbl := List.mem_of_getElem? (i := 449) (by decide +kernel)
theorem mw_450 : Cond.methodLink "MillOfDistances$MapReader" 31 yX4_asInt ∈ lw_tbl := List.mem_of_getElem? (i := 450) (by decide +kernel)
theorem mw_451 : Cond.instanceMethod yX4_asInt ∈ lw_tbl := List.mem_of_getElem? (i := 451) (by decide +kernel)
theorem mw_452 : Cond.selects "MillOfDistances$Shelf" yX4_asInt yX4_asInt ∈ lw_tbl := List.mem_of_getElem? (i := 452) (by decide +kernel)
theorem mw_453 : Cond.code yX4_asInt prog_6_method_8_code 2 (some .int) ∈ lw_tbl := List.mem_of_getElem? (i := 453) (by decide +kernel)
theorem mw_454 : Cond.methodLink "MillOfDistances$MapReader" 83 yJ0_charAt_5068e ∈ lw_tbl := List.mem_of_getElem? (i := 454) (by decide +kernel)
theorem mw_455 : Cond.instanceMethod yJ0_charAt_5068e ∈ lw_tbl := List.mem_of_getElem? (i := 455) (by decide +kernel)
theorem mw_456 : Cond.selects "java/lang/String" yJ0_charAt_5068e yJ0_charAt_5068e ∈ lw_tbl := List.mem_of_getElem? (i := 456) (by decide +kernel)
theorem mw_457 : Cond.code yJ0_charAt_5068e prog_11_method_56_code 2 (some .char) ∈ lw_tbl := List.mem_of_getElem? (i := 457) (by decide +kernel)
theorem mw_458 : Cond.methodLink "java/lang/String" 492 yJ0_isLatin1_aae02 ∈ lw_tbl := List.mem_of_getElem? (i := 458) (by decide +kernel)
theorem mw_459 : Cond.instanceMethod yJ0_isLatin1_aae02 ∈ lw_tbl := List.mem_of_getElem? (i := 459) (by decide +kernel)
theorem mw_460 : Cond.selects "java/lang/String" yJ0_isLatin1_aae02 yJ0_isLatin1_aae02 ∈ lw_tbl := List.mem_of_getElem? (i := 460) (by decide +kernel)
theorem mw_461 : Cond.code yJ0_isLatin1_aae02 prog_11_method_154_code 1 (some .boolean) ∈ lw_tbl := List.mem_of_getElem? (i := 461) (by decide +kernel)
theorem mw_462 : Cond.methodLink "java/lang/String" 495 yJ1_charAt_3b067 ∈ lw_tbl := List.mem_of_getElem? (i := 462) (by decide +kernel)
theorem mw_463 : Cond.static yJ1_charAt_3b067 ∈ lw_tbl := List.mem_of_getElem? (i := 463) (by decide +kernel)
theorem mw_464 : Cond.code yJ1_charAt_3b067 prog_12_method_2_code 2 (some .char) ∈ lw_tbl := List.mem_of_getElem? (i := 464) (by decide +kernel)
theorem mw_465 : Cond.methodLink "java/lang/StringLatin1" 9 yJ0_checkIndex_df160 ∈ lw_tbl := List.mem_of_getElem? (i := 465) (by decide +kernel)
theorem mw_466 : Cond.static yJ0_checkIndex_df160 ∈ lw_tbl := List.mem_of_getElem? (i := 466) (by decide +kernel)
theorem mw_467 : Cond.code yJ0_checkIndex_df160 prog_11_method_155_code 2 none ∈ lw_tbl := List.mem_of_getElem? (i := 467) (by decide +kernel)
theorem mw_468 : Cond.fieldLink "java/lang/String" 1053 "jdk/internal/util/Preconditions" "SIOOBE_FORMATTER" "Ljava/util/function/BiFunction;" ∈ lw_tbl := List.mem_of_getElem? (i := 468) (by decide +kernel)
theorem mw_469 : Cond.laysStatic "jdk/internal/util/Preconditions" "SIOOBE_FORMATTER" "Ljava/util/function/BiFunction;" ∈ lw_tbl := List.mem_of_getElem? (i := 469) (by decide +kernel)
theorem mw_470 : Cond.methodLink "java/lang/String" 1059 yJ3_checkIndex_8e157 ∈ lw_tbl := List.mem_of_getElem? (i := 470) (by decide +kernel)
theorem mw_471 : Cond.static yJ3_checkIndex_8e157 ∈ lw_tbl := List.mem_of_getElem? (i := 471) (by decide +kernel)
theorem mw_472 : Cond.code yJ3_checkIndex_8e157 prog_16_method_11_code 3 (some .int) ∈ lw_tbl := List.mem_of_getElem? (i := 472) (by decide +kernel)
theorem mw_473 : Cond.methodLink "java/lang/String" 498 yJ2_charAt_3b067 ∈ lw_tbl := List.mem_of_getElem? (i := 473) (by decide +kernel)
theorem mw_474 : Cond.static yJ2_charAt_3b067 ∈ lw_tbl := List.mem_of_getElem? (i := 474) (by decide +kernel)
theorem mw_475 : Cond.code yJ2_charAt_3b067 prog_13_method_83_code 2 (some .char) ∈ lw_tbl := List.mem_of_getElem? (i := 475) (by decide +kernel)
theorem mw_476 : Cond.methodLink "java/lang/StringUTF16" 67 yJ2_checkIndex_2214a ∈ lw_tbl := List.mem_of_getElem? (i := 476) (by decide +kernel)
theorem mw_477 : Cond.static yJ2_checkIndex_2214a ∈ lw_tbl := List.mem_of_getElem? (i := 477) (by decide +kernel)
theorem mw_478 : Cond.code yJ2_checkIndex_2214a prog_13_method_91_code 2 none ∈ lw_tbl := List.mem_of_getElem? (i := 478) (by decide +kernel)
theorem mw_479 : Cond.methodLink "java/lang/StringUTF16" 48 yJ2_length_9d52b ∈ lw_tbl := List.mem_of_getElem? (i := 479) (by decide +kernel)
theorem mw_480 : Cond.static yJ2_length_9d52b ∈ lw_tbl := List.mem_of_getElem? (i := 480) (by decide +kernel)
theorem mw_481 : Cond.code yJ2_length_9d52b prog_13_method_6_code 1 (some .int) ∈ lw_tbl := List.mem_of_getElem? (i := 481) (by decide +kernel)
theorem mw_482 : Cond.methodLink "java/lang/StringUTF16" 414 yJ0_checkIndex_df160 ∈ lw_tbl := List.mem_of_getElem? (i := 482) (by decide +kernel)
theorem mw_483 : Cond.methodLink "java/lang/StringUTF16" 71 yJ2_getChar_3b067 ∈ lw_tbl := List.mem_of_getElem? (i := 483) (by decide +kernel)
theorem mw_484 : Cond.static yJ2_getChar_3b067 ∈ lw_tbl := List.mem_of_getElem? (i := 484) (by decide +kernel)
theorem mw_485 : Cond.code yJ2_getChar_3b067 prog_13_method_5_code 2 (some .char) ∈ lw_tbl := List.mem_of_getElem? (i := 485) (by decide +kernel)
theorem mw_486 : Cond.fieldLink "java/lang/StringUTF16" 44 "java/lang/StringUTF16" "$assertionsDisabled" "Z" ∈ lw_tbl := List.mem_of_getElem? (i := 486) (by decide +kernel)
theorem mw_487 : Cond.laysStatic "java/lang/StringUTF16" "$assertionsDisabled" "Z" ∈ lw_tbl := List.mem_of_getElem? (i := 487) (by decide +kernel)
theorem mw_488 : Cond.fieldLink "java/lang/StringUTF16" 59 "java/lang/StringUTF16" "HI_BYTE_SHIFT" "I" ∈ lw_tbl := List.mem_of_getElem? (i := 488) (by decide +kernel)
theorem mw_489 : Cond.laysStatic "java/lang/StringUTF16" "HI_BYTE_SHIFT" "I" ∈ lw_tbl := List.mem_of_getElem? (i := 489) (by decide +kernel)
theorem mw_490 : Cond.fieldLink "java/lang/StringUTF16" 63 "java/lang/StringUTF16" "LO_BYTE_SHIFT" "I" ∈ lw_tbl := List.mem_of_getElem? (i := 490) (by decide +kernel)
theorem mw_491 : Cond.laysStatic "java/lang/StringUTF16" "LO_BYTE_SHIFT" "I" ∈ lw_tbl := List.mem_of_getElem? (i := 491) (by decide +kernel)
theorem mw_492 : Cond.methodLink "MillOfDistances$MapReader" 77 yJ9_max_7cf53 ∈ lw_tbl := List.mem_of_getElem? (i := 492) (by decide +kernel)
theorem mw_493 : Cond.static yJ9_max_7cf53 ∈ lw_tbl := List.mem_of_getElem? (i := 493) (by decide +kernel)
theorem mw_494 : Cond.code yJ9_max_7cf53 prog_10_method_65_code 2 (some .int) ∈ lw_tbl := List.mem_of_getElem? (i := 494) (by decide +kernel)
theorem mw_495 : Cond.methodLink "MillOfDistances$MapReader" 42 yX1_hasRoom ∈ lw_tbl := List.mem_of_getElem? (i := 495) (by decide +kernel)
theorem mw_496 : Cond.methodLink "MillOfDistances$MapReader" 48 yX3_readNumber ∈ lw_tbl := List.mem_of_getElem? (i := 496) (by decide +kernel)
theorem mw_497 : Cond.privateMethod yX3_readNumber ∈ lw_tbl := List.mem_of_getElem? (i := 497) (by decide +kernel)
theorem mw_498 : Cond.instanceMethod yX3_readNumber ∈ lw_tbl := List.mem_of_getElem? (i := 498) (by decide +kernel)
theorem mw_499 : Cond.code yX3_readNumber prog_5_method_7_code 5 (some .boolean) ∈ lw_tbl := List.mem_of_getElem? (i := 499) (by decide +kernel)
theorem mw_500 : Cond.methodLink "MillOfDistances$MapReader" 101 yX3_isDigit ∈ lw_tbl := List.mem_of_getElem? (i := 500) (by decide +kernel)
theorem mw_501 : Cond.static yX3_isDigit ∈ lw_tbl := List.mem_of_getElem? (i := 501) (by decide +kernel)
theorem mw_502 : Cond.code yX3_isDigit prog_5_method_8_code 3 (some .boolean) ∈ lw_tbl := List.mem_of_getElem? (i := 502) (by decide +kernel)
theorem mw_503 : Cond.methodLink "MillOfDistances$MapReader" 52 yX3_stands ∈ lw_tbl := List.mem_of_getElem? (i := 503) (by decide +kernel)
theorem mw_504 : Cond.privateMethod yX3_stands ∈ lw_tbl := List.mem_of_getElem? (i := 504) (by decide +kernel)
theorem mw_505 : Cond.instanceMethod yX3_stands ∈ lw_tbl := List.mem_of_getElem? (i := 505) (by decide +kernel)
theorem mw_506 : Cond.code yX3_stands prog_5_method_9_code 6 (some .boolean) ∈ lw_tbl := List.mem_of_getElem? (i := 506) (by decide +kernel)
theorem mw_507 : Cond.constant "MillOfDistances$MapReader" 104 99999 ∈ lw_tbl := List.mem_of_getElem? (i := 507) (by decide +kernel)
theorem mw_508 : Cond.methodLink "MillOfDistances$MapReader" 105 yX1_has ∈ lw_tbl := List.mem_of_getElem? (i := 508) (by decide +kernel)
theorem mw_509 : Cond.methodLink "MillOfDistances$MapReader" 109 yX1_between ∈ lw_tbl := List.mem_of_getElem? (i := 509) (by decide +kernel)
theorem mw_510 : Cond.methodLink "MillOfDistances$MapReader" 112 yX1_mayPinch ∈ lw_tbl := List.mem_of_getElem? (i := 510) (by decide +kernel)
theorem mw_511 : Cond.instanceMethod yX1_mayPinch ∈ lw_tbl := List.mem_of_getElem? (i := 511) (by decide +kernel)
theorem mw_512 : Cond.selects "MillOfDistances$Land" yX1_mayPinch yX1_mayPinch ∈ lw_tbl := List.mem_of_getElem? (i := 512) (by decide +kernel)
theorem mw_513 : Cond.code yX1_mayPinch prog_3_method_18_code 5 (some .boolean) ∈ lw_tbl := List.mem_of_getElem? (i := 513) (by decide +kernel)
theorem mw_514 : Cond.methodLink "MillOfDistances$Land" 89 yJ9_abs_0f7a4 ∈ lw_tbl := List.mem_of_getElem? (i := 514) (by decide +kernel)
theorem mw_515 : Cond.static yJ9_abs_0f7a4 ∈ lw_tbl := List.mem_of_getElem? (i := 515) (by decide +kernel)
theorem mw_516 : Cond.code yJ9_abs_0f7a4 prog_10_method_59_code 1 (some .int) ∈ lw_tbl := List.mem_of_getElem? (i := 516) (by decide +kernel)
theorem mw_517 : Cond.methodLink "MillOfDistances$Land" 92 yX1_costOf ∈ lw_tbl := List.mem_of_getElem? (i := 517) (by decide +kernel)
theorem mw_518 : Cond.instanceMethod yX1_costOf ∈ lw_tbl := List.mem_of_getElem? (i := 518) (by decide +kernel)
theorem mw_519 : Cond.selects "MillOfDistances$Land" yX1_costOf yX1_costOf ∈ lw_tbl := List.mem_of_getElem? (i := 519) (by decide +kernel)
theorem mw_520 : Cond.code yX1_costOf prog_3_method_15_code 4 (some .int) ∈ lw_tbl := List.mem_of_getElem? (i := 520) (by decide +kernel)
theorem mw_521 : Cond.methodLink "MillOfDistances$Land" 67 yX1_asks ∈ lw_tbl := List.mem_of_getElem? (i := 521) (by decide +kernel)
theorem mw_522 : Cond.methodLink "MillOfDistances$Land" 70 yJ9_max_7cf53 ∈ lw_tbl := List.mem_of_getElem? (i := 522) (by decide +kernel)
theorem mw_523 : Cond.methodLink "MillOfDistances$MapReader" 59 yX3_tell ∈ lw_tbl := List.mem_of_getElem? (i := 523) (by decide +kernel)
theorem mw_524 : Cond.privateMethod yX3_tell ∈ lw_tbl := List.mem_of_getElem? (i := 524) (by decide +kernel)
theorem mw_525 : Cond.instanceMethod yX3_tell ∈ lw_tbl := List.mem_of_getElem? (i := 525) (by decide +kernel)
theorem mw_526 : Cond.code yX3_tell prog_5_method_10_code 3 none ∈ lw_tbl := List.mem_of_getElem? (i := 526) (by decide +kernel)
theorem mw_527 : Cond.methodLink "MillOfDistances$MapReader" 116 yX1_found ∈ lw_tbl := List.mem_of_getElem? (i := 527) (by decide +kernel)
theorem mw_528 : Cond.methodLink "MillOfDistances$MapReader" 119 yX1_lay ∈ lw_tbl := List.mem_of_getElem? (i := 528) (by decide +kernel)
theorem mw_529 : Cond.methodLink "MillOfDistances$MapReader" 123 yX1_grindRoad ∈ lw_tbl := List.mem_of_getElem? (i := 529) (by decide +kernel)
theorem mw_530 : Cond.instanceMethod yX1_grindRoad ∈ lw_tbl := List.mem_of_getElem? (i := 530) (by decide +kernel)
theorem mw_531 : Cond.selects "MillOfDistances$Land" yX1_grindRoad yX1_grindRoad ∈ lw_tbl := List.mem_of_getElem? (i := 531) (by decide +kernel)
theorem mw_532 : Cond.code yX1_grindRoad prog_3_method_17_code 3 none ∈ lw_tbl := List.mem_of_getElem? (i := 532) (by decide +kernel)
theorem mw_533 : Cond.constant "MillOfDistances$Land" 78 99999 ∈ lw_tbl := List.mem_of_getElem? (i := 533) (by decide +kernel)
theorem mw_534 : Cond.methodLink "MillOfDistances$Land" 79 yX1_yieldOf ∈ lw_tbl := List.mem_of_getElem? (i := 534) (by decide +kernel)
theorem mw_535 : Cond.instanceMethod yX1_yieldOf ∈ lw_tbl := List.mem_of_getElem? (i := 535) (by decide +kernel)
theorem mw_536 : Cond.selects "MillOfDistances$Land" yX1_yieldOf yX1_yieldOf ∈ lw_tbl := List.mem_of_getElem? (i := 536) (by decide +kernel)
theorem mw_537 : Cond.code yX1_yieldOf prog_3_method_16_code 4 (some .int) ∈ lw_tbl := List.mem_of_getElem? (i := 537) (by decide +kernel)
theorem mw_538 : Cond.methodLink "MillOfDistances$Land" 75 yX1_isOf ∈ lw_tbl := List.mem_of_getElem? (i := 538) (by decide +kernel)
theorem mw_539 : Cond.methodLink "MillOfDistances$Land" 82 yJ9_min_7cf53 ∈ lw_tbl := List.mem_of_getElem? (i := 539) (by decide +kernel)
theorem mw_540 : Cond.static yJ9_min_7cf53 ∈ lw_tbl := List.mem_of_getElem? (i := 540) (by decide +kernel)
theorem mw_541 : Cond.code yJ9_min_7cf53 prog_10_method_69_code 2 (some .int) ∈ lw_tbl := List.mem_of_getElem? (i := 541) (by decide +kernel)
theorem mw_542 : Cond.methodLink "MillOfDistances$Land" 85 yX1_lay ∈ lw_tbl := List.mem_of_getElem? (i := 542) (by decide +kernel)
theorem mw_543 : Cond.methodLink "MillOfDistances$MapReader" 131 yX1_pinch ∈ lw_tbl := List.mem_of_getElem? (i := 543) (by decide +kernel)
theorem mw_544 : Cond.instanceMethod yX1_pinch ∈ lw_tbl := List.mem_of_getElem? (i := 544) (by decide +kernel)
theorem mw_545 : Cond.selects "MillOfDistances$Land" yX1_pinch yX1_pinch ∈ lw_tbl := List.mem_of_getElem? (i := 545) (by decide +kernel)
theorem mw_546 : Cond.code yX1_pinch prog_3_method_19_code 4 none ∈ lw_tbl := List.mem_of_getElem? (i := 546) (by decide +kernel)
theorem mw_547 : Cond.arrayClass .byte ∈ lw_tbl := List.mem_of_getElem? (i := 547) (by decide +kernel)
theorem mw_548 : Cond.methodLink "MillOfDistancesLaw" 73 yX5_fault ∈ lw_tbl := List.mem_of_getElem? (i := 548) (by decide +kernel)
theorem mw_549 : Cond.instanceMethod yX5_fault ∈ lw_tbl := List.mem_of_getElem? (i := 549) (by decide +kernel)
theorem mw_550 : Cond.selects "MillOfDistances" yX5_fault yX5_fault ∈ lw_tbl := List.mem_of_getElem? (i := 550) (by decide +kernel)
theorem mw_551 : Cond.code yX5_fault prog_1_method_15_code 1 (some .int) ∈ lw_tbl := List.mem_of_getElem? (i := 551) (by decide +kernel)
theorem mw_552 : Cond.methodLink "MillOfDistancesLaw" 78 yX5_cost ∈ lw_tbl := List.mem_of_getElem? (i := 552) (by decide +kernel)
theorem mw_553 : Cond.instanceMethod yX5_cost ∈ lw_tbl := List.mem_of_getElem? (i := 553) (by decide +kernel)
theorem mw_554 : Cond.selects "MillOfDistances" yX5_cost yX5_cost ∈ lw_tbl := List.mem_of_getElem? (i := 554) (by decide +kernel)
theorem mw_555 : Cond.code yX5_cost prog_1_method_16_code 4 (some .int) ∈ lw_tbl := List.mem_of_getElem? (i := 555) (by decide +kernel)
theorem mw_556 : Cond.methodLink "MillOfDistances" 185 yX1_costOf ∈ lw_tbl := List.mem_of_getElem? (i := 556) (by decide +kernel)
theorem mw_557 : Cond.methodLink "MillOfDistancesLaw" 82 yX5_yields ∈ lw_tbl := List.mem_of_getElem? (i := 557) (by decide +kernel)
theorem mw_558 : Cond.instanceMethod yX5_yields ∈ lw_tbl := List.mem_of_getElem? (i := 558) (by decide +kernel)
theorem mw_559 : Cond.selects "MillOfDistances" yX5_yields yX5_yields ∈ lw_tbl := List.mem_of_getElem? (i := 559) (by decide +kernel)
theorem mw_560 : Cond.code yX5_yields prog_1_method_17_code 4 (some .int) ∈ lw_tbl := List.mem_of_getElem? (i := 560) (by decide +kernel)
theorem mw_561 : Cond.methodLink "MillOfDistances" 189 yX5_roadProblem ∈ lw_tbl := List.mem_of_getElem? (i := 561) (by decide +kernel)
theorem mw_562 : Cond.privateMethod yX5_roadProblem ∈ lw_tbl := List.mem_of_getElem? (i := 562) (by decide +kernel)
theorem mw_563 : Cond.instanceMethod yX5_roadProblem ∈ lw_tbl := List.mem_of_getElem? (i := 563) (by decide +kernel)
theorem mw_564 : Cond.code yX5_roadProblem prog_1_method_54_code 3 (some .int) ∈ lw_tbl := List.mem_of_getElem? (i := 564) (by decide +kernel)
theorem mw_565 : Cond.methodLink "MillOfDistances" 192 yX1_yieldOf ∈ lw_tbl := List.mem_of_getElem? (i := 565) (by decide +kernel)
theorem mw_566 : Cond.methodLink "MillOfDistancesLaw" 86 yX5_away ∈ lw_tbl := List.mem_of_getElem? (i := 566) (by decide +kernel)
theorem mw_567 : Cond.instanceMethod yX5_away ∈ lw_tbl := List.mem_of_getElem? (i := 567) (by decide +kernel)
theorem mw_568 : Cond.selects "MillOfDistances" yX5_away yX5_away ∈ lw_tbl := List.mem_of_getElem? (i := 568) (by decide +kernel)
theorem mw_569 : Cond.code yX5_away prog_1_method_18_code 3 (some .int) ∈ lw_tbl := List.mem_of_getElem? (i := 569) (by decide +kernel)
theorem mw_570 : Cond.methodLink "MillOfDistances" 195 yX2_measure ∈ lw_tbl := List.mem_of_getElem? (i := 570) (by decide +kernel)
theorem mw_571 : Cond.instanceMethod yX2_measure ∈ lw_tbl := List.mem_of_getElem? (i := 571) (by decide +kernel)
theorem mw_572 : Cond.selects "MillOfDistances$Lengths" yX2_measure yX2_measure ∈ lw_tbl := List.mem_of_getElem? (i := 572) (by decide +kernel)
theorem mw_573 : Cond.code yX2_measure prog_4_method_2_code 2 none ∈ lw_tbl := List.mem_of_getElem? (i := 573) (by decide +kernel)
theorem mw_574 : Cond.methodLink "MillOfDistances$Lengths" 15 yX2_takeRoads ∈ lw_tbl := List.mem_of_getElem? (i := 574) (by decide +kernel)
theorem mw_575 : Cond.privateMethod yX2_takeRoads ∈ lw_tbl := List.mem_of_getElem? (i := 575) (by decide +kernel)
theorem mw_576 : Cond.instanceMethod yX2_takeRoads ∈ lw_tbl := List.mem_of_getElem? (i := 576) (by decide +kernel)
theorem mw_577 : Cond.code yX2_takeRoads prog_4_method_5_code 5 none ∈ lw_tbl := List.mem_of_getElem? (i := 577) (by decide +kernel)
theorem mw_578 : Cond.methodLink "MillOfDistances$Lengths" 22 yX2_note ∈ lw_tbl := List.mem_of_getElem? (i := 578) (by decide +kernel)
theorem mw_579 : Cond.privateMethod yX2_note ∈ lw_tbl := List.mem_of_getElem? (i := 579) (by decide +kernel)
theorem mw_580 : Cond.instanceMethod yX2_note ∈ lw_tbl := List.mem_of_getElem? (i := 580) (by decide +kernel)
theorem mw_581 : Cond.code yX2_note prog_4_method_6_code 4 none ∈ lw_tbl := List.mem_of_getElem? (i := 581) (by decide +kernel)
theorem mw_582 : Cond.methodLink "MillOfDistances$Lengths" 47 yX2_isInside ∈ lw_tbl := List.mem_of_getElem? (i := 582) (by decide +kernel)
theorem mw_583 : Cond.privateMethod yX2_isInside ∈ lw_tbl := List.mem_of_getElem? (i := 583) (by decide +kernel)
theorem mw_584 : Cond.instanceMethod yX2_isInside ∈ lw_tbl := List.mem_of_getElem? (i := 584) (by decide +kernel)
theorem mw_585 : Cond.code yX2_isInside prog_4_method_7_code 3 (some .boolean) ∈ lw_tbl := List.mem_of_getElem? (i := 585) (by decide +kernel)
theorem mw_586 : Cond.methodLink "MillOfDistances$Lengths" 43 yX1_between ∈ lw_tbl := List.mem_of_getElem? (i := 586) (by decide +kernel)
theorem mw_587 : Cond.methodLink "MillOfDistances$Lengths" 19 yX2_close ∈ lw_tbl := List.mem_of_getElem? (i := 587) (by decide +kernel)
theorem mw_588 : Cond.privateMethod yX2_close ∈ lw_tbl := List.mem_of_getElem? (i := 588) (by decide +kernel)
theorem mw_589 : Cond.instanceMethod yX2_close ∈ lw_tbl := List.mem_of_getElem? (i := 589) (by decide +kernel)
theorem mw_590 : Cond.code yX2_close prog_4_method_8_code 7 none ∈ lw_tbl := List.mem_of_getElem? (i := 590) (by decide +kernel)
theorem mw_591 : Cond.methodLink "MillOfDistances$Lengths" 51 yJ9_min_7cf53 ∈ lw_tbl := List.mem_of_getElem? (i := 591) (by decide +kernel)
theorem mw_592 : Cond.methodLink "MillOfDistances" 198 yX2_lengthOrNone ∈ lw_tbl := List.mem_of_getElem? (i := 592) (by decide +kernel)
theorem mw_593 : Cond.instanceMethod yX2_lengthOrNone ∈ lw_tbl := List.mem_of_getElem? (i := 593) (by decide +kernel)
theorem mw_594 : Cond.selects "MillOfDistances$Lengths" yX2_lengthOrNone yX2_lengthOrNone ∈ lw_tbl := List.mem_of_getElem? (i := 594) (by decide +kernel)
theorem mw_595 : Cond.code yX2_lengthOrNone prog_4_method_11_code 3 (some .int) ∈ lw_tbl := List.mem_of_getElem? (i := 595) (by decide +kernel)
theorem mw_596 : Cond.methodLink "MillOfDistances$Lengths" 59 yX2_joins ∈ lw_tbl := List.mem_of_getElem? (i := 596) (by decide +kernel)
theorem mw_597 : Cond.instanceMethod yX2_joins ∈ lw_tbl := List.mem_of_getElem? (i := 597) (by decide +kernel)
theorem mw_598 : Cond.selects "MillOfDistances$Lengths" yX2_joins yX2_joins ∈ lw_tbl := List.mem_of_getElem? (i := 598) (by decide +kernel)
theorem mw_599 : Cond.code yX2_joins prog_4_method_10_code 3 (some .boolean) ∈ lw_tbl := List.mem_of_getElem? (i := 599) (by decide +kernel)
theorem mw_600 : Cond.methodLink "MillOfDistances$Lengths" 56 yX2_length ∈ lw_tbl := List.mem_of_getElem? (i := 600) (by decide +kernel)
theorem mw_601 : Cond.instanceMethod yX2_length ∈ lw_tbl := List.mem_of_getElem? (i := 601) (by decide +kernel)
theorem mw_602 : Cond.selects "MillOfDistances$Lengths" yX2_length yX2_length ∈ lw_tbl := List.mem_of_getElem? (i := 602) (by decide +kernel)
theorem mw_603 : Cond.code yX2_length prog_4_method_9_code 3 (some .int) ∈ lw_tbl := List.mem_of_getElem? (i := 603) (by decide +kernel)
theorem mw_604 : Cond.methodLink "MillOfDistancesLaw" 90 yX5_shortest ∈ lw_tbl := List.mem_of_getElem? (i := 604) (by decide +kernel)
theorem mw_605 : Cond.instanceMethod yX5_shortest ∈ lw_tbl := List.mem_of_getElem? (i := 605) (by decide +kernel)
theorem mw_606 : Cond.selects "MillOfDistances" yX5_shortest yX5_shortest ∈ lw_tbl := List.mem_of_getElem? (i := 606) (by decide +kernel)
theorem mw_607 : Cond.code yX5_shortest prog_1_method_19_code 6 (some .int) ∈ lw_tbl := List.mem_of_getElem? (i := 607) (by decide +kernel)
theorem mw_608 : Cond.methodLink "MillOfDistances" 201 yX2_joins ∈ lw_tbl := List.mem_of_getElem? (i := 608) (by decide +kernel)
theorem mw_609 : Cond.methodLink "MillOfDistances" 204 yX2_nextOnTheWay ∈ lw_tbl := List.mem_of_getElem? (i := 609) (by decide +kernel)
theorem mw_610 : Cond.instanceMethod yX2_nextOnTheWay ∈ lw_tbl := List.mem_of_getElem? (i := 610) (by decide +kernel)
theorem mw_611 : Cond.selects "MillOfDistances$Lengths" yX2_nextOnTheWay yX2_nextOnTheWay ∈ lw_tbl := List.mem_of_getElem? (i := 611) (by decide +kernel)
theorem mw_612 : Cond.code yX2_nextOnTheWay prog_4_method_13_code 6 (some .int) ∈ lw_tbl := List.mem_of_getElem? (i := 612) (by decide +kernel)
theorem mw_613 : Cond.methodLink "MillOfDistancesLaw" 94 yX5_within ∈ lw_tbl := List.mem_of_getElem? (i := 613) (by decide +kernel)
theorem mw_614 : Cond.instanceMethod yX5_within ∈ lw_tbl := List.mem_of_getElem? (i := 614) (by decide +kernel)
theorem mw_615 : Cond.selects "MillOfDistances" yX5_within yX5_within ∈ lw_tbl := List.mem_of_getElem? (i := 615) (by decide +kernel)
theorem mw_616 : Cond.code yX5_within prog_1_method_20_code 3 (some .int) ∈ lw_tbl := List.mem_of_getElem? (i := 616) (by decide +kernel)
theorem mw_617 : Cond.methodLink "MillOfDistances" 208 yX2_reach ∈ lw_tbl := List.mem_of_getElem? (i := 617) (by decide +kernel)
theorem mw_618 : Cond.instanceMethod yX2_reach ∈ lw_tbl := List.mem_of_getElem? (i := 618) (by decide +kernel)
theorem mw_619 : Cond.selects "MillOfDistances$Lengths" yX2_reach yX2_reach ∈ lw_tbl := List.mem_of_getElem? (i := 619) (by decide +kernel)
theorem mw_620 : Cond.code yX2_reach prog_4_method_14_code 5 (some .int) ∈ lw_tbl := List.mem_of_getElem? (i := 620) (by decide +kernel)
theorem mw_621 : Cond.methodLink "MillOfDistancesLaw" 98 yX5_whole ∈ lw_tbl := List.mem_of_getElem? (i := 621) (by decide +kernel)
theorem mw_622 : Cond.instanceMethod yX5_whole ∈ lw_tbl := List.mem_of_getElem? (i := 622) (by decide +kernel)
theorem mw_623 : Cond.selects "MillOfDistances" yX5_whole yX5_whole ∈ lw_tbl := List.mem_of_getElem? (i := 623) (by decide +kernel)
theorem mw_624 : Cond.code yX5_whole prog_1_method_21_code 2 (some .int) ∈ lw_tbl := List.mem_of_getElem? (i := 624) (by decide +kernel)
theorem mw_625 : Cond.methodLink "MillOfDistances" 214 yX1_leastMilesThatKeep ∈ lw_tbl := List.mem_of_getElem? (i := 625) (by decide +kernel)
theorem mw_626 : Cond.instanceMethod yX1_leastMilesThatKeep ∈ lw_tbl := List.mem_of_getElem? (i := 626) (by decide +kernel)
theorem mw_627 : Cond.selects "MillOfDistances$Land" yX1_leastMilesThatKeep yX1_leastMilesThatKeep ∈ lw_tbl := List.mem_of_getElem? (i := 627) (by decide +kernel)
theorem mw_628 : Cond.code yX1_leastMilesThatKeep prog_3_method_23_code 8 (some .int) ∈ lw_tbl := List.mem_of_getElem? (i := 628) (by decide +kernel)
theorem mw_629 : Cond.methodLink "MillOfDistances$Land" 107 yX1_leastMilesFrom ∈ lw_tbl := List.mem_of_getElem? (i := 629) (by decide +kernel)
theorem mw_630 : Cond.privateMethod yX1_leastMilesFrom ∈ lw_tbl := List.mem_of_getElem? (i := 630) (by decide +kernel)
theorem mw_631 : Cond.instanceMethod yX1_leastMilesFrom ∈ lw_tbl := List.mem_of_getElem? (i := 631) (by decide +kernel)
theorem mw_632 : Cond.code yX1_leastMilesFrom prog_3_method_24_code 6 (some .int) ∈ lw_tbl := List.mem_of_getElem? (i := 632) (by decide +kernel)
theorem mw_633 : Cond.methodLink "MillOfDistances" 218 yX2_parts ∈ lw_tbl := List.mem_of_getElem? (i := 633) (by decide +kernel)
theorem mw_634 : Cond.instanceMethod yX2_parts ∈ lw_tbl := List.mem_of_getElem? (i := 634) (by decide +kernel)
theorem mw_635 : Cond.selects "MillOfDistances$Lengths" yX2_parts yX2_parts ∈ lw_tbl := List.mem_of_getElem? (i := 635) (by decide +kernel)
theorem mw_636 : Cond.code yX2_parts prog_4_method_16_code 4 (some .int) ∈ lw_tbl := List.mem_of_getElem? (i := 636) (by decide +kernel)
theorem mw_637 : Cond.methodLink "MillOfDistances$Lengths" 62 yX2_reach ∈ lw_tbl := List.mem_of_getElem? (i := 637) (by decide +kernel)
theorem mw_638 : Cond.methodLink "MillOfDistances" 221 yX2_middle ∈ lw_tbl := List.mem_of_getElem? (i := 638) (by decide +kernel)
theorem mw_639 : Cond.instanceMethod yX2_middle ∈ lw_tbl := List.mem_of_getElem? (i := 639) (by decide +kernel)
theorem mw_640 : Cond.selects "MillOfDistances$Lengths" yX2_middle yX2_middle ∈ lw_tbl := List.mem_of_getElem? (i := 640) (by decide +kernel)
theorem mw_641 : Cond.code yX2_middle prog_4_method_17_code 6 (some .int) ∈ lw_tbl := List.mem_of_getElem? (i := 641) (by decide +kernel)
theorem mw_642 : Cond.methodLink "MillOfDistances$Lengths" 65 yJ9_max_7cf53 ∈ lw_tbl := List.mem_of_getElem? (i := 642) (by decide +kernel)
theorem mw_643 : Cond.methodLink "MillOfDistances" 224 yX2_greatest ∈ lw_tbl := List.mem_of_getElem? (i := 643) (by decide +kernel)
theorem mw_644 : Cond.instanceMethod yX2_greatest ∈ lw_tbl := List.mem_of_getElem? (i := 644) (by decide +kernel)
theorem mw_645 : Cond.selects "MillOfDistances$Lengths" yX2_greatest yX2_greatest ∈ lw_tbl := List.mem_of_getElem? (i := 645) (by decide +kernel)
theorem mw_646 : Cond.code yX2_greatest prog_4_method_18_code 4 (some .int) ∈ lw_tbl := List.mem_of_getElem? (i := 646) (by decide +kernel)
theorem mw_647 : Cond.methodLink "MillOfDistances$Lengths" 68 yX2_lengthOrNone ∈ lw_tbl := List.mem_of_getElem? (i := 647) (by decide +kernel)
theorem mw_648 : Cond.methodLink "MillOfDistancesLaw" 102 yX5_harm ∈ lw_tbl := List.mem_of_getElem? (i := 648) (by decide +kernel)
theorem mw_649 : Cond.instanceMethod yX5_harm ∈ lw_tbl := List.mem_of_getElem? (i := 649) (by decide +kernel)
theorem mw_650 : Cond.selects "MillOfDistances" yX5_harm yX5_harm ∈ lw_tbl := List.mem_of_getElem? (i := 650) (by decide +kernel)
theorem mw_651 : Cond.code yX5_harm prog_1_method_22_code 5 (some .int) ∈ lw_tbl := List.mem_of_getElem? (i := 651) (by decide +kernel)
theorem mw_652 : Cond.methodLink "MillOfDistances" 227 yX2_measureWithout ∈ lw_tbl := List.mem_of_getElem? (i := 652) (by decide +kernel)
theorem mw_653 : Cond.instanceMethod yX2_measureWithout ∈ lw_tbl := List.mem_of_getElem? (i := 653) (by decide +kernel)
theorem mw_654 : Cond.selects "MillOfDistances$Lengths" yX2_measureWithout yX2_measureWithout ∈ lw_tbl := List.mem_of_getElem? (i := 654) (by decide +kernel)
theorem mw_655 : Cond.code yX2_measureWithout prog_4_method_3_code 4 none ∈ lw_tbl := List.mem_of_getElem? (i := 655) (by decide +kernel)
theorem mw_656 : Cond.methodLink "MillOfDistances" 231 yX2_total ∈ lw_tbl := List.mem_of_getElem? (i := 656) (by decide +kernel)
theorem mw_657 : Cond.instanceMethod yX2_total ∈ lw_tbl := List.mem_of_getElem? (i := 657) (by decide +kernel)
theorem mw_658 : Cond.selects "MillOfDistances$Lengths" yX2_total yX2_total ∈ lw_tbl := List.mem_of_getElem? (i := 658) (by decide +kernel)
theorem mw_659 : Cond.code yX2_total prog_4_method_15_code 4 (some .int) ∈ lw_tbl := List.mem_of_getElem? (i := 659) (by decide +kernel)
theorem mw_660 : Cond.methodLink "MillOfDistancesLaw" 106 yX5_leastHarm ∈ lw_tbl := List.mem_of_getElem? (i := 660) (by decide +kernel)
theorem mw_661 : Cond.instanceMethod yX5_leastHarm ∈ lw_tbl := List.mem_of_getElem? (i := 661) (by decide +kernel)
theorem mw_662 : Cond.selects "MillOfDistances" yX5_leastHarm yX5_leastHarm ∈ lw_tbl := List.mem_of_getElem? (i := 662) (by decide +kernel)
theorem mw_663 : Cond.code yX5_leastHarm prog_1_method_23_code 6 (some .int) ∈ lw_tbl := List.mem_of_getElem? (i := 663) (by decide +kernel)
theorem mw_664 : Cond.methodLink "MillOfDistancesLaw" 110 yX5_cheapest ∈ lw_tbl := List.mem_of_getElem? (i := 664) (by decide +kernel)
theorem mw_665 : Cond.instanceMethod yX5_cheapest ∈ lw_tbl := List.mem_of_getElem? (i := 665) (by decide +kernel)
theorem mw_666 : Cond.selects "MillOfDistances" yX5_cheapest yX5_cheapest ∈ lw_tbl := List.mem_of_getElem? (i := 666) (by decide +kernel)
theorem mw_667 : Cond.code yX5_cheapest prog_1_method_24_code 5 (some .int) ∈ lw_tbl := List.mem_of_getElem? (i := 667) (by decide +kernel)
theorem mw_668 : Cond.methodLink "MillOfDistances" 234 yX2_length ∈ lw_tbl := List.mem_of_getElem? (i := 668) (by decide +kernel)
theorem mw_669 : Cond.methodLink "MillOfDistances" 237 yX5_cheapestPinch ∈ lw_tbl := List.mem_of_getElem? (i := 669) (by decide +kernel)
theorem mw_670 : Cond.privateMethod yX5_cheapestPinch ∈ lw_tbl := List.mem_of_getElem? (i := 670) (by decide +kernel)
theorem mw_671 : Cond.instanceMethod yX5_cheapestPinch ∈ lw_tbl := List.mem_of_getElem? (i := 671) (by decide +kernel)
theorem mw_672 : Cond.code yX5_cheapestPinch prog_1_method_25_code 12 (some .int) ∈ lw_tbl := List.mem_of_getElem? (i := 672) (by decide +kernel)
theorem mw_673 : Cond.methodLink "MillOfDistances" 241 yX2_lengthBeside ∈ lw_tbl := List.mem_of_getElem? (i := 673) (by decide +kernel)
theorem mw_674 : Cond.instanceMethod yX2_lengthBeside ∈ lw_tbl := List.mem_of_getElem? (i := 674) (by decide +kernel)
theorem mw_675 : Cond.selects "MillOfDistances$Lengths" yX2_lengthBeside yX2_lengthBeside ∈ lw_tbl := List.mem_of_getElem? (i := 675) (by decide +kernel)
theorem mw_676 : Cond.code yX2_lengthBeside prog_4_method_12_code 5 (some .int) ∈ lw_tbl := List.mem_of_getElem? (i := 676) (by decide +kernel)
theorem mw_677 : Cond.methodLink "MillOfDistancesLaw" 115 yX5_meet ∈ lw_tbl := List.mem_of_getElem? (i := 677) (by decide +kernel)
theorem mw_678 : Cond.instanceMethod yX5_meet ∈ lw_tbl := List.mem_of_getElem? (i := 678) (by decide +kernel)
theorem mw_679 : Cond.selects "MillOfDistances" yX5_meet yX5_meet ∈ lw_tbl := List.mem_of_getElem? (i := 679) (by decide +kernel)
theorem mw_680 : Cond.code yX5_meet prog_1_method_26_code 7 (some .int) ∈ lw_tbl := List.mem_of_getElem? (i := 680) (by decide +kernel)
theorem mw_681 : Cond.methodLink "MillOfDistances" 244 yJ9_max_7cf53 ∈ lw_tbl := List.mem_of_getElem? (i := 681) (by decide +kernel)
theorem mw_682 : Cond.methodLink "MillOfDistancesLaw" 119 yX5_journey ∈ lw_tbl := List.mem_of_getElem? (i := 682) (by decide +kernel)
theorem mw_683 : Cond.instanceMethod yX5_journey ∈ lw_tbl := List.mem_of_getElem? (i := 683) (by decide +kernel)
theorem mw_684 : Cond.selects "MillOfDistances" yX5_journey yX5_journey ∈ lw_tbl := List.mem_of_getElem? (i := 684) (by decide +kernel)
theorem mw_685 : Cond.code yX5_journey prog_1_method_27_code 7 (some .int) ∈ lw_tbl := List.mem_of_getElem? (i := 685) (by decide +kernel)
theorem mw_686 : Cond.methodLink "MillOfDistances" 249 yX5_toldProblem ∈ lw_tbl := List.mem_of_getElem? (i := 686) (by decide +kernel)
theorem mw_687 : Cond.static yX5_toldProblem ∈ lw_tbl := List.mem_of_getElem? (i := 687) (by decide +kernel)
theorem mw_688 : Cond.code yX5_toldProblem prog_1_method_57_code 4 (some .int) ∈ lw_tbl := List.mem_of_getElem? (i := 688) (by decide +kernel)
theorem mw_689 : Cond.methodLink "MillOfDistances" 253 yX5_canBeWalkedBy ∈ lw_tbl := List.mem_of_getElem? (i := 689) (by decide +kernel)
theorem mw_690 : Cond.privateMethod yX5_canBeWalkedBy ∈ lw_tbl := List.mem_of_getElem? (i := 690) (by decide +kernel)
theorem mw_691 : Cond.instanceMethod yX5_canBeWalkedBy ∈ lw_tbl := List.mem_of_getElem? (i := 691) (by decide +kernel)
theorem mw_692 : Cond.code yX5_canBeWalkedBy prog_1_method_28_code 6 (some .boolean) ∈ lw_tbl := List.mem_of_getElem? (i := 692) (by decide +kernel)
theorem mw_693 : Cond.methodLink "MillOfDistances" 261 yX4_asInt ∈ lw_tbl := List.mem_of_getElem? (i := 693) (by decide +kernel)
theorem mw_694 : Cond.methodLink "MillOfDistances" 257 yX5_walk ∈ lw_tbl := List.mem_of_getElem? (i := 694) (by decide +kernel)
theorem mw_695 : Cond.privateMethod yX5_walk ∈ lw_tbl := List.mem_of_getElem? (i := 695) (by decide +kernel)
theorem mw_696 : Cond.instanceMethod yX5_walk ∈ lw_tbl := List.mem_of_getElem? (i := 696) (by decide +kernel)
theorem mw_697 : Cond.code yX5_walk prog_1_method_29_code 11 (some .int) ∈ lw_tbl := List.mem_of_getElem? (i := 697) (by decide +kernel)
theorem mw_698 : Cond.methodLink "MillOfDistances" 264 yX1_bend ∈ lw_tbl := List.mem_of_getElem? (i := 698) (by decide +kernel)
theorem mw_699 : Cond.instanceMethod yX1_bend ∈ lw_tbl := List.mem_of_getElem? (i := 699) (by decide +kernel)
theorem mw_700 : Cond.selects "MillOfDistances$Land" yX1_bend yX1_bend ∈ lw_tbl := List.mem_of_getElem? (i := 700) (by decide +kernel)
theorem mw_701 : Cond.code yX1_bend prog_3_method_20_code 6 none ∈ lw_tbl := List.mem_of_getElem? (i := 701) (by decide +kernel)
theorem mw_702 : Cond.constantLong "MillOfDistances$Land" 96 999 ∈ lw_tbl := List.mem_of_getElem? (i := 702) (by decide +kernel)
theorem mw_703 : Cond.methodLink "MillOfDistances$Land" 98 yJ9_min_f86c9 ∈ lw_tbl := List.mem_of_getElem? (i := 703) (by decide +kernel)
theorem mw_704 : Cond.static yJ9_min_f86c9 ∈ lw_tbl := List.mem_of_getElem? (i := 704) (by decide +kernel)
theorem mw_705 : Cond.code yJ9_min_f86c9 prog_10_method_70_code 4 (some .long) ∈ lw_tbl := List.mem_of_getElem? (i := 705) (by decide +kernel)
theorem mw_706 : Cond.methodLink "MillOfDistances$Land" 101 yJ9_max_f86c9 ∈ lw_tbl := List.mem_of_getElem? (i := 706) (by decide +kernel)
theorem mw_707 : Cond.static yJ9_max_f86c9 ∈ lw_tbl := List.mem_of_getElem? (i := 707) (by decide +kernel)
theorem mw_708 : Cond.code yJ9_max_f86c9 prog_10_method_66_code 4 (some .long) ∈ lw_tbl := List.mem_of_getElem? (i := 708) (by decide +kernel)
theorem mw_709 : Cond.methodLink "MillOfDistancesLaw" 123 yX5_judge ∈ lw_tbl := List.mem_of_getElem? (i := 709) (by decide +kernel)
theorem mw_710 : Cond.instanceMethod yX5_judge ∈ lw_tbl := List.mem_of_getElem? (i := 710) (by decide +kernel)
theorem mw_711 : Cond.selects "MillOfDistances" yX5_judge yX5_judge ∈ lw_tbl := List.mem_of_getElem? (i := 711) (by decide +kernel)
theorem mw_712 : Cond.code yX5_judge prog_1_method_30_code 6 (some .int) ∈ lw_tbl := List.mem_of_getElem? (i := 712) (by decide +kernel)
theorem mw_713 : Cond.methodLink "MillOfDistances" 267 yX5_tableProblem ∈ lw_tbl := List.mem_of_getElem? (i := 713) (by decide +kernel)
theorem mw_714 : Cond.privateMethod yX5_tableProblem ∈ lw_tbl := List.mem_of_getElem? (i := 714) (by decide +kernel)
theorem mw_715 : Cond.instanceMethod yX5_tableProblem ∈ lw_tbl := List.mem_of_getElem? (i := 715) (by decide +kernel)
theorem mw_716 : Cond.code yX5_tableProblem prog_1_method_55_code 3 (some .int) ∈ lw_tbl := List.mem_of_getElem? (i := 716) (by decide +kernel)
theorem mw_717 : Cond.methodLink "MillOfDistances" 277 yX5_pairsOf ∈ lw_tbl := List.mem_of_getElem? (i := 717) (by decide +kernel)
theorem mw_718 : Cond.static yX5_pairsOf ∈ lw_tbl := List.mem_of_getElem? (i := 718) (by decide +kernel)
theorem mw_719 : Cond.code yX5_pairsOf prog_1_method_60_code 1 (some .int) ∈ lw_tbl := List.mem_of_getElem? (i := 719) (by decide +kernel)
theorem mw_720 : Cond.methodLink "MillOfDistances" 270 yX5_isWrongInTable ∈ lw_tbl := List.mem_of_getElem? (i := 720) (by decide +kernel)
theorem mw_721 : Cond.privateMethod yX5_isWrongInTable ∈ lw_tbl := List.mem_of_getElem? (i := 721) (by decide +kernel)
theorem mw_722 : Cond.instanceMethod yX5_isWrongInTable ∈ lw_tbl := List.mem_of_getElem? (i := 722) (by decide +kernel)
theorem mw_723 : Cond.code yX5_isWrongInTable prog_1_method_31_code 9 (some .boolean) ∈ lw_tbl := List.mem_of_getElem? (i := 723) (by decide +kernel)
theorem mw_724 : Cond.methodLink "MillOfDistances" 274 yX5_pairOf ∈ lw_tbl := List.mem_of_getElem? (i := 724) (by decide +kernel)
theorem mw_725 : Cond.static yX5_pairOf ∈ lw_tbl := List.mem_of_getElem? (i := 725) (by decide +kernel)
theorem mw_726 : Cond.code yX5_pairOf prog_1_method_61_code 5 (some .int) ∈ lw_tbl := List.mem_of_getElem? (i := 726) (by decide +kernel)
theorem mw_727 : Cond.methodLink "MillOfDistances" 308 yJ9_min_7cf53 ∈ lw_tbl := List.mem_of_getElem? (i := 727) (by decide +kernel)
theorem mw_728 : Cond.methodLink "MillOfDistancesLaw" 127 yX5_mend ∈ lw_tbl := List.mem_of_getElem? (i := 728) (by decide +kernel)
theorem mw_729 : Cond.instanceMethod yX5_mend ∈ lw_tbl := List.mem_of_getElem? (i := 729) (by decide +kernel)
theorem mw_730 : Cond.selects "MillOfDistances" yX5_mend yX5_mend ∈ lw_tbl := List.mem_of_getElem? (i := 730) (by decide +kernel)
theorem mw_731 : Cond.code yX5_mend prog_1_method_32_code 7 (some .int) ∈ lw_tbl := List.mem_of_getElem? (i := 731) (by decide +kernel)
theorem mw_732 : Cond.methodLink "MillOfDistances" 280 yX2_measureTable ∈ lw_tbl := List.mem_of_getElem? (i := 732) (by decide +kernel)
theorem mw_733 : Cond.instanceMethod yX2_measureTable ∈ lw_tbl := List.mem_of_getElem? (i := 733) (by decide +kernel)
theorem mw_734 : Cond.selects "MillOfDistances$Lengths" yX2_measureTable yX2_measureTable ∈ lw_tbl := List.mem_of_getElem? (i := 734) (by decide +kernel)
theorem mw_735 : Cond.code yX2_measureTable prog_4_method_4_code 5 none ∈ lw_tbl := List.mem_of_getElem? (i := 735) (by decide +kernel)
theorem mw_736 : Cond.methodLinkNest "MillOfDistances$Lengths" 30 yX5_pairOf "MillOfDistances" ∈ lw_tbl := List.mem_of_getElem? (i := 736) (by decide +kernel)
theorem mw_737 : Cond.methodLink "MillOfDistances$Lengths" 34 yX4_asInt ∈ lw_tbl := List.mem_of_getElem? (i := 737) (by decide +kernel)
theorem mw_738 : Cond.methodLink "MillOfDistancesLaw" 131 yX5_pinches ∈ lw_tbl := List.mem_of_getElem? (i := 738) (by decide +kernel)
theorem mw_739 : Cond.instanceMethod yX5_pinches ∈ lw_tbl := List.mem_of_getElem? (i := 739) (by decide +kernel)
theorem mw_740 : Cond.selects "MillOfDistances" yX5_pinches yX5_pinches ∈ lw_tbl := List.mem_of_getElem? (i := 740) (by decide +kernel)
theorem mw_741 : Cond.code yX5_pinches prog_1_method_33_code 5 (some .int) ∈ lw_tbl := List.mem_of_getElem? (i := 741) (by decide +kernel)
theorem mw_742 : Cond.methodLink "MillOfDistances" 284 yX5_pinchesProblem ∈ lw_tbl := List.mem_of_getElem? (i := 742) (by decide +kernel)
theorem mw_743 : Cond.static yX5_pinchesProblem ∈ lw_tbl := List.mem_of_getElem? (i := 743) (by decide +kernel)
theorem mw_744 : Cond.code yX5_pinchesProblem prog_1_method_56_code 3 (some .int) ∈ lw_tbl := List.mem_of_getElem? (i := 744) (by decide +kernel)
theorem mw_745 : Cond.methodLink "MillOfDistances" 288 yX5_firstWrongPinch ∈ lw_tbl := List.mem_of_getElem? (i := 745) (by decide +kernel)
theorem mw_746 : Cond.privateMethod yX5_firstWrongPinch ∈ lw_tbl := List.mem_of_getElem? (i := 746) (by decide +kernel)
theorem mw_747 : Cond.instanceMethod yX5_firstWrongPinch ∈ lw_tbl := List.mem_of_getElem? (i := 747) (by decide +kernel)
theorem mw_748 : Cond.code yX5_firstWrongPinch prog_1_method_36_code 7 (some .int) ∈ lw_tbl := List.mem_of_getElem? (i := 748) (by decide +kernel)
theorem mw_749 : Cond.methodLink "MillOfDistances" 291 yX1_mayPinch ∈ lw_tbl := List.mem_of_getElem? (i := 749) (by decide +kernel)
theorem mw_750 : Cond.methodLink "MillOfDistances" 295 yX1_pinch ∈ lw_tbl := List.mem_of_getElem? (i := 750) (by decide +kernel)
theorem mw_751 : Cond.methodLink "MillOfDistancesLaw" 135 yX5_left ∈ lw_tbl := List.mem_of_getElem? (i := 751) (by decide +kernel)
theorem mw_752 : Cond.instanceMethod yX5_left ∈ lw_tbl := List.mem_of_getElem? (i := 752) (by decide +kernel)
theorem mw_753 : Cond.selects "MillOfDistances" yX5_left yX5_left ∈ lw_tbl := List.mem_of_getElem? (i := 753) (by decide +kernel)
theorem mw_754 : Cond.code yX5_left prog_1_method_34_code 5 (some .int) ∈ lw_tbl := List.mem_of_getElem? (i := 754) (by decide +kernel)
theorem mw_755 : Cond.methodLink "MillOfDistancesLaw" 139 yX5_done ∈ lw_tbl := List.mem_of_getElem? (i := 755) (by decide +kernel)
theorem mw_756 : Cond.instanceMethod yX5_done ∈ lw_tbl := List.mem_of_getElem? (i := 756) (by decide +kernel)
theorem mw_757 : Cond.selects "MillOfDistances" yX5_done yX5_done ∈ lw_tbl := List.mem_of_getElem? (i := 757) (by decide +kernel)
theorem mw_758 : Cond.code yX5_done prog_1_method_35_code 5 (some .int) ∈ lw_tbl := List.mem_of_getElem? (i := 758) (by decide +kernel)
theorem mw_759 : Cond.methodLink "MillOfDistancesLaw" 143 yX5_theft ∈ lw_tbl := List.mem_of_getElem? (i := 759) (by decide +kernel)
theorem mw_760 : Cond.instanceMethod yX5_theft ∈ lw_tbl := List.mem_of_getElem? (i := 760) (by decide +kernel)
theorem mw_761 : Cond.selects "MillOfDistances" yX5_theft yX5_theft ∈ lw_tbl := List.mem_of_getElem? (i := 761) (by decide +kernel)
theorem mw_762 : Cond.code yX5_theft prog_1_method_37_code 10 (some .int) ∈ lw_tbl := List.mem_of_getElem? (i := 762) (by decide +kernel)
theorem mw_763 : Cond.methodLink "MillOfDistances" 298 yX5_stolenOn ∈ lw_tbl := List.mem_of_getElem? (i := 763) (by decide +kernel)
theorem mw_764 : Cond.privateMethod yX5_stolenOn ∈ lw_tbl := List.mem_of_getElem? (i := 764) (by decide +kernel)
theorem mw_765 : Cond.instanceMethod yX5_stolenOn ∈ lw_tbl := List.mem_of_getElem? (i := 765) (by decide +kernel)
theorem mw_766 : Cond.code yX5_stolenOn prog_1_method_38_code 6 (some .int) ∈ lw_tbl := List.mem_of_getElem? (i := 766) (by decide +kernel)
theorem mw_767 : Cond.methodLink "MillOfDistances" 302 yX5_isTheft ∈ lw_tbl := List.mem_of_getElem? (i := 767) (by decide +kernel)
theorem mw_768 : Cond.privateMethod yX5_isTheft ∈ lw_tbl := List.mem_of_getElem? (i := 768) (by decide +kernel)
theorem mw_769 : Cond.instanceMethod yX5_isTheft ∈ lw_tbl := List.mem_of_getElem? (i := 769) (by decide +kernel)
theorem mw_770 : Cond.code yX5_isTheft prog_1_method_39_code 10 (some .boolean) ∈ lw_tbl := List.mem_of_getElem? (i := 770) (by decide +kernel)
theorem mw_771 : Cond.constantLong "MillOfDistances" 306 99 ∈ lw_tbl := List.mem_of_getElem? (i := 771) (by decide +kernel)
theorem mw_772 : Cond.methodLink "MillOfDistancesLaw" 147 yX5_mill ∈ lw_tbl := List.mem_of_getElem? (i := 772) (by decide +kernel)
theorem mw_773 : Cond.instanceMethod yX5_mill ∈ lw_tbl := List.mem_of_getElem? (i := 773) (by decide +kernel)
theorem mw_774 : Cond.selects "MillOfDistances" yX5_mill yX5_mill ∈ lw_tbl := List.mem_of_getElem? (i := 774) (by decide +kernel)
theorem mw_775 : Cond.code yX5_mill prog_1_method_40_code 4 (some .int) ∈ lw_tbl := List.mem_of_getElem? (i := 775) (by decide +kernel)
theorem mw_776 : Cond.methodLink "MillOfDistances" 311 yX1_grindRoad ∈ lw_tbl := List.mem_of_getElem? (i := 776) (by decide +kernel)
theorem mw_777 : Cond.methodLink "MillOfDistancesLaw" 151 yX5_spread ∈ lw_tbl := List.mem_of_getElem? (i := 777) (by decide +kernel)
theorem mw_778 : Cond.instanceMethod yX5_spread ∈ lw_tbl := List.mem_of_getElem? (i := 778) (by decide +kernel)
theorem mw_779 : Cond.selects "MillOfDistances" yX5_spread yX5_spread ∈ lw_tbl := List.mem_of_getElem? (i := 779) (by decide +kernel)
theorem mw_780 : Cond.code yX5_spread prog_1_method_41_code 4 (some .int) ∈ lw_tbl := List.mem_of_getElem? (i := 780) (by decide +kernel)
theorem mw_781 : Cond.methodLink "MillOfDistancesLaw" 155 yX5_gale ∈ lw_tbl := List.mem_of_getElem? (i := 781) (by decide +kernel)
theorem mw_782 : Cond.instanceMethod yX5_gale ∈ lw_tbl := List.mem_of_getElem? (i := 782) (by decide +kernel)
theorem mw_783 : Cond.selects "MillOfDistances" yX5_gale yX5_gale ∈ lw_tbl := List.mem_of_getElem? (i := 783) (by decide +kernel)
theorem mw_784 : Cond.code yX5_gale prog_1_method_42_code 4 (some .int) ∈ lw_tbl := List.mem_of_getElem? (i := 784) (by decide +kernel)
theorem mw_785 : Cond.methodLink "MillOfDistances" 314 yX1_gust ∈ lw_tbl := List.mem_of_getElem? (i := 785) (by decide +kernel)
theorem mw_786 : Cond.instanceMethod yX1_gust ∈ lw_tbl := List.mem_of_getElem? (i := 786) (by decide +kernel)
theorem mw_787 : Cond.selects "MillOfDistances$Land" yX1_gust yX1_gust ∈ lw_tbl := List.mem_of_getElem? (i := 787) (by decide +kernel)
theorem mw_788 : Cond.code yX1_gust prog_3_method_22_code 5 (some .int) ∈ lw_tbl := List.mem_of_getElem? (i := 788) (by decide +kernel)
theorem mw_789 : Cond.methodLink "MillOfDistances$Land" 104 yX1_draw ∈ lw_tbl := List.mem_of_getElem? (i := 789) (by decide +kernel)
theorem mw_790 : Cond.instanceMethod yX1_draw ∈ lw_tbl := List.mem_of_getElem? (i := 790) (by decide +kernel)
theorem mw_791 : Cond.selects "MillOfDistances$Land" yX1_draw yX1_draw ∈ lw_tbl := List.mem_of_getElem? (i := 791) (by decide +kernel)
theorem mw_792 : Cond.code yX1_draw prog_3_method_21_code 2 (some .int) ∈ lw_tbl := List.mem_of_getElem? (i := 792) (by decide +kernel)
theorem mw_793 : Cond.constant "MillOfDistances$Land" 103 1103515245 ∈ lw_tbl := List.mem_of_getElem? (i := 793) (by decide +kernel)
theorem mw_794 : Cond.methodLink "MillOfDistancesLaw" 159 yX5_seed ∈ lw_tbl := List.mem_of_getElem? (i := 794) (by decide +kernel)
theorem mw_795 : Cond.instanceMethod yX5_seed ∈ lw_tbl := List.mem_of_getElem? (i := 795) (by decide +kernel)
theorem mw_796 : Cond.selects "MillOfDistances" yX5_seed yX5_seed ∈ lw_tbl := List.mem_of_getElem? (i := 796) (by decide +kernel)
theorem mw_797 : Cond.code yX5_seed prog_1_method_43_code 3 (some .int) ∈ lw_tbl := List.mem_of_getElem? (i := 797) (by decide +kernel)
theorem mw_798 : Cond.methodLink "MillOfDistancesLaw" 163 yX5_act ∈ lw_tbl := List.mem_of_getElem? (i := 798) (by decide +kernel)
theorem mw_799 : Cond.instanceMethod yX5_act ∈ lw_tbl := List.mem_of_getElem? (i := 799) (by decide +kernel)
theorem mw_800 : Cond.selects "MillOfDistances" yX5_act yX5_act ∈ lw_tbl := List.mem_of_getElem? (i := 800) (by decide +kernel)
theorem mw_801 : Cond.code yX5_act prog_1_method_44_code 4 (some .int) ∈ lw_tbl := List.mem_of_getElem? (i := 801) (by decide +kernel)
theorem mw_802 : Cond.methodLink "MillOfDistances" 320 yX0_forget ∈ lw_tbl := List.mem_of_getElem? (i := 802) (by decide +kernel)
theorem mw_803 : Cond.instanceMethod yX0_forget ∈ lw_tbl := List.mem_of_getElem? (i := 803) (by decide +kernel)
theorem mw_804 : Cond.selects "MillOfDistances$Doer" yX0_forget yX0_forget ∈ lw_tbl := List.mem_of_getElem? (i := 804) (by decide +kernel)
theorem mw_805 : Cond.code yX0_forget prog_2_method_2_code 1 none ∈ lw_tbl := List.mem_of_getElem? (i := 805) (by decide +kernel)
theorem mw_806 : Cond.methodLink "MillOfDistances" 323 yX0_perform ∈ lw_tbl := List.mem_of_getElem? (i := 806) (by decide +kernel)
theorem mw_807 : Cond.instanceMethod yX0_perform ∈ lw_tbl := List.mem_of_getElem? (i := 807) (by decide +kernel)
theorem mw_808 : Cond.selects "MillOfDistances$Doer" yX0_perform yX0_perform ∈ lw_tbl := List.mem_of_getElem? (i := 808) (by decide +kernel)
theorem mw_809 : Cond.code yX0_perform prog_2_method_4_code 6 (some .int) ∈ lw_tbl := List.mem_of_getElem? (i := 809) (by decide +kernel)
theorem mw_810 : Cond.methodLink "MillOfDistances$Doer" 28 yX0_run ∈ lw_tbl := List.mem_of_getElem? (i := 810) (by decide +kernel)
theorem mw_811 : Cond.static yX0_run ∈ lw_tbl := List.mem_of_getElem? (i := 811) (by decide +kernel)
theorem mw_812 : Cond.code yX0_run prog_2_method_7_code 8 (some .int) ∈ lw_tbl := List.mem_of_getElem? (i := 812) (by decide +kernel)
theorem mw_813 : Cond.methodLink "MillOfDistances$Doer" 43 yX0_bodyFrom ∈ lw_tbl := List.mem_of_getElem? (i := 813) (by decide +kernel)
theorem mw_814 : Cond.static yX0_bodyFrom ∈ lw_tbl := List.mem_of_getElem? (i := 814) (by decide +kernel)
theorem mw_815 : Cond.code yX0_bodyFrom prog_2_method_5_code 5 (some .int) ∈ lw_tbl := List.mem_of_getElem? (i := 815) (by decide +kernel)
theorem mw_816 : Cond.methodLinkNest "MillOfDistances$Doer" 32 yX5_isKind "MillOfDistances" ∈ lw_tbl := List.mem_of_getElem? (i := 816) (by decide +kernel)
theorem mw_817 : Cond.fieldLink "MillOfDistances$Doer" 36 "MillOfDistances$Doer" "BODIES" "[I" ∈ lw_tbl := List.mem_of_getElem? (i := 817) (by decide +kernel)
theorem mw_818 : Cond.laysStatic "MillOfDistances$Doer" "BODIES" "[I" ∈ lw_tbl := List.mem_of_getElem? (i := 818) (by decide +kernel)
theorem mw_819 : Cond.methodLinkNest "MillOfDistances$Doer" 39 yX5_kindAbove "MillOfDistances" ∈ lw_tbl := List.mem_of_getElem? (i := 819) (by decide +kernel)
theorem mw_820 : Cond.static yX5_kindAbove ∈ lw_tbl := List.mem_of_getElem? (i := 820) (by decide +kernel)
theorem mw_821 : Cond.code yX5_kindAbove prog_1_method_59_code 1 (some .int) ∈ lw_tbl := List.mem_of_getElem? (i := 821) (by decide +kernel)
theorem mw_822 : Cond.fieldLink "MillOfDistances" 346 "MillOfDistances" "KIND_ABOVE" "[I" ∈ lw_tbl := List.mem_of_getElem? (i := 822) (by decide +kernel)
theorem mw_823 : Cond.methodLink "MillOfDistances$Doer" 47 yX0_noteBody ∈ lw_tbl := List.mem_of_getElem? (i := 823) (by decide +kernel)
theorem mw_824 : Cond.privateMethod yX0_noteBody ∈ lw_tbl := List.mem_of_getElem? (i := 824) (by decide +kernel)
theorem mw_825 : Cond.instanceMethod yX0_noteBody ∈ lw_tbl := List.mem_of_getElem? (i := 825) (by decide +kernel)
theorem mw_826 : Cond.code yX0_noteBody prog_2_method_6_code 2 none ∈ lw_tbl := List.mem_of_getElem? (i := 826) (by decide +kernel)
theorem mw_827 : Cond.methodLink "MillOfDistancesLaw" 167 yX5_trace ∈ lw_tbl := List.mem_of_getElem? (i := 827) (by decide +kernel)
theorem mw_828 : Cond.instanceMethod yX5_trace ∈ lw_tbl := List.mem_of_getElem? (i := 828) (by decide +kernel)
theorem mw_829 : Cond.selects "MillOfDistances" yX5_trace yX5_trace ∈ lw_tbl := List.mem_of_getElem? (i := 829) (by decide +kernel)
theorem mw_830 : Cond.code yX5_trace prog_1_method_45_code 2 (some .int) ∈ lw_tbl := List.mem_of_getElem? (i := 830) (by decide +kernel)
theorem mw_831 : Cond.methodLink "MillOfDistances" 327 yX0_traced ∈ lw_tbl := List.mem_of_getElem? (i := 831) (by decide +kernel)
theorem mw_832 : Cond.instanceMethod yX0_traced ∈ lw_tbl := List.mem_of_getElem? (i := 832) (by decide +kernel)
theorem mw_833 : Cond.selects "MillOfDistances$Doer" yX0_traced yX0_traced ∈ lw_tbl := List.mem_of_getElem? (i := 833) (by decide +kernel)
theorem mw_834 : Cond.code yX0_traced prog_2_method_3_code 2 (some .int) ∈ lw_tbl := List.mem_of_getElem? (i := 834) (by decide +kernel)
theorem mw_835 : Cond.methodLink "MillOfDistancesLaw" 171 yX5_image ∈ lw_tbl := List.mem_of_getElem? (i := 835) (by decide +kernel)
theorem mw_836 : Cond.instanceMethod yX5_image ∈ lw_tbl := List.mem_of_getElem? (i := 836) (by decide +kernel)
theorem mw_837 : Cond.selects "MillOfDistances" yX5_image yX5_image ∈ lw_tbl := List.mem_of_getElem? (i := 837) (by decide +kernel)
theorem mw_838 : Cond.code yX5_image prog_1_method_46_code 1 (some .int) ∈ lw_tbl := List.mem_of_getElem? (i := 838) (by decide +kernel)
theorem mw_839 : Cond.methodLink "MillOfDistancesLaw" 175 yX5_restore ∈ lw_tbl := List.mem_of_getElem? (i := 839) (by decide +kernel)
theorem mw_840 : Cond.instanceMethod yX5_restore ∈ lw_tbl := List.mem_of_getElem? (i := 840) (by decide +kernel)
theorem mw_841 : Cond.selects "MillOfDistances" yX5_restore yX5_restore ∈ lw_tbl := List.mem_of_getElem? (i := 841) (by decide +kernel)
theorem mw_842 : Cond.code yX5_restore prog_1_method_47_code 3 (some .int) ∈ lw_tbl := List.mem_of_getElem? (i := 842) (by decide +kernel)
theorem mw_843 : Cond.methodLink "MillOfDistancesLaw" 179 yX5_status ∈ lw_tbl := List.mem_of_getElem? (i := 843) (by decide +kernel)
theorem mw_844 : Cond.instanceMethod yX5_status ∈ lw_tbl := List.mem_of_getElem? (i := 844) (by decide +kernel)
theorem mw_845 : Cond.selects "MillOfDistances" yX5_status yX5_status ∈ lw_tbl := List.mem_of_getElem? (i := 845) (by decide +kernel)
theorem mw_846 : Cond.code yX5_status prog_1_method_48_code 2 (some .int) ∈ lw_tbl := List.mem_of_getElem? (i := 846) (by decide +kernel)
theorem mw_847 : Cond.methodLink "MillOfDistances" 334 yX1_countRoads ∈ lw_tbl := List.mem_of_getElem? (i := 847) (by decide +kernel)
theorem mw_848 : Cond.instanceMethod yX1_countRoads ∈ lw_tbl := List.mem_of_getElem? (i := 848) (by decide +kernel)
theorem mw_849 : Cond.selects "MillOfDistances$Land" yX1_countRoads yX1_countRoads ∈ lw_tbl := List.mem_of_getElem? (i := 849) (by decide +kernel)
theorem mw_850 : Cond.code yX1_countRoads prog_3_method_12_code 3 (some .int) ∈ lw_tbl := List.mem_of_getElem? (i := 850) (by decide +kernel)
theorem mw_851 : Cond.methodLink "MillOfDistances$Land" 55 yX1_neighbours ∈ lw_tbl := List.mem_of_getElem? (i := 851) (by decide +kernel)
theorem mw_852 : Cond.methodLink "MillOfDistances$Land" 59 yJ6_bitCount_0f7a4 ∈ lw_tbl := List.mem_of_getElem? (i := 852) (by decide +kernel)
theorem mw_853 : Cond.methodLink "MillOfDistances" 337 yX1_allMiles ∈ lw_tbl := List.mem_of_getElem? (i := 853) (by decide +kernel)
theorem mw_854 : Cond.instanceMethod yX1_allMiles ∈ lw_tbl := List.mem_of_getElem? (i := 854) (by decide +kernel)
theorem mw_855 : Cond.selects "MillOfDistances$Land" yX1_allMiles yX1_allMiles ∈ lw_tbl := List.mem_of_getElem? (i := 855) (by decide +kernel)
theorem mw_856 : Cond.code yX1_allMiles prog_3_method_13_code 3 (some .int) ∈ lw_tbl := List.mem_of_getElem? (i := 856) (by decide +kernel)
theorem mw_857 : Cond.methodLink "MillOfDistances$Land" 64 yX1_milesOf ∈ lw_tbl := List.mem_of_getElem? (i := 857) (by decide +kernel)
theorem mw_858 : Cond.classLink "MillOfDistancesLaw" 10 "MillOfDistancesModel" ∈ lw_tbl := List.mem_of_getElem? (i := 858) (by decide +kernel)
theorem mw_859 : Cond.instantiable "MillOfDistancesModel" 22 ∈ lw_tbl := List.mem_of_getElem? (i := 859) (by decide +kernel)
theorem mw_860 : Cond.methodLink "MillOfDistancesLaw" 12 yX6_init ∈ lw_tbl := List.mem_of_getElem? (i := 860) (by decide +kernel)
theorem mw_861 : Cond.instanceMethod yX6_init ∈ lw_tbl := List.mem_of_getElem? (i := 861) (by decide +kernel)
theorem mw_862 : Cond.code yX6_init prog_8_method_1_code 2 none ∈ lw_tbl := List.mem_of_getElem? (i := 862) (by decide +kernel)
theorem mw_863 : Cond.methodLink "MillOfDistancesModel" 1 ⟨"java/lang/Object", "<init>", "()V"⟩ ∈ lw_tbl := List.mem_of_getElem? (i := 863) (by decide +kernel)
theorem mw_864 : Cond.fieldLink "MillOfDistancesModel" 7 "MillOfDistancesModel" "holding" "[I" ∈ lw_tbl := List.mem_of_getElem? (i := 864) (by decide +kernel)
theorem mw_865 : Cond.fieldLink "MillOfDistancesModel" 13 "MillOfDistancesModel" "rowLength" "[I" ∈ lw_tbl := List.mem_of_getElem? (i := 865) (by decide +kernel)
theorem mw_866 : Cond.fieldLink "MillOfDistancesModel" 16 "MillOfDistancesModel" "rowOf" "[J" ∈ lw_tbl := List.mem_of_getElem? (i := 866) (by decide +kernel)
theorem mw_867 : Cond.fieldLink "MillOfDistancesModel" 57 "MillOfDistancesModel" "places" "I" ∈ lw_tbl := List.mem_of_getElem? (i := 867) (by decide +kernel)
theorem mw_868 : Cond.fieldLink "MillOfDistancesModel" 20 "MillOfDistancesModel" "kind" "[I" ∈ lw_tbl := List.mem_of_getElem? (i := 868) (by decide +kernel)
theorem mw_869 : Cond.fieldLink "MillOfDistancesModel" 23 "MillOfDistancesModel" "own" "[I" ∈ lw_tbl := List.mem_of_getElem? (i := 869) (by decide +kernel)
theorem mw_870 : Cond.fieldLink "MillOfDistancesModel" 26 "MillOfDistancesModel" "miles" "[I" ∈ lw_tbl := List.mem_of_getElem? (i := 870) (by decide +kernel)
theorem mw_871 : Cond.fieldLink "MillOfDistancesModel" 108 "MillOfDistancesModel" "flour" "I" ∈ lw_tbl := List.mem_of_getElem? (i := 871) (by decide +kernel)
theorem mw_872 : Cond.fieldLink "MillOfDistancesModel" 111 "MillOfDistancesModel" "wind" "I" ∈ lw_tbl := List.mem_of_getElem? (i := 872) (by decide +kernel)
theorem mw_873 : Cond.fieldLink "MillOfDistancesModel" 50 "MillOfDistancesModel" "seed" "I" ∈ lw_tbl := List.mem_of_getElem? (i := 873) (by decide +kernel)
theorem mw_874 : Cond.fieldLink "MillOfDistancesModel" 54 "MillOfDistancesModel" "fault" "I" ∈ lw_tbl := List.mem_of_getElem? (i := 874) (by decide +kernel)
theorem mw_875 : Cond.fieldLink "MillOfDistancesModel" 29 "MillOfDistancesModel" "refusals" "[I" ∈ lw_tbl := List.mem_of_getElem? (i := 875) (by decide +kernel)
theorem mw_876 : Cond.fieldLink "MillOfDistancesModel" 269 "MillOfDistancesModel" "traced" "I" ∈ lw_tbl := List.mem_of_getElem? (i := 876) (by decide +kernel)
theorem mw_877 : Cond.fieldLink "MillOfDistancesModel" 32 "MillOfDistancesModel" "traces" "[I" ∈ lw_tbl := List.mem_of_getElem? (i := 877) (by decide +kernel)
theorem mw_878 : Cond.fieldLink "MillOfDistancesModel" 285 "MillOfDistancesModel" "imaged" "Z" ∈ lw_tbl := List.mem_of_getElem? (i := 878) (by decide +kernel)
theorem mw_879 : Cond.fieldLink "MillOfDistancesModel" 35 "MillOfDistancesModel" "old" "[I" ∈ lw_tbl := List.mem_of_getElem? (i := 879) (by decide +kernel)
theorem mw_880 : Cond.fieldLink "MillOfDistancesModel" 38 "MillOfDistancesModel" "ahead" "[I" ∈ lw_tbl := List.mem_of_getElem? (i := 880) (by decide +kernel)
theorem mw_881 : Cond.fieldLink "MillOfDistancesModel" 117 "MillOfDistancesModel" "reading" "I" ∈ lw_tbl := List.mem_of_getElem? (i := 881) (by decide +kernel)
theorem mw_882 : Cond.fieldLink "MillOfDistancesModel" 114 "MillOfDistancesModel" "at" "I" ∈ lw_tbl := List.mem_of_getElem? (i := 882) (by decide +kernel)
theorem mw_883 : Cond.fieldLink "MillOfDistancesModel" 41 "MillOfDistancesModel" "numbers" "[I" ∈ lw_tbl := List.mem_of_getElem? (i := 883) (by decide +kernel)
theorem mw_884 : Cond.fieldLink "MillOfDistancesModel" 44 "MillOfDistancesModel" "far" "[I" ∈ lw_tbl := List.mem_of_getElem? (i := 884) (by decide +kernel)
theorem mw_885 : Cond.fieldLink "MillOfDistancesModel" 47 "MillOfDistancesModel" "was" "[I" ∈ lw_tbl := List.mem_of_getElem? (i := 885) (by decide +kernel)
theorem mw_886 : Cond.laysFinal "MillOfDistancesModel" "MillOfDistancesModel" "holding" "[I" ∈ lw_tbl := List.mem_of_getElem? (i := 886) (by decide +kernel)
theorem mw_887 : Cond.soleField "MillOfDistancesModel" "holding" ∈ lw_tbl := List.mem_of_getElem? (i := 887) (by decide +kernel)
theorem mw_888 : Cond.laysFinal "MillOfDistancesModel" "MillOfDistancesModel" "rowLength" "[I" ∈ lw_tbl := List.mem_of_getElem? (i := 888) (by decide +kernel)
theorem mw_889 : Cond.soleField "MillOfDistancesModel" "rowLength" ∈ lw_tbl := List.mem_of_getElem? (i := 889) (by decide +kernel)
theorem mw_890 : Cond.laysFinal "MillOfDistancesModel" "MillOfDistancesModel" "rowOf" "[J" ∈ lw_tbl := List.mem_of_getElem? (i := 890) (by decide +kernel)
theorem mw_891 : Cond.soleField "MillOfDistancesModel" "rowOf" ∈ lw_tbl := List.mem_of_getElem? (i := 891) (by decide +kernel)
theorem mw_892 : Cond.lays "MillOfDistancesModel" "MillOfDistancesModel" "places" "I" ∈ lw_tbl := List.mem_of_getElem? (i := 892) (by decide +kernel)
theorem mw_893 : Cond.soleField "MillOfDistancesModel" "places" ∈ lw_tbl := List.mem_of_getElem? (i := 893) (by decide +kernel)
theorem mw_894 : Cond.laysFinal "MillOfDistancesModel" "MillOfDistancesModel" "kind" "[I" ∈ lw_tbl := List.mem_of_getElem? (i := 894) (by decide +kernel)
theorem mw_895 : Cond.soleField "MillOfDistancesModel" "kind" ∈ lw_tbl := List.mem_of_getElem? (i := 895) (by decide +kernel)
theorem mw_896 : Cond.laysFinal "MillOfDistancesModel" "MillOfDistancesModel" "own" "[I" ∈ lw_tbl := List.mem_of_getElem? (i := 896) (by decide +kernel)
theorem mw_897 : Cond.soleField "MillOfDistancesModel" "own" ∈ lw_tbl := List.mem_of_getElem? (i := 897) (by decide +kernel)
theorem mw_898 : Cond.laysFinal "MillOfDistancesModel" "MillOfDistancesModel" "miles" "[I" ∈ lw_tbl := List.mem_of_getElem? (i := 898) (by decide +kernel)
theorem mw_899 : Cond.soleField "MillOfDistancesModel" "miles" ∈ lw_tbl := List.mem_of_getElem? (i := 899) (by decide +kernel)
theorem mw_900 : Cond.lays "MillOfDistancesModel" "MillOfDistancesModel" "flour" "I" ∈ lw_tbl := List.mem_of_getElem? (i := 900) (by decide +kernel)
theorem mw_901 : Cond.soleField "MillOfDistancesModel" "flour" ∈ lw_tbl := List.mem_of_getElem? (i := 901) (by decide +kernel)
theorem mw_902 : Cond.lays "MillOfDistancesModel" "MillOfDistancesModel" "wind" "I" ∈ lw_tbl := List.mem_of_getElem? (i := 902) (by decide +kernel)
theorem mw_903 : Cond.soleField "MillOfDistancesModel" "wind" ∈ lw_tbl := List.mem_of_getElem? (i := 903) (by decide +kernel)
theorem mw_904 : Cond.lays "MillOfDistancesModel" "MillOfDistancesModel" "seed" "I" ∈ lw_tbl := List.mem_of_getElem? (i := 904) (by decide +kernel)
theorem mw_905 : Cond.soleField "MillOfDistancesModel" "seed" ∈ lw_tbl := List.mem_of_getElem? (i := 905) (by decide +kernel)
theorem mw_906 : Cond.lays "MillOfDistancesModel" "MillOfDistancesModel" "fault" "I" ∈ lw_tbl := List.mem_of_getElem? (i := 906) (by decide +kernel)
theorem mw_907 : Cond.soleField "MillOfDistancesModel" "fault" ∈ lw_tbl := List.mem_of_getElem? (i := 907) (by decide +kernel)
theorem mw_908 : Cond.laysFinal "MillOfDistancesModel" "MillOfDistancesModel" "refusals" "[I" ∈ lw_tbl := List.mem_of_getElem? (i := 908) (by decide +kernel)
theorem mw_909 : Cond.soleField "MillOfDistancesModel" "refusals" ∈ lw_tbl := List.mem_of_getElem? (i := 909) (by decide +kernel)
theorem mw_910 : Cond.lays "MillOfDistancesModel" "MillOfDistancesModel" "traced" "I" ∈ lw_tbl := List.mem_of_getElem? (i := 910) (by decide +kernel)
theorem mw_911 : Cond.soleField "MillOfDistancesModel" "traced" ∈ lw_tbl := List.mem_of_getElem? (i := 911) (by decide +kernel)
theorem mw_912 : Cond.laysFinal "MillOfDistancesModel" "MillOfDistancesModel" "traces" "[I" ∈ lw_tbl := List.mem_of_getElem? (i := 912) (by decide +kernel)
theorem mw_913 : Cond.soleField "MillOfDistancesModel" "traces" ∈ lw_tbl := List.mem_of_getElem? (i := 913) (by decide +kernel)
theorem mw_914 : Cond.lays "MillOfDistancesModel" "MillOfDistancesModel" "imaged" "Z" ∈ lw_tbl := List.mem_of_getElem? (i := 914) (by decide +kernel)
theorem mw_915 : Cond.soleField "MillOfDistancesModel" "imaged" ∈ lw_tbl := List.mem_of_getElem? (i := 915) (by decide +kernel)
theorem mw_916 : Cond.laysFinal "MillOfDistancesModel" "MillOfDistancesModel" "old" "[I" ∈ lw_tbl := List.mem_of_getElem? (i := 916) (by decide +kernel)
theorem mw_917 : Cond.soleField "MillOfDistancesModel" "old" ∈ lw_tbl := List.mem_of_getElem? (i := 917) (by decide +kernel)
theorem mw_918 : Cond.laysFinal "MillOfDistancesModel" "MillOfDistancesModel" "ahead" "[I" ∈ lw_tbl := List.mem_of_getElem? (i := 918) (by decide +kernel)
theorem mw_919 : Cond.soleField "MillOfDistancesModel" "ahead" ∈ lw_tbl := List.mem_of_getElem? (i := 919) (by decide +kernel)
theorem mw_920 : Cond.lays "MillOfDistancesModel" "MillOfDistancesModel" "reading" "I" ∈ lw_tbl := List.mem_of_getElem? (i := 920) (by decide +kernel)
theorem mw_921 : Cond.soleField "MillOfDistancesModel" "reading" ∈ lw_tbl := List.mem_of_getElem? (i := 921) (by decide +kernel)
theorem mw_922 : Cond.lays "MillOfDistancesModel" "MillOfDistancesModel" "at" "I" ∈ lw_tbl := List.mem_of_getElem? (i := 922) (by decide +kernel)
theorem mw_923 : Cond.soleField "MillOfDistancesModel" "at" ∈ lw_tbl := List.mem_of_getElem? (i := 923) (by decide +kernel)
theorem mw_924 : Cond.laysFinal "MillOfDistancesModel" "MillOfDistancesModel" "numbers" "[I" ∈ lw_tbl := List.mem_of_getElem? (i := 924) (by decide +kernel)
theorem mw_925 : Cond.soleField "MillOfDistancesModel" "numbers" ∈ lw_tbl := List.mem_of_getElem? (i := 925) (by decide +kernel)
theorem mw_926 : Cond.laysFinal "MillOfDistancesModel" "MillOfDistancesModel" "far" "[I" ∈ lw_tbl := List.mem_of_getElem? (i := 926) (by decide +kernel)
theorem mw_927 : Cond.soleField "MillOfDistancesModel" "far" ∈ lw_tbl := List.mem_of_getElem? (i := 927) (by decide +kernel)
theorem mw_928 : Cond.laysFinal "MillOfDistancesModel" "MillOfDistancesModel" "was" "[I" ∈ lw_tbl := List.mem_of_getElem? (i := 928) (by decide +kernel)
theorem mw_929 : Cond.soleField "MillOfDistancesModel" "was" ∈ lw_tbl := List.mem_of_getElem? (i := 929) (by decide +kernel)
theorem mw_930 : Cond.superclass "MillOfDistancesModel" "java/lang/Object" ∈ lw_tbl := List.mem_of_getElem? (i := 930) (by decide +kernel)
theorem mw_931 : Cond.methodLink "MillOfDistancesLaw" 17 yX6_row ∈ lw_tbl := List.mem_of_getElem? (i := 931) (by decide +kernel)
theorem mw_932 : Cond.instanceMethod yX6_row ∈ lw_tbl := List.mem_of_getElem? (i := 932) (by decide +kernel)
theorem mw_933 : Cond.selects "MillOfDistancesModel" yX6_row yX6_row ∈ lw_tbl := List.mem_of_getElem? (i := 933) (by decide +kernel)
theorem mw_934 : Cond.code yX6_row prog_8_method_8_code 5 (some .int) ∈ lw_tbl := List.mem_of_getElem? (i := 934) (by decide +kernel)
theorem mw_935 : Cond.methodLink "MillOfDistancesModel" 60 yX6_within ∈ lw_tbl := List.mem_of_getElem? (i := 935) (by decide +kernel)
theorem mw_936 : Cond.static yX6_within ∈ lw_tbl := List.mem_of_getElem? (i := 936) (by decide +kernel)
theorem mw_937 : Cond.code yX6_within prog_8_method_4_code 3 (some .boolean) ∈ lw_tbl := List.mem_of_getElem? (i := 937) (by decide +kernel)
theorem mw_938 : Cond.methodLink "MillOfDistancesModel" 64 yX6_no ∈ lw_tbl := List.mem_of_getElem? (i := 938) (by decide +kernel)
theorem mw_939 : Cond.privateMethod yX6_no ∈ lw_tbl := List.mem_of_getElem? (i := 939) (by decide +kernel)
theorem mw_940 : Cond.instanceMethod yX6_no ∈ lw_tbl := List.mem_of_getElem? (i := 940) (by decide +kernel)
theorem mw_941 : Cond.code yX6_no prog_8_method_2_code 2 (some .int) ∈ lw_tbl := List.mem_of_getElem? (i := 941) (by decide +kernel)
theorem mw_942 : Cond.methodLink "MillOfDistancesLaw" 24 yX6_set ∈ lw_tbl := List.mem_of_getElem? (i := 942) (by decide +kernel)
theorem mw_943 : Cond.instanceMethod yX6_set ∈ lw_tbl := List.mem_of_getElem? (i := 943) (by decide +kernel)
theorem mw_944 : Cond.selects "MillOfDistancesModel" yX6_set yX6_set ∈ lw_tbl := List.mem_of_getElem? (i := 944) (by decide +kernel)
theorem mw_945 : Cond.code yX6_set prog_8_method_10_code 7 (some .int) ∈ lw_tbl := List.mem_of_getElem? (i := 945) (by decide +kernel)
theorem mw_946 : Cond.methodLink "MillOfDistancesModel" 72 yX6_noRow ∈ lw_tbl := List.mem_of_getElem? (i := 946) (by decide +kernel)
theorem mw_947 : Cond.privateMethod yX6_noRow ∈ lw_tbl := List.mem_of_getElem? (i := 947) (by decide +kernel)
theorem mw_948 : Cond.instanceMethod yX6_noRow ∈ lw_tbl := List.mem_of_getElem? (i := 948) (by decide +kernel)
theorem mw_949 : Cond.code yX6_noRow prog_8_method_9_code 2 (some .int) ∈ lw_tbl := List.mem_of_getElem? (i := 949) (by decide +kernel)
theorem mw_950 : Cond.methodLink "MillOfDistancesModel" 68 yX6_isRow ∈ lw_tbl := List.mem_of_getElem? (i := 950) (by decide +kernel)
theorem mw_951 : Cond.privateMethod yX6_isRow ∈ lw_tbl := List.mem_of_getElem? (i := 951) (by decide +kernel)
theorem mw_952 : Cond.instanceMethod yX6_isRow ∈ lw_tbl := List.mem_of_getElem? (i := 952) (by decide +kernel)
theorem mw_953 : Cond.code yX6_isRow prog_8_method_7_code 2 (some .boolean) ∈ lw_tbl := List.mem_of_getElem? (i := 953) (by decide +kernel)
theorem mw_954 : Cond.methodLink "MillOfDistancesLaw" 29 yX6_copy ∈ lw_tbl := List.mem_of_getElem? (i := 954) (by decide +kernel)
theorem mw_955 : Cond.instanceMethod yX6_copy ∈ lw_tbl := List.mem_of_getElem? (i := 955) (by decide +kernel)
theorem mw_956 : Cond.selects "MillOfDistancesModel" yX6_copy yX6_copy ∈ lw_tbl := List.mem_of_getElem? (i := 956) (by decide +kernel)
theorem mw_957 : Cond.code yX6_copy prog_8_method_11_code 7 (some .int) ∈ lw_tbl := List.mem_of_getElem? (i := 957) (by decide +kernel)
theorem mw_958 : Cond.methodLink "MillOfDistancesLaw" 34 yX6_element ∈ lw_tbl := List.mem_of_getElem? (i := 958) (by decide +kernel)
theorem mw_959 : Cond.instanceMethod yX6_element ∈ lw_tbl := List.mem_of_getElem? (i := 959) (by decide +kernel)
theorem mw_960 : Cond.selects "MillOfDistancesModel" yX6_element yX6_element ∈ lw_tbl := List.mem_of_getElem? (i := 960) (by decide +kernel)
theorem mw_961 : Cond.code yX6_element prog_8_method_12_code 3 (some .long) ∈ lw_tbl := List.mem_of_getElem? (i := 961) (by decide +kernel)
theorem mw_962 : Cond.methodLink "MillOfDistancesLaw" 39 yX6_show ∈ lw_tbl := List.mem_of_getElem? (i := 962) (by decide +kernel)
theorem mw_963 : Cond.instanceMethod yX6_show ∈ lw_tbl := List.mem_of_getElem? (i := 963) (by decide +kernel)
theorem mw_964 : Cond.selects "MillOfDistancesModel" yX6_show yX6_show ∈ lw_tbl := List.mem_of_getElem? (i := 964) (by decide +kernel)
theorem mw_965 : Cond.code yX6_show prog_8_method_13_code 3 (some .int) ∈ lw_tbl := List.mem_of_getElem? (i := 965) (by decide +kernel)
theorem mw_966 : Cond.methodLink "MillOfDistancesModel" 75 yX6_isPlace ∈ lw_tbl := List.mem_of_getElem? (i := 966) (by decide +kernel)
theorem mw_967 : Cond.privateMethod yX6_isPlace ∈ lw_tbl := List.mem_of_getElem? (i := 967) (by decide +kernel)
theorem mw_968 : Cond.instanceMethod yX6_isPlace ∈ lw_tbl := List.mem_of_getElem? (i := 968) (by decide +kernel)
theorem mw_969 : Cond.code yX6_isPlace prog_8_method_6_code 2 (some .boolean) ∈ lw_tbl := List.mem_of_getElem? (i := 969) (by decide +kernel)
theorem mw_970 : Cond.methodLink "MillOfDistancesLaw" 44 yX6_holds ∈ lw_tbl := List.mem_of_getElem? (i := 970) (by decide +kernel)
theorem mw_971 : Cond.instanceMethod yX6_holds ∈ lw_tbl := List.mem_of_getElem? (i := 971) (by decide +kernel)
theorem mw_972 : Cond.selects "MillOfDistancesModel" yX6_holds yX6_holds ∈ lw_tbl := List.mem_of_getElem? (i := 972) (by decide +kernel)
theorem mw_973 : Cond.code yX6_holds prog_8_method_14_code 2 (some .int) ∈ lw_tbl := List.mem_of_getElem? (i := 973) (by decide +kernel)
theorem mw_974 : Cond.methodLink "MillOfDistancesLaw" 48 yX6_says ∈ lw_tbl := List.mem_of_getElem? (i := 974) (by decide +kernel)
theorem mw_975 : Cond.instanceMethod yX6_says ∈ lw_tbl := List.mem_of_getElem? (i := 975) (by decide +kernel)
theorem mw_976 : Cond.selects "MillOfDistancesModel" yX6_says yX6_says ∈ lw_tbl := List.mem_of_getElem? (i := 976) (by decide +kernel)
theorem mw_977 : Cond.code yX6_says prog_8_method_17_code 4 (some .int) ∈ lw_tbl := List.mem_of_getElem? (i := 977) (by decide +kernel)
theorem mw_978 : Cond.methodLink "MillOfDistancesModel" 81 yX6_isUnder ∈ lw_tbl := List.mem_of_getElem? (i := 978) (by decide +kernel)
theorem mw_979 : Cond.static yX6_isUnder ∈ lw_tbl := List.mem_of_getElem? (i := 979) (by decide +kernel)
theorem mw_980 : Cond.code yX6_isUnder prog_8_method_16_code 3 (some .boolean) ∈ lw_tbl := List.mem_of_getElem? (i := 980) (by decide +kernel)
theorem mw_981 : Cond.methodLink "MillOfDistancesModel" 78 yX6_above ∈ lw_tbl := List.mem_of_getElem? (i := 981) (by decide +kernel)
theorem mw_982 : Cond.static yX6_above ∈ lw_tbl := List.mem_of_getElem? (i := 982) (by decide +kernel)
theorem mw_983 : Cond.code yX6_above prog_8_method_15_code 1 (some .int) ∈ lw_tbl := List.mem_of_getElem? (i := 983) (by decide +kernel)
theorem mw_984 : Cond.methodLink "MillOfDistancesModel" 85 yX6_roads ∈ lw_tbl := List.mem_of_getElem? (i := 984) (by decide +kernel)
theorem mw_985 : Cond.privateMethod yX6_roads ∈ lw_tbl := List.mem_of_getElem? (i := 985) (by decide +kernel)
theorem mw_986 : Cond.instanceMethod yX6_roads ∈ lw_tbl := List.mem_of_getElem? (i := 986) (by decide +kernel)
theorem mw_987 : Cond.code yX6_roads prog_8_method_20_code 4 (some .int) ∈ lw_tbl := List.mem_of_getElem? (i := 987) (by decide +kernel)
theorem mw_988 : Cond.methodLink "MillOfDistancesModel" 88 yJ6_bitCount_0f7a4 ∈ lw_tbl := List.mem_of_getElem? (i := 988) (by decide +kernel)
theorem mw_989 : Cond.methodLink "MillOfDistancesModel" 93 yX6_asks ∈ lw_tbl := List.mem_of_getElem? (i := 989) (by decide +kernel)
theorem mw_990 : Cond.privateMethod yX6_asks ∈ lw_tbl := List.mem_of_getElem? (i := 990) (by decide +kernel)
theorem mw_991 : Cond.instanceMethod yX6_asks ∈ lw_tbl := List.mem_of_getElem? (i := 991) (by decide +kernel)
theorem mw_992 : Cond.code yX6_asks prog_8_method_35_code 3 (some .int) ∈ lw_tbl := List.mem_of_getElem? (i := 992) (by decide +kernel)
theorem mw_993 : Cond.methodLink "MillOfDistancesModel" 186 yJ9_max_7cf53 ∈ lw_tbl := List.mem_of_getElem? (i := 993) (by decide +kernel)
theorem mw_994 : Cond.methodLink "MillOfDistancesLaw" 52 yX6_place ∈ lw_tbl := List.mem_of_getElem? (i := 994) (by decide +kernel)
theorem mw_995 : Cond.instanceMethod yX6_place ∈ lw_tbl := List.mem_of_getElem? (i := 995) (by decide +kernel)
theorem mw_996 : Cond.selects "MillOfDistancesModel" yX6_place yX6_place ∈ lw_tbl := List.mem_of_getElem? (i := 996) (by decide +kernel)
theorem mw_997 : Cond.code yX6_place prog_8_method_19_code 3 (some .int) ∈ lw_tbl := List.mem_of_getElem? (i := 997) (by decide +kernel)
theorem mw_998 : Cond.methodLink "MillOfDistancesModel" 97 yX6_newPlace ∈ lw_tbl := List.mem_of_getElem? (i := 998) (by decide +kernel)
theorem mw_999 : Cond.privateMethod yX6_newPlace ∈ lw_tbl := List.mem_of_getElem? (i := 999) (by decide +kernel)
theorem mw_1000 : Cond.instanceMethod yX6_newPlace ∈ lw_tbl := List.mem_of_getElem? (i := 1000) (by decide +kernel)
theorem mw_1001 : Cond.code yX6_newPlace prog_8_method_18_code 4 (some .int) ∈ lw_tbl := List.mem_of_getElem? (i := 1001) (by decide +kernel)
theorem mw_1002 : Cond.methodLink "MillOfDistancesLaw" 56 yX6_placeOf ∈ lw_tbl := List.mem_of_getElem? (i := 1002) (by decide +kernel)
theorem mw_1003 : Cond.instanceMethod yX6_placeOf ∈ lw_tbl := List.mem_of_getElem? (i := 1003) (by decide +kernel)
theorem mw_1004 : Cond.selects "MillOfDistancesModel" yX6_placeOf yX6_placeOf ∈ lw_tbl := List.mem_of_getElem? (i := 1004) (by decide +kernel)
theorem mw_1005 : Cond.code yX6_placeOf prog_8_method_21_code 5 (some .int) ∈ lw_tbl := List.mem_of_getElem? (i := 1005) (by decide +kernel)
theorem mw_1006 : Cond.methodLink "MillOfDistancesLaw" 60 yX6_road ∈ lw_tbl := List.mem_of_getElem? (i := 1006) (by decide +kernel)
theorem mw_1007 : Cond.instanceMethod yX6_road ∈ lw_tbl := List.mem_of_getElem? (i := 1007) (by decide +kernel)
theorem mw_1008 : Cond.selects "MillOfDistancesModel" yX6_road yX6_road ∈ lw_tbl := List.mem_of_getElem? (i := 1008) (by decide +kernel)
theorem mw_1009 : Cond.code yX6_road prog_8_method_23_code 4 (some .int) ∈ lw_tbl := List.mem_of_getElem? (i := 1009) (by decide +kernel)
theorem mw_1010 : Cond.methodLink "MillOfDistancesModel" 100 yX6_lay ∈ lw_tbl := List.mem_of_getElem? (i := 1010) (by decide +kernel)
theorem mw_1011 : Cond.privateMethod yX6_lay ∈ lw_tbl := List.mem_of_getElem? (i := 1011) (by decide +kernel)
theorem mw_1012 : Cond.instanceMethod yX6_lay ∈ lw_tbl := List.mem_of_getElem? (i := 1012) (by decide +kernel)
theorem mw_1013 : Cond.code yX6_lay prog_8_method_22_code 5 (some .int) ∈ lw_tbl := List.mem_of_getElem? (i := 1013) (by decide +kernel)
theorem mw_1014 : Cond.methodLink "MillOfDistancesLaw" 64 yX6_miles ∈ lw_tbl := List.mem_of_getElem? (i := 1014) (by decide +kernel)
theorem mw_1015 : Cond.instanceMethod yX6_miles ∈ lw_tbl := List.mem_of_getElem? (i := 1015) (by decide +kernel)
theorem mw_1016 : Cond.selects "MillOfDistancesModel" yX6_miles yX6_miles ∈ lw_tbl := List.mem_of_getElem? (i := 1016) (by decide +kernel)
theorem mw_1017 : Cond.code yX6_miles prog_8_method_24_code 3 (some .int) ∈ lw_tbl := List.mem_of_getElem? (i := 1017) (by decide +kernel)
theorem mw_1018 : Cond.methodLink "MillOfDistancesModel" 104 yX6_no10 ∈ lw_tbl := List.mem_of_getElem? (i := 1018) (by decide +kernel)
theorem mw_1019 : Cond.privateMethod yX6_no10 ∈ lw_tbl := List.mem_of_getElem? (i := 1019) (by decide +kernel)
theorem mw_1020 : Cond.instanceMethod yX6_no10 ∈ lw_tbl := List.mem_of_getElem? (i := 1020) (by decide +kernel)
theorem mw_1021 : Cond.code yX6_no10 prog_8_method_3_code 2 (some .int) ∈ lw_tbl := List.mem_of_getElem? (i := 1021) (by decide +kernel)
theorem mw_1022 : Cond.methodLink "MillOfDistancesLaw" 68 yX6_ask ∈ lw_tbl := List.mem_of_getElem? (i := 1022) (by decide +kernel)
theorem mw_1023 : Cond.instanceMethod yX6_ask ∈ lw_tbl := List.mem_of_getElem? (i := 1023) (by decide +kernel)
theorem mw_1024 : Cond.selects "MillOfDistancesModel" yX6_ask yX6_ask ∈ lw_tbl := List.mem_of_getElem? (i := 1024) (by decide +kernel)
theorem mw_1025 : Cond.code yX6_ask prog_8_method_25_code 4 (some .int) ∈ lw_tbl := List.mem_of_getElem? (i := 1025) (by decide +kernel)
theorem mw_1026 : Cond.constant "MillOfDistancesModel" 107 99999 ∈ lw_tbl := List.mem_of_getElem? (i := 1026) (by decide +kernel)
theorem mw_1027 : Cond.methodLink "MillOfDistancesLaw" 72 yX6_map ∈ lw_tbl := List.mem_of_getElem? (i := 1027) (by decide +kernel)
theorem mw_1028 : Cond.instanceMethod yX6_map ∈ lw_tbl := List.mem_of_getElem? (i := 1028) (by decide +kernel)
theorem mw_1029 : Cond.selects "MillOfDistancesModel" yX6_map yX6_map ∈ lw_tbl := List.mem_of_getElem? (i := 1029) (by decide +kernel)
theorem mw_1030 : Cond.code yX6_map prog_8_method_33_code 5 (some .int) ∈ lw_tbl := List.mem_of_getElem? (i := 1030) (by decide +kernel)
theorem mw_1031 : Cond.methodLink "MillOfDistancesModel" 175 yX6_keep ∈ lw_tbl := List.mem_of_getElem? (i := 1031) (by decide +kernel)
theorem mw_1032 : Cond.privateMethod yX6_keep ∈ lw_tbl := List.mem_of_getElem? (i := 1032) (by decide +kernel)
theorem mw_1033 : Cond.instanceMethod yX6_keep ∈ lw_tbl := List.mem_of_getElem? (i := 1033) (by decide +kernel)
theorem mw_1034 : Cond.code yX6_keep prog_8_method_84_code 3 none ∈ lw_tbl := List.mem_of_getElem? (i := 1034) (by decide +kernel)
theorem mw_1035 : Cond.methodLink "MillOfDistancesModel" 179 yX6_item ∈ lw_tbl := List.mem_of_getElem? (i := 1035) (by decide +kernel)
theorem mw_1036 : Cond.privateMethod yX6_item ∈ lw_tbl := List.mem_of_getElem? (i := 1036) (by decide +kernel)
theorem mw_1037 : Cond.instanceMethod yX6_item ∈ lw_tbl := List.mem_of_getElem? (i := 1037) (by decide +kernel)
theorem mw_1038 : Cond.code yX6_item prog_8_method_32_code 4 (some .boolean) ∈ lw_tbl := List.mem_of_getElem? (i := 1038) (by decide +kernel)
theorem mw_1039 : Cond.methodLink "MillOfDistancesModel" 120 yX6_sign ∈ lw_tbl := List.mem_of_getElem? (i := 1039) (by decide +kernel)
theorem mw_1040 : Cond.privateMethod yX6_sign ∈ lw_tbl := List.mem_of_getElem? (i := 1040) (by decide +kernel)
theorem mw_1041 : Cond.instanceMethod yX6_sign ∈ lw_tbl := List.mem_of_getElem? (i := 1041) (by decide +kernel)
theorem mw_1042 : Cond.code yX6_sign prog_8_method_26_code 1 (some .int) ∈ lw_tbl := List.mem_of_getElem? (i := 1042) (by decide +kernel)
theorem mw_1043 : Cond.stringRef "MillOfDistancesModel" 144 "place" ∈ lw_tbl := List.mem_of_getElem? (i := 1043) (by decide +kernel)
theorem mw_1044 : Cond.methodLink "MillOfDistancesModel" 146 yX6_word_ ∈ lw_tbl := List.mem_of_getElem? (i := 1044) (by decide +kernel)
theorem mw_1045 : Cond.privateMethod yX6_word_ ∈ lw_tbl := List.mem_of_getElem? (i := 1045) (by decide +kernel)
theorem mw_1046 : Cond.instanceMethod yX6_word_ ∈ lw_tbl := List.mem_of_getElem? (i := 1046) (by decide +kernel)
theorem mw_1047 : Cond.code yX6_word_ prog_8_method_29_code 5 (some .boolean) ∈ lw_tbl := List.mem_of_getElem? (i := 1047) (by decide +kernel)
theorem mw_1048 : Cond.methodLink "MillOfDistancesModel" 137 yX6_word ∈ lw_tbl := List.mem_of_getElem? (i := 1048) (by decide +kernel)
theorem mw_1049 : Cond.privateMethod yX6_word ∈ lw_tbl := List.mem_of_getElem? (i := 1049) (by decide +kernel)
theorem mw_1050 : Cond.instanceMethod yX6_word ∈ lw_tbl := List.mem_of_getElem? (i := 1050) (by decide +kernel)
theorem mw_1051 : Cond.code yX6_word prog_8_method_28_code 3 (some .boolean) ∈ lw_tbl := List.mem_of_getElem? (i := 1051) (by decide +kernel)
theorem mw_1052 : Cond.methodLink "MillOfDistancesModel" 124 yJ0_length_8abf5 ∈ lw_tbl := List.mem_of_getElem? (i := 1052) (by decide +kernel)
theorem mw_1053 : Cond.methodLink "MillOfDistancesModel" 129 yJ0_charAt_5068e ∈ lw_tbl := List.mem_of_getElem? (i := 1053) (by decide +kernel)
theorem mw_1054 : Cond.methodLink "MillOfDistancesModel" 133 yX6_is ∈ lw_tbl := List.mem_of_getElem? (i := 1054) (by decide +kernel)
theorem mw_1055 : Cond.privateMethod yX6_is ∈ lw_tbl := List.mem_of_getElem? (i := 1055) (by decide +kernel)
theorem mw_1056 : Cond.instanceMethod yX6_is ∈ lw_tbl := List.mem_of_getElem? (i := 1056) (by decide +kernel)
theorem mw_1057 : Cond.code yX6_is prog_8_method_27_code 2 (some .boolean) ∈ lw_tbl := List.mem_of_getElem? (i := 1057) (by decide +kernel)
theorem mw_1058 : Cond.methodLink "MillOfDistancesModel" 141 yX6_number ∈ lw_tbl := List.mem_of_getElem? (i := 1058) (by decide +kernel)
theorem mw_1059 : Cond.privateMethod yX6_number ∈ lw_tbl := List.mem_of_getElem? (i := 1059) (by decide +kernel)
theorem mw_1060 : Cond.instanceMethod yX6_number ∈ lw_tbl := List.mem_of_getElem? (i := 1060) (by decide +kernel)
theorem mw_1061 : Cond.code yX6_number prog_8_method_30_code 7 (some .boolean) ∈ lw_tbl := List.mem_of_getElem? (i := 1061) (by decide +kernel)
theorem mw_1062 : Cond.stringRef "MillOfDistancesModel" 149 "road" ∈ lw_tbl := List.mem_of_getElem? (i := 1062) (by decide +kernel)
theorem mw_1063 : Cond.methodLink "MillOfDistancesModel" 151 yX6_two ∈ lw_tbl := List.mem_of_getElem? (i := 1063) (by decide +kernel)
theorem mw_1064 : Cond.privateMethod yX6_two ∈ lw_tbl := List.mem_of_getElem? (i := 1064) (by decide +kernel)
theorem mw_1065 : Cond.instanceMethod yX6_two ∈ lw_tbl := List.mem_of_getElem? (i := 1065) (by decide +kernel)
theorem mw_1066 : Cond.code yX6_two prog_8_method_31_code 4 (some .boolean) ∈ lw_tbl := List.mem_of_getElem? (i := 1066) (by decide +kernel)
theorem mw_1067 : Cond.stringRef "MillOfDistancesModel" 155 "mill" ∈ lw_tbl := List.mem_of_getElem? (i := 1067) (by decide +kernel)
theorem mw_1068 : Cond.methodLink "MillOfDistancesModel" 157 yX6_mills ∈ lw_tbl := List.mem_of_getElem? (i := 1068) (by decide +kernel)
theorem mw_1069 : Cond.privateMethod yX6_mills ∈ lw_tbl := List.mem_of_getElem? (i := 1069) (by decide +kernel)
theorem mw_1070 : Cond.instanceMethod yX6_mills ∈ lw_tbl := List.mem_of_getElem? (i := 1070) (by decide +kernel)
theorem mw_1071 : Cond.code yX6_mills prog_8_method_41_code 3 none ∈ lw_tbl := List.mem_of_getElem? (i := 1071) (by decide +kernel)
theorem mw_1072 : Cond.methodLink "MillOfDistancesModel" 197 yX6_yieldOf ∈ lw_tbl := List.mem_of_getElem? (i := 1072) (by decide +kernel)
theorem mw_1073 : Cond.privateMethod yX6_yieldOf ∈ lw_tbl := List.mem_of_getElem? (i := 1073) (by decide +kernel)
theorem mw_1074 : Cond.instanceMethod yX6_yieldOf ∈ lw_tbl := List.mem_of_getElem? (i := 1074) (by decide +kernel)
theorem mw_1075 : Cond.code yX6_yieldOf prog_8_method_38_code 4 (some .int) ∈ lw_tbl := List.mem_of_getElem? (i := 1075) (by decide +kernel)
theorem mw_1076 : Cond.methodLink "MillOfDistancesModel" 200 yJ9_min_7cf53 ∈ lw_tbl := List.mem_of_getElem? (i := 1076) (by decide +kernel)
theorem mw_1077 : Cond.stringRef "MillOfDistancesModel" 161 "our" ∈ lw_tbl := List.mem_of_getElem? (i := 1077) (by decide +kernel)
theorem mw_1078 : Cond.stringRef "MillOfDistancesModel" 163 "near" ∈ lw_tbl := List.mem_of_getElem? (i := 1078) (by decide +kernel)
theorem mw_1079 : Cond.stringRef "MillOfDistancesModel" 165 "ar" ∈ lw_tbl := List.mem_of_getElem? (i := 1079) (by decide +kernel)
theorem mw_1080 : Cond.methodLink "MillOfDistancesModel" 167 yX6_may ∈ lw_tbl := List.mem_of_getElem? (i := 1080) (by decide +kernel)
theorem mw_1081 : Cond.privateMethod yX6_may ∈ lw_tbl := List.mem_of_getElem? (i := 1081) (by decide +kernel)
theorem mw_1082 : Cond.instanceMethod yX6_may ∈ lw_tbl := List.mem_of_getElem? (i := 1082) (by decide +kernel)
theorem mw_1083 : Cond.code yX6_may prog_8_method_42_code 5 (some .boolean) ∈ lw_tbl := List.mem_of_getElem? (i := 1083) (by decide +kernel)
theorem mw_1084 : Cond.methodLink "MillOfDistancesModel" 194 yX6_noRoad ∈ lw_tbl := List.mem_of_getElem? (i := 1084) (by decide +kernel)
theorem mw_1085 : Cond.privateMethod yX6_noRoad ∈ lw_tbl := List.mem_of_getElem? (i := 1085) (by decide +kernel)
theorem mw_1086 : Cond.instanceMethod yX6_noRoad ∈ lw_tbl := List.mem_of_getElem? (i := 1086) (by decide +kernel)
theorem mw_1087 : Cond.code yX6_noRoad prog_8_method_39_code 3 (some .boolean) ∈ lw_tbl := List.mem_of_getElem? (i := 1087) (by decide +kernel)
theorem mw_1088 : Cond.methodLink "MillOfDistancesModel" 203 yJ9_abs_0f7a4 ∈ lw_tbl := List.mem_of_getElem? (i := 1088) (by decide +kernel)
theorem mw_1089 : Cond.methodLink "MillOfDistancesModel" 191 yX6_costs ∈ lw_tbl := List.mem_of_getElem? (i := 1089) (by decide +kernel)
theorem mw_1090 : Cond.privateMethod yX6_costs ∈ lw_tbl := List.mem_of_getElem? (i := 1090) (by decide +kernel)
theorem mw_1091 : Cond.instanceMethod yX6_costs ∈ lw_tbl := List.mem_of_getElem? (i := 1091) (by decide +kernel)
theorem mw_1092 : Cond.code yX6_costs prog_8_method_36_code 4 (some .int) ∈ lw_tbl := List.mem_of_getElem? (i := 1092) (by decide +kernel)
theorem mw_1093 : Cond.methodLink "MillOfDistancesModel" 170 yX6_pinch ∈ lw_tbl := List.mem_of_getElem? (i := 1093) (by decide +kernel)
theorem mw_1094 : Cond.privateMethod yX6_pinch ∈ lw_tbl := List.mem_of_getElem? (i := 1094) (by decide +kernel)
theorem mw_1095 : Cond.instanceMethod yX6_pinch ∈ lw_tbl := List.mem_of_getElem? (i := 1095) (by decide +kernel)
theorem mw_1096 : Cond.code yX6_pinch prog_8_method_43_code 4 none ∈ lw_tbl := List.mem_of_getElem? (i := 1096) (by decide +kernel)
theorem mw_1097 : Cond.stringRef "MillOfDistancesModel" 174 "wind" ∈ lw_tbl := List.mem_of_getElem? (i := 1097) (by decide +kernel)
theorem mw_1098 : Cond.methodLink "MillOfDistancesModel" 183 yX6_again ∈ lw_tbl := List.mem_of_getElem? (i := 1098) (by decide +kernel)
theorem mw_1099 : Cond.privateMethod yX6_again ∈ lw_tbl := List.mem_of_getElem? (i := 1099) (by decide +kernel)
theorem mw_1100 : Cond.instanceMethod yX6_again ∈ lw_tbl := List.mem_of_getElem? (i := 1100) (by decide +kernel)
theorem mw_1101 : Cond.code yX6_again prog_8_method_85_code 3 none ∈ lw_tbl := List.mem_of_getElem? (i := 1101) (by decide +kernel)
theorem mw_1102 : Cond.methodLink "MillOfDistancesLaw" 77 yX6_fault ∈ lw_tbl := List.mem_of_getElem? (i := 1102) (by decide +kernel)
theorem mw_1103 : Cond.instanceMethod yX6_fault ∈ lw_tbl := List.mem_of_getElem? (i := 1103) (by decide +kernel)
theorem mw_1104 : Cond.selects "MillOfDistancesModel" yX6_fault yX6_fault ∈ lw_tbl := List.mem_of_getElem? (i := 1104) (by decide +kernel)
theorem mw_1105 : Cond.code yX6_fault prog_8_method_34_code 1 (some .int) ∈ lw_tbl := List.mem_of_getElem? (i := 1105) (by decide +kernel)
theorem mw_1106 : Cond.methodLink "MillOfDistancesLaw" 81 yX6_cost ∈ lw_tbl := List.mem_of_getElem? (i := 1106) (by decide +kernel)
theorem mw_1107 : Cond.instanceMethod yX6_cost ∈ lw_tbl := List.mem_of_getElem? (i := 1107) (by decide +kernel)
theorem mw_1108 : Cond.selects "MillOfDistancesModel" yX6_cost yX6_cost ∈ lw_tbl := List.mem_of_getElem? (i := 1108) (by decide +kernel)
theorem mw_1109 : Cond.code yX6_cost prog_8_method_37_code 4 (some .int) ∈ lw_tbl := List.mem_of_getElem? (i := 1109) (by decide +kernel)
theorem mw_1110 : Cond.methodLink "MillOfDistancesLaw" 85 yX6_yields ∈ lw_tbl := List.mem_of_getElem? (i := 1110) (by decide +kernel)
theorem mw_1111 : Cond.instanceMethod yX6_yields ∈ lw_tbl := List.mem_of_getElem? (i := 1111) (by decide +kernel)
theorem mw_1112 : Cond.selects "MillOfDistancesModel" yX6_yields yX6_yields ∈ lw_tbl := List.mem_of_getElem? (i := 1112) (by decide +kernel)
theorem mw_1113 : Cond.code yX6_yields prog_8_method_40_code 3 (some .int) ∈ lw_tbl := List.mem_of_getElem? (i := 1113) (by decide +kernel)
theorem mw_1114 : Cond.methodLink "MillOfDistancesLaw" 89 yX6_away ∈ lw_tbl := List.mem_of_getElem? (i := 1114) (by decide +kernel)
theorem mw_1115 : Cond.instanceMethod yX6_away ∈ lw_tbl := List.mem_of_getElem? (i := 1115) (by decide +kernel)
theorem mw_1116 : Cond.selects "MillOfDistancesModel" yX6_away yX6_away ∈ lw_tbl := List.mem_of_getElem? (i := 1116) (by decide +kernel)
theorem mw_1117 : Cond.code yX6_away prog_8_method_46_code 3 (some .int) ∈ lw_tbl := List.mem_of_getElem? (i := 1117) (by decide +kernel)
theorem mw_1118 : Cond.methodLink "MillOfDistancesModel" 206 yX6_walk ∈ lw_tbl := List.mem_of_getElem? (i := 1118) (by decide +kernel)
theorem mw_1119 : Cond.privateMethod yX6_walk ∈ lw_tbl := List.mem_of_getElem? (i := 1119) (by decide +kernel)
theorem mw_1120 : Cond.instanceMethod yX6_walk ∈ lw_tbl := List.mem_of_getElem? (i := 1120) (by decide +kernel)
theorem mw_1121 : Cond.code yX6_walk prog_8_method_44_code 4 none ∈ lw_tbl := List.mem_of_getElem? (i := 1121) (by decide +kernel)
theorem mw_1122 : Cond.methodLink "MillOfDistancesModel" 209 yX6_farTold ∈ lw_tbl := List.mem_of_getElem? (i := 1122) (by decide +kernel)
theorem mw_1123 : Cond.privateMethod yX6_farTold ∈ lw_tbl := List.mem_of_getElem? (i := 1123) (by decide +kernel)
theorem mw_1124 : Cond.instanceMethod yX6_farTold ∈ lw_tbl := List.mem_of_getElem? (i := 1124) (by decide +kernel)
theorem mw_1125 : Cond.code yX6_farTold prog_8_method_45_code 3 (some .int) ∈ lw_tbl := List.mem_of_getElem? (i := 1125) (by decide +kernel)
theorem mw_1126 : Cond.methodLink "MillOfDistancesLaw" 93 yX6_shortest ∈ lw_tbl := List.mem_of_getElem? (i := 1126) (by decide +kernel)
theorem mw_1127 : Cond.instanceMethod yX6_shortest ∈ lw_tbl := List.mem_of_getElem? (i := 1127) (by decide +kernel)
theorem mw_1128 : Cond.selects "MillOfDistancesModel" yX6_shortest yX6_shortest ∈ lw_tbl := List.mem_of_getElem? (i := 1128) (by decide +kernel)
theorem mw_1129 : Cond.code yX6_shortest prog_8_method_48_code 6 (some .int) ∈ lw_tbl := List.mem_of_getElem? (i := 1129) (by decide +kernel)
theorem mw_1130 : Cond.methodLink "MillOfDistancesModel" 212 yX6_next ∈ lw_tbl := List.mem_of_getElem? (i := 1130) (by decide +kernel)
theorem mw_1131 : Cond.privateMethod yX6_next ∈ lw_tbl := List.mem_of_getElem? (i := 1131) (by decide +kernel)
theorem mw_1132 : Cond.instanceMethod yX6_next ∈ lw_tbl := List.mem_of_getElem? (i := 1132) (by decide +kernel)
theorem mw_1133 : Cond.code yX6_next prog_8_method_47_code 4 (some .int) ∈ lw_tbl := List.mem_of_getElem? (i := 1133) (by decide +kernel)
theorem mw_1134 : Cond.methodLink "MillOfDistancesLaw" 97 yX6_within_ ∈ lw_tbl := List.mem_of_getElem? (i := 1134) (by decide +kernel)
theorem mw_1135 : Cond.instanceMethod yX6_within_ ∈ lw_tbl := List.mem_of_getElem? (i := 1135) (by decide +kernel)
theorem mw_1136 : Cond.selects "MillOfDistancesModel" yX6_within_ yX6_within_ ∈ lw_tbl := List.mem_of_getElem? (i := 1136) (by decide +kernel)
theorem mw_1137 : Cond.code yX6_within_ prog_8_method_49_code 5 (some .int) ∈ lw_tbl := List.mem_of_getElem? (i := 1137) (by decide +kernel)
theorem mw_1138 : Cond.methodLink "MillOfDistancesLaw" 101 yX6_whole ∈ lw_tbl := List.mem_of_getElem? (i := 1138) (by decide +kernel)
theorem mw_1139 : Cond.instanceMethod yX6_whole ∈ lw_tbl := List.mem_of_getElem? (i := 1139) (by decide +kernel)
theorem mw_1140 : Cond.selects "MillOfDistancesModel" yX6_whole yX6_whole ∈ lw_tbl := List.mem_of_getElem? (i := 1140) (by decide +kernel)
theorem mw_1141 : Cond.code yX6_whole prog_8_method_53_code 6 (some .int) ∈ lw_tbl := List.mem_of_getElem? (i := 1141) (by decide +kernel)
theorem mw_1142 : Cond.methodLink "MillOfDistancesModel" 221 yX6_parts ∈ lw_tbl := List.mem_of_getElem? (i := 1142) (by decide +kernel)
theorem mw_1143 : Cond.privateMethod yX6_parts ∈ lw_tbl := List.mem_of_getElem? (i := 1143) (by decide +kernel)
theorem mw_1144 : Cond.instanceMethod yX6_parts ∈ lw_tbl := List.mem_of_getElem? (i := 1144) (by decide +kernel)
theorem mw_1145 : Cond.code yX6_parts prog_8_method_50_code 5 (some .int) ∈ lw_tbl := List.mem_of_getElem? (i := 1145) (by decide +kernel)
theorem mw_1146 : Cond.methodLink "MillOfDistancesModel" 224 yX6_keeps ∈ lw_tbl := List.mem_of_getElem? (i := 1146) (by decide +kernel)
theorem mw_1147 : Cond.privateMethod yX6_keeps ∈ lw_tbl := List.mem_of_getElem? (i := 1147) (by decide +kernel)
theorem mw_1148 : Cond.instanceMethod yX6_keeps ∈ lw_tbl := List.mem_of_getElem? (i := 1148) (by decide +kernel)
theorem mw_1149 : Cond.code yX6_keeps prog_8_method_52_code 7 (some .int) ∈ lw_tbl := List.mem_of_getElem? (i := 1149) (by decide +kernel)
theorem mw_1150 : Cond.methodLink "MillOfDistancesModel" 215 yX6_has ∈ lw_tbl := List.mem_of_getElem? (i := 1150) (by decide +kernel)
theorem mw_1151 : Cond.static yX6_has ∈ lw_tbl := List.mem_of_getElem? (i := 1151) (by decide +kernel)
theorem mw_1152 : Cond.code yX6_has prog_8_method_5_code 2 (some .boolean) ∈ lw_tbl := List.mem_of_getElem? (i := 1152) (by decide +kernel)
theorem mw_1153 : Cond.methodLink "MillOfDistancesModel" 218 yJ6_numberOfTrailingZeros_0f7a4 ∈ lw_tbl := List.mem_of_getElem? (i := 1153) (by decide +kernel)
theorem mw_1154 : Cond.static yJ6_numberOfTrailingZeros_0f7a4 ∈ lw_tbl := List.mem_of_getElem? (i := 1154) (by decide +kernel)
theorem mw_1155 : Cond.code yJ6_numberOfTrailingZeros_0f7a4 prog_9_method_48_code 2 (some .int) ∈ lw_tbl := List.mem_of_getElem? (i := 1155) (by decide +kernel)
theorem mw_1156 : Cond.constant "java/lang/Integer" 264 65536 ∈ lw_tbl := List.mem_of_getElem? (i := 1156) (by decide +kernel)
theorem mw_1157 : Cond.methodLink "MillOfDistancesModel" 227 yX6_farthest ∈ lw_tbl := List.mem_of_getElem? (i := 1157) (by decide +kernel)
theorem mw_1158 : Cond.privateMethod yX6_farthest ∈ lw_tbl := List.mem_of_getElem? (i := 1158) (by decide +kernel)
theorem mw_1159 : Cond.instanceMethod yX6_farthest ∈ lw_tbl := List.mem_of_getElem? (i := 1159) (by decide +kernel)
theorem mw_1160 : Cond.code yX6_farthest prog_8_method_51_code 4 (some .int) ∈ lw_tbl := List.mem_of_getElem? (i := 1160) (by decide +kernel)
theorem mw_1161 : Cond.methodLink "MillOfDistancesLaw" 105 yX6_harm ∈ lw_tbl := List.mem_of_getElem? (i := 1161) (by decide +kernel)
theorem mw_1162 : Cond.instanceMethod yX6_harm ∈ lw_tbl := List.mem_of_getElem? (i := 1162) (by decide +kernel)
theorem mw_1163 : Cond.selects "MillOfDistancesModel" yX6_harm yX6_harm ∈ lw_tbl := List.mem_of_getElem? (i := 1163) (by decide +kernel)
theorem mw_1164 : Cond.code yX6_harm prog_8_method_55_code 7 (some .int) ∈ lw_tbl := List.mem_of_getElem? (i := 1164) (by decide +kernel)
theorem mw_1165 : Cond.methodLink "MillOfDistancesModel" 230 yX6_harmOf ∈ lw_tbl := List.mem_of_getElem? (i := 1165) (by decide +kernel)
theorem mw_1166 : Cond.privateMethod yX6_harmOf ∈ lw_tbl := List.mem_of_getElem? (i := 1166) (by decide +kernel)
theorem mw_1167 : Cond.instanceMethod yX6_harmOf ∈ lw_tbl := List.mem_of_getElem? (i := 1167) (by decide +kernel)
theorem mw_1168 : Cond.code yX6_harmOf prog_8_method_54_code 7 (some .int) ∈ lw_tbl := List.mem_of_getElem? (i := 1168) (by decide +kernel)
theorem mw_1169 : Cond.methodLink "MillOfDistancesLaw" 109 yX6_leastHarm ∈ lw_tbl := List.mem_of_getElem? (i := 1169) (by decide +kernel)
theorem mw_1170 : Cond.instanceMethod yX6_leastHarm ∈ lw_tbl := List.mem_of_getElem? (i := 1170) (by decide +kernel)
theorem mw_1171 : Cond.selects "MillOfDistancesModel" yX6_leastHarm yX6_leastHarm ∈ lw_tbl := List.mem_of_getElem? (i := 1171) (by decide +kernel)
theorem mw_1172 : Cond.code yX6_leastHarm prog_8_method_56_code 6 (some .int) ∈ lw_tbl := List.mem_of_getElem? (i := 1172) (by decide +kernel)
theorem mw_1173 : Cond.methodLink "MillOfDistancesLaw" 114 yX6_cheapest ∈ lw_tbl := List.mem_of_getElem? (i := 1173) (by decide +kernel)
theorem mw_1174 : Cond.instanceMethod yX6_cheapest ∈ lw_tbl := List.mem_of_getElem? (i := 1174) (by decide +kernel)
theorem mw_1175 : Cond.selects "MillOfDistancesModel" yX6_cheapest yX6_cheapest ∈ lw_tbl := List.mem_of_getElem? (i := 1175) (by decide +kernel)
theorem mw_1176 : Cond.code yX6_cheapest prog_8_method_57_code 13 (some .int) ∈ lw_tbl := List.mem_of_getElem? (i := 1176) (by decide +kernel)
theorem mw_1177 : Cond.methodLink "MillOfDistancesLaw" 118 yX6_meet ∈ lw_tbl := List.mem_of_getElem? (i := 1177) (by decide +kernel)
theorem mw_1178 : Cond.instanceMethod yX6_meet ∈ lw_tbl := List.mem_of_getElem? (i := 1178) (by decide +kernel)
theorem mw_1179 : Cond.selects "MillOfDistancesModel" yX6_meet yX6_meet ∈ lw_tbl := List.mem_of_getElem? (i := 1179) (by decide +kernel)
theorem mw_1180 : Cond.code yX6_meet prog_8_method_58_code 7 (some .int) ∈ lw_tbl := List.mem_of_getElem? (i := 1180) (by decide +kernel)
theorem mw_1181 : Cond.methodLink "MillOfDistancesLaw" 122 yX6_journey ∈ lw_tbl := List.mem_of_getElem? (i := 1181) (by decide +kernel)
theorem mw_1182 : Cond.instanceMethod yX6_journey ∈ lw_tbl := List.mem_of_getElem? (i := 1182) (by decide +kernel)
theorem mw_1183 : Cond.selects "MillOfDistancesModel" yX6_journey yX6_journey ∈ lw_tbl := List.mem_of_getElem? (i := 1183) (by decide +kernel)
theorem mw_1184 : Cond.code yX6_journey prog_8_method_61_code 12 (some .int) ∈ lw_tbl := List.mem_of_getElem? (i := 1184) (by decide +kernel)
theorem mw_1185 : Cond.methodLink "MillOfDistancesModel" 238 yX6_noJourney ∈ lw_tbl := List.mem_of_getElem? (i := 1185) (by decide +kernel)
theorem mw_1186 : Cond.privateMethod yX6_noJourney ∈ lw_tbl := List.mem_of_getElem? (i := 1186) (by decide +kernel)
theorem mw_1187 : Cond.instanceMethod yX6_noJourney ∈ lw_tbl := List.mem_of_getElem? (i := 1187) (by decide +kernel)
theorem mw_1188 : Cond.code yX6_noJourney prog_8_method_60_code 7 (some .int) ∈ lw_tbl := List.mem_of_getElem? (i := 1188) (by decide +kernel)
theorem mw_1189 : Cond.constantLong "MillOfDistancesModel" 233 4 ∈ lw_tbl := List.mem_of_getElem? (i := 1189) (by decide +kernel)
theorem mw_1190 : Cond.methodLink "MillOfDistancesModel" 235 yX6_told ∈ lw_tbl := List.mem_of_getElem? (i := 1190) (by decide +kernel)
theorem mw_1191 : Cond.privateMethod yX6_told ∈ lw_tbl := List.mem_of_getElem? (i := 1191) (by decide +kernel)
theorem mw_1192 : Cond.instanceMethod yX6_told ∈ lw_tbl := List.mem_of_getElem? (i := 1192) (by decide +kernel)
theorem mw_1193 : Cond.code yX6_told prog_8_method_59_code 3 (some .int) ∈ lw_tbl := List.mem_of_getElem? (i := 1193) (by decide +kernel)
theorem mw_1194 : Cond.constantLong "MillOfDistancesModel" 241 999 ∈ lw_tbl := List.mem_of_getElem? (i := 1194) (by decide +kernel)
theorem mw_1195 : Cond.methodLink "MillOfDistancesModel" 243 yJ9_min_f86c9 ∈ lw_tbl := List.mem_of_getElem? (i := 1195) (by decide +kernel)
theorem mw_1196 : Cond.methodLink "MillOfDistancesModel" 246 yJ9_max_f86c9 ∈ lw_tbl := List.mem_of_getElem? (i := 1196) (by decide +kernel)
theorem mw_1197 : Cond.methodLink "MillOfDistancesLaw" 126 yX6_judge ∈ lw_tbl := List.mem_of_getElem? (i := 1197) (by decide +kernel)
theorem mw_1198 : Cond.instanceMethod yX6_judge ∈ lw_tbl := List.mem_of_getElem? (i := 1198) (by decide +kernel)
theorem mw_1199 : Cond.selects "MillOfDistancesModel" yX6_judge yX6_judge ∈ lw_tbl := List.mem_of_getElem? (i := 1199) (by decide +kernel)
theorem mw_1200 : Cond.code yX6_judge prog_8_method_65_code 8 (some .int) ∈ lw_tbl := List.mem_of_getElem? (i := 1200) (by decide +kernel)
theorem mw_1201 : Cond.methodLink "MillOfDistancesModel" 251 yX6_noTable ∈ lw_tbl := List.mem_of_getElem? (i := 1201) (by decide +kernel)
theorem mw_1202 : Cond.privateMethod yX6_noTable ∈ lw_tbl := List.mem_of_getElem? (i := 1202) (by decide +kernel)
theorem mw_1203 : Cond.instanceMethod yX6_noTable ∈ lw_tbl := List.mem_of_getElem? (i := 1203) (by decide +kernel)
theorem mw_1204 : Cond.code yX6_noTable prog_8_method_63_code 3 (some .int) ∈ lw_tbl := List.mem_of_getElem? (i := 1204) (by decide +kernel)
theorem mw_1205 : Cond.methodLink "MillOfDistancesModel" 248 yX6_pairs ∈ lw_tbl := List.mem_of_getElem? (i := 1205) (by decide +kernel)
theorem mw_1206 : Cond.privateMethod yX6_pairs ∈ lw_tbl := List.mem_of_getElem? (i := 1206) (by decide +kernel)
theorem mw_1207 : Cond.instanceMethod yX6_pairs ∈ lw_tbl := List.mem_of_getElem? (i := 1207) (by decide +kernel)
theorem mw_1208 : Cond.code yX6_pairs prog_8_method_62_code 1 (some .int) ∈ lw_tbl := List.mem_of_getElem? (i := 1208) (by decide +kernel)
theorem mw_1209 : Cond.methodLink "MillOfDistancesModel" 254 yX6_pair ∈ lw_tbl := List.mem_of_getElem? (i := 1209) (by decide +kernel)
theorem mw_1210 : Cond.privateMethod yX6_pair ∈ lw_tbl := List.mem_of_getElem? (i := 1210) (by decide +kernel)
theorem mw_1211 : Cond.instanceMethod yX6_pair ∈ lw_tbl := List.mem_of_getElem? (i := 1211) (by decide +kernel)
theorem mw_1212 : Cond.code yX6_pair prog_8_method_64_code 5 (some .int) ∈ lw_tbl := List.mem_of_getElem? (i := 1212) (by decide +kernel)
theorem mw_1213 : Cond.methodLink "MillOfDistancesLaw" 130 yX6_mend ∈ lw_tbl := List.mem_of_getElem? (i := 1213) (by decide +kernel)
theorem mw_1214 : Cond.instanceMethod yX6_mend ∈ lw_tbl := List.mem_of_getElem? (i := 1214) (by decide +kernel)
theorem mw_1215 : Cond.selects "MillOfDistancesModel" yX6_mend yX6_mend ∈ lw_tbl := List.mem_of_getElem? (i := 1215) (by decide +kernel)
theorem mw_1216 : Cond.code yX6_mend prog_8_method_66_code 6 (some .int) ∈ lw_tbl := List.mem_of_getElem? (i := 1216) (by decide +kernel)
theorem mw_1217 : Cond.methodLink "MillOfDistancesLaw" 134 yX6_pinches ∈ lw_tbl := List.mem_of_getElem? (i := 1217) (by decide +kernel)
theorem mw_1218 : Cond.instanceMethod yX6_pinches ∈ lw_tbl := List.mem_of_getElem? (i := 1218) (by decide +kernel)
theorem mw_1219 : Cond.selects "MillOfDistancesModel" yX6_pinches yX6_pinches ∈ lw_tbl := List.mem_of_getElem? (i := 1219) (by decide +kernel)
theorem mw_1220 : Cond.code yX6_pinches prog_8_method_69_code 5 (some .int) ∈ lw_tbl := List.mem_of_getElem? (i := 1220) (by decide +kernel)
theorem mw_1221 : Cond.methodLink "MillOfDistancesModel" 259 yX6_noPinches ∈ lw_tbl := List.mem_of_getElem? (i := 1221) (by decide +kernel)
theorem mw_1222 : Cond.privateMethod yX6_noPinches ∈ lw_tbl := List.mem_of_getElem? (i := 1222) (by decide +kernel)
theorem mw_1223 : Cond.instanceMethod yX6_noPinches ∈ lw_tbl := List.mem_of_getElem? (i := 1223) (by decide +kernel)
theorem mw_1224 : Cond.code yX6_noPinches prog_8_method_67_code 4 (some .int) ∈ lw_tbl := List.mem_of_getElem? (i := 1224) (by decide +kernel)
theorem mw_1225 : Cond.constantLong "MillOfDistancesModel" 257 3 ∈ lw_tbl := List.mem_of_getElem? (i := 1225) (by decide +kernel)
theorem mw_1226 : Cond.methodLink "MillOfDistancesModel" 262 yX6_pinched ∈ lw_tbl := List.mem_of_getElem? (i := 1226) (by decide +kernel)
theorem mw_1227 : Cond.privateMethod yX6_pinched ∈ lw_tbl := List.mem_of_getElem? (i := 1227) (by decide +kernel)
theorem mw_1228 : Cond.instanceMethod yX6_pinched ∈ lw_tbl := List.mem_of_getElem? (i := 1228) (by decide +kernel)
theorem mw_1229 : Cond.code yX6_pinched prog_8_method_68_code 4 (some .int) ∈ lw_tbl := List.mem_of_getElem? (i := 1229) (by decide +kernel)
theorem mw_1230 : Cond.methodLink "MillOfDistancesLaw" 138 yX6_left ∈ lw_tbl := List.mem_of_getElem? (i := 1230) (by decide +kernel)
theorem mw_1231 : Cond.instanceMethod yX6_left ∈ lw_tbl := List.mem_of_getElem? (i := 1231) (by decide +kernel)
theorem mw_1232 : Cond.selects "MillOfDistancesModel" yX6_left yX6_left ∈ lw_tbl := List.mem_of_getElem? (i := 1232) (by decide +kernel)
theorem mw_1233 : Cond.code yX6_left prog_8_method_70_code 6 (some .int) ∈ lw_tbl := List.mem_of_getElem? (i := 1233) (by decide +kernel)
theorem mw_1234 : Cond.methodLink "MillOfDistancesLaw" 142 yX6_done ∈ lw_tbl := List.mem_of_getElem? (i := 1234) (by decide +kernel)
theorem mw_1235 : Cond.instanceMethod yX6_done ∈ lw_tbl := List.mem_of_getElem? (i := 1235) (by decide +kernel)
theorem mw_1236 : Cond.selects "MillOfDistancesModel" yX6_done yX6_done ∈ lw_tbl := List.mem_of_getElem? (i := 1236) (by decide +kernel)
theorem mw_1237 : Cond.code yX6_done prog_8_method_71_code 4 (some .int) ∈ lw_tbl := List.mem_of_getElem? (i := 1237) (by decide +kernel)
theorem mw_1238 : Cond.methodLink "MillOfDistancesLaw" 146 yX6_theft ∈ lw_tbl := List.mem_of_getElem? (i := 1238) (by decide +kernel)
theorem mw_1239 : Cond.instanceMethod yX6_theft ∈ lw_tbl := List.mem_of_getElem? (i := 1239) (by decide +kernel)
theorem mw_1240 : Cond.selects "MillOfDistancesModel" yX6_theft yX6_theft ∈ lw_tbl := List.mem_of_getElem? (i := 1240) (by decide +kernel)
theorem mw_1241 : Cond.code yX6_theft prog_8_method_72_code 14 (some .int) ∈ lw_tbl := List.mem_of_getElem? (i := 1241) (by decide +kernel)
theorem mw_1242 : Cond.methodLink "MillOfDistancesLaw" 150 yX6_mill ∈ lw_tbl := List.mem_of_getElem? (i := 1242) (by decide +kernel)
theorem mw_1243 : Cond.instanceMethod yX6_mill ∈ lw_tbl := List.mem_of_getElem? (i := 1243) (by decide +kernel)
theorem mw_1244 : Cond.selects "MillOfDistancesModel" yX6_mill yX6_mill ∈ lw_tbl := List.mem_of_getElem? (i := 1244) (by decide +kernel)
theorem mw_1245 : Cond.code yX6_mill prog_8_method_73_code 3 (some .int) ∈ lw_tbl := List.mem_of_getElem? (i := 1245) (by decide +kernel)
theorem mw_1246 : Cond.methodLink "MillOfDistancesLaw" 154 yX6_spread ∈ lw_tbl := List.mem_of_getElem? (i := 1246) (by decide +kernel)
theorem mw_1247 : Cond.instanceMethod yX6_spread ∈ lw_tbl := List.mem_of_getElem? (i := 1247) (by decide +kernel)
theorem mw_1248 : Cond.selects "MillOfDistancesModel" yX6_spread yX6_spread ∈ lw_tbl := List.mem_of_getElem? (i := 1248) (by decide +kernel)
theorem mw_1249 : Cond.code yX6_spread prog_8_method_74_code 4 (some .int) ∈ lw_tbl := List.mem_of_getElem? (i := 1249) (by decide +kernel)
theorem mw_1250 : Cond.methodLink "MillOfDistancesLaw" 158 yX6_gale ∈ lw_tbl := List.mem_of_getElem? (i := 1250) (by decide +kernel)
theorem mw_1251 : Cond.instanceMethod yX6_gale ∈ lw_tbl := List.mem_of_getElem? (i := 1251) (by decide +kernel)
theorem mw_1252 : Cond.selects "MillOfDistancesModel" yX6_gale yX6_gale ∈ lw_tbl := List.mem_of_getElem? (i := 1252) (by decide +kernel)
theorem mw_1253 : Cond.code yX6_gale prog_8_method_76_code 8 (some .int) ∈ lw_tbl := List.mem_of_getElem? (i := 1253) (by decide +kernel)
theorem mw_1254 : Cond.methodLink "MillOfDistancesModel" 266 yX6_draw ∈ lw_tbl := List.mem_of_getElem? (i := 1254) (by decide +kernel)
theorem mw_1255 : Cond.privateMethod yX6_draw ∈ lw_tbl := List.mem_of_getElem? (i := 1255) (by decide +kernel)
theorem mw_1256 : Cond.instanceMethod yX6_draw ∈ lw_tbl := List.mem_of_getElem? (i := 1256) (by decide +kernel)
theorem mw_1257 : Cond.code yX6_draw prog_8_method_75_code 2 (some .int) ∈ lw_tbl := List.mem_of_getElem? (i := 1257) (by decide +kernel)
theorem mw_1258 : Cond.constant "MillOfDistancesModel" 265 1103515245 ∈ lw_tbl := List.mem_of_getElem? (i := 1258) (by decide +kernel)
theorem mw_1259 : Cond.methodLink "MillOfDistancesLaw" 162 yX6_seed ∈ lw_tbl := List.mem_of_getElem? (i := 1259) (by decide +kernel)
theorem mw_1260 : Cond.instanceMethod yX6_seed ∈ lw_tbl := List.mem_of_getElem? (i := 1260) (by decide +kernel)
theorem mw_1261 : Cond.selects "MillOfDistancesModel" yX6_seed yX6_seed ∈ lw_tbl := List.mem_of_getElem? (i := 1261) (by decide +kernel)
theorem mw_1262 : Cond.code yX6_seed prog_8_method_77_code 3 (some .int) ∈ lw_tbl := List.mem_of_getElem? (i := 1262) (by decide +kernel)
theorem mw_1263 : Cond.methodLink "MillOfDistancesLaw" 166 yX6_act ∈ lw_tbl := List.mem_of_getElem? (i := 1263) (by decide +kernel)
theorem mw_1264 : Cond.instanceMethod yX6_act ∈ lw_tbl := List.mem_of_getElem? (i := 1264) (by decide +kernel)
theorem mw_1265 : Cond.selects "MillOfDistancesModel" yX6_act yX6_act ∈ lw_tbl := List.mem_of_getElem? (i := 1265) (by decide +kernel)
theorem mw_1266 : Cond.code yX6_act prog_8_method_82_code 4 (some .int) ∈ lw_tbl := List.mem_of_getElem? (i := 1266) (by decide +kernel)
theorem mw_1267 : Cond.methodLink "MillOfDistancesModel" 276 yX6_grinds ∈ lw_tbl := List.mem_of_getElem? (i := 1267) (by decide +kernel)
theorem mw_1268 : Cond.privateMethod yX6_grinds ∈ lw_tbl := List.mem_of_getElem? (i := 1268) (by decide +kernel)
theorem mw_1269 : Cond.instanceMethod yX6_grinds ∈ lw_tbl := List.mem_of_getElem? (i := 1269) (by decide +kernel)
theorem mw_1270 : Cond.code yX6_grinds prog_8_method_79_code 5 (some .int) ∈ lw_tbl := List.mem_of_getElem? (i := 1270) (by decide +kernel)
theorem mw_1271 : Cond.methodLink "MillOfDistancesModel" 272 yX6_ran ∈ lw_tbl := List.mem_of_getElem? (i := 1271) (by decide +kernel)
theorem mw_1272 : Cond.privateMethod yX6_ran ∈ lw_tbl := List.mem_of_getElem? (i := 1272) (by decide +kernel)
theorem mw_1273 : Cond.instanceMethod yX6_ran ∈ lw_tbl := List.mem_of_getElem? (i := 1273) (by decide +kernel)
theorem mw_1274 : Cond.code yX6_ran prog_8_method_78_code 2 none ∈ lw_tbl := List.mem_of_getElem? (i := 1274) (by decide +kernel)
theorem mw_1275 : Cond.methodLink "MillOfDistancesModel" 279 yX6_strews ∈ lw_tbl := List.mem_of_getElem? (i := 1275) (by decide +kernel)
theorem mw_1276 : Cond.privateMethod yX6_strews ∈ lw_tbl := List.mem_of_getElem? (i := 1276) (by decide +kernel)
theorem mw_1277 : Cond.instanceMethod yX6_strews ∈ lw_tbl := List.mem_of_getElem? (i := 1277) (by decide +kernel)
theorem mw_1278 : Cond.code yX6_strews prog_8_method_80_code 6 (some .int) ∈ lw_tbl := List.mem_of_getElem? (i := 1278) (by decide +kernel)
theorem mw_1279 : Cond.methodLink "MillOfDistancesModel" 282 yX6_blows ∈ lw_tbl := List.mem_of_getElem? (i := 1279) (by decide +kernel)
theorem mw_1280 : Cond.privateMethod yX6_blows ∈ lw_tbl := List.mem_of_getElem? (i := 1280) (by decide +kernel)
theorem mw_1281 : Cond.instanceMethod yX6_blows ∈ lw_tbl := List.mem_of_getElem? (i := 1281) (by decide +kernel)
theorem mw_1282 : Cond.code yX6_blows prog_8_method_81_code 6 (some .int) ∈ lw_tbl := List.mem_of_getElem? (i := 1282) (by decide +kernel)
theorem mw_1283 : Cond.methodLink "MillOfDistancesLaw" 170 yX6_trace ∈ lw_tbl := List.mem_of_getElem? (i := 1283) (by decide +kernel)
theorem mw_1284 : Cond.instanceMethod yX6_trace ∈ lw_tbl := List.mem_of_getElem? (i := 1284) (by decide +kernel)
theorem mw_1285 : Cond.selects "MillOfDistancesModel" yX6_trace yX6_trace ∈ lw_tbl := List.mem_of_getElem? (i := 1285) (by decide +kernel)
theorem mw_1286 : Cond.code yX6_trace prog_8_method_83_code 2 (some .int) ∈ lw_tbl := List.mem_of_getElem? (i := 1286) (by decide +kernel)
theorem mw_1287 : Cond.methodLink "MillOfDistancesLaw" 174 yX6_image ∈ lw_tbl := List.mem_of_getElem? (i := 1287) (by decide +kernel)
theorem mw_1288 : Cond.instanceMethod yX6_image ∈ lw_tbl := List.mem_of_getElem? (i := 1288) (by decide +kernel)
theorem mw_1289 : Cond.selects "MillOfDistancesModel" yX6_image yX6_image ∈ lw_tbl := List.mem_of_getElem? (i := 1289) (by decide +kernel)
theorem mw_1290 : Cond.code yX6_image prog_8_method_86_code 1 (some .int) ∈ lw_tbl := List.mem_of_getElem? (i := 1290) (by decide +kernel)
theorem mw_1291 : Cond.methodLink "MillOfDistancesLaw" 178 yX6_restore ∈ lw_tbl := List.mem_of_getElem? (i := 1291) (by decide +kernel)
theorem mw_1292 : Cond.instanceMethod yX6_restore ∈ lw_tbl := List.mem_of_getElem? (i := 1292) (by decide +kernel)
theorem mw_1293 : Cond.selects "MillOfDistancesModel" yX6_restore yX6_restore ∈ lw_tbl := List.mem_of_getElem? (i := 1293) (by decide +kernel)
theorem mw_1294 : Cond.code yX6_restore prog_8_method_87_code 2 (some .int) ∈ lw_tbl := List.mem_of_getElem? (i := 1294) (by decide +kernel)
theorem mw_1295 : Cond.methodLink "MillOfDistancesLaw" 182 yX6_status ∈ lw_tbl := List.mem_of_getElem? (i := 1295) (by decide +kernel)
theorem mw_1296 : Cond.instanceMethod yX6_status ∈ lw_tbl := List.mem_of_getElem? (i := 1296) (by decide +kernel)
theorem mw_1297 : Cond.selects "MillOfDistancesModel" yX6_status yX6_status ∈ lw_tbl := List.mem_of_getElem? (i := 1297) (by decide +kernel)
theorem mw_1298 : Cond.code yX6_status prog_8_method_88_code 4 (some .int) ∈ lw_tbl := List.mem_of_getElem? (i := 1298) (by decide +kernel)
theorem mw_1299 : Cond.constantLong "MillOfDistancesLaw" 18 4294967295 ∈ lw_tbl := List.mem_of_getElem? (i := 1299) (by decide +kernel)
theorem mw_1300 : Cond.fieldLink "java/lang/String" 9 "java/lang/String" "value" "[B" ∈ lw_tbl := List.mem_of_getElem? (i := 1300) (by decide +kernel)
theorem mw_1301 : Cond.fieldLink "java/lang/String" 15 "java/lang/String" "coder" "B" ∈ lw_tbl := List.mem_of_getElem? (i := 1301) (by decide +kernel)
